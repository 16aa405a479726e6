-- the layout of the cells that the law makes (by program: wip/whole/base.py), rules as the printed walks use them
def TGl : List (Nat × Nat) := [(11, 0), (10, 0), (25, 10), (26, 8), (0, 0), (1, 0), (6, 0), (20, 14), (20, 64), (20, 8), (3, 0), (3, 0), (3, 0), (3, 0), (3, 0), (3, 0), (3, 0), (3, 0), (3, 0), (3, 0), (9, 0), (20, 12), (9, 0), (20, 12), (9, 0), (20, 12), (9, 0), (20, 12), (9, 0), (20, 12), (9, 0), (20, 12), (9, 0), (20, 12), (9, 0), (20, 12), (10, 0), (25, 10), (26, 8), (0, 0), (1, 0), (6, 0), (20, 14), (20, 64), (20, 8), (3, 0), (3, 0), (3, 0), (3, 0), (3, 0), (3, 0), (3, 0), (3, 0), (3, 0), (3, 0), (9, 0), (20, 12), (9, 0), (20, 12), (9, 0), (20, 12), (9, 0), (20, 12), (9, 0), (20, 12), (9, 0), (20, 12), (9, 0), (20, 12), (9, 0), (20, 12), (5, 0), (23, 1000), (20, 1000), (20, 64), (2, 0), (27, 24), (20, 240), (20, 240), (21, 240), (7, 0), (20, 200), (20, 200), (20, 200), (20, 200), (8, 0), (20, 60), (20, 60), (20, 60), (20, 60), (22, 720), (20, 10), (12, 0), (20, 2), (20, 2), (20, 2), (20, 2), (20, 2), (20, 2), (20, 2), (20, 2), (20, 2), (20, 2), (20, 2), (20, 2), (20, 2), (20, 2), (20, 20), (20, 20), (20, 20), (20, 20), (21, 20), (20, 16), (20, 16), (20, 16), (20, 16), (20, 192), (20, 480), (20, 480), (21, 1442), (20, 10), (20, 10), (20, 10), (20, 10), (20, 10), (20, 8), (20, 8), (20, 721), (20, 24), (20, 1000), (20, 286), (20, 286), (20, 26), (20, 26), (20, 26), (20, 26000), (20, 6), (21, 6), (20, 6), (20, 6), (20, 6), (20, 6), (20, 6), (20, 6), (20, 6), (20, 6), (20, 6), (20, 10), (20, 10), (20, 200), (20, 200), (20, 200), (20, 200), (20, 200), (21, 240), (20, 60), (20, 60), (20, 60), (24, 1)]
def RRl : List (List (Option Nat)) := [[some 1, some 36, some 71, some 75, some 80, some 85, some 90, none, some 91], [none, some 2, none, some 3, none, none, none, none, some 4, none, none, none, none, none, none, some 6, some 9], [some 10, some 11, some 12, some 13, some 14, some 15, some 16, some 17, some 18, some 19], [some 20, some 22, some 24, some 26, some 28, some 30, some 32, some 34], [], [], [some 7, some 8], [], [], [], [], [], [], [], [], [], [], [], [], [], [none, none, none, none, none, none, some 21], [], [none, none, none, none, none, none, some 23], [], [none, none, none, none, none, none, some 25], [], [none, none, none, none, none, none, some 27], [], [none, none, none, none, none, none, some 29], [], [none, none, none, none, none, none, some 31], [], [none, none, none, none, none, none, some 33], [], [none, none, none, none, none, none, some 35], [], [none, some 37, none, some 38, none, none, none, none, some 39, none, none, none, none, none, none, some 41, some 44], [some 45, some 46, some 47, some 48, some 49, some 50, some 51, some 52, some 53, some 54], [some 55, some 57, some 59, some 61, some 63, some 65, some 67, some 69], [], [], [some 42, some 43], [], [], [], [], [], [], [], [], [], [], [], [], [], [none, none, none, none, none, none, some 56], [], [none, none, none, none, none, none, some 58], [], [none, none, none, none, none, none, some 60], [], [none, none, none, none, none, none, some 62], [], [none, none, none, none, none, none, some 64], [], [none, none, none, none, none, none, some 66], [], [none, none, none, none, none, none, some 68], [], [none, none, none, none, none, none, some 70], [], [some 72, none, none, none, none, none, none, some 73, none, some 74], [], [], [], [some 76, some 77, some 78, some 79], [], [], [], [], [none, none, none, some 81, some 82, some 83, some 84], [], [], [], [], [none, some 86, some 87, some 88, some 89], [], [], [], [], [], [], [none, some 93, some 94, some 95, some 96, some 97, some 98, some 99, some 100, some 101, some 102, some 103, some 104, some 105, some 106, some 107, some 108, some 109, some 110, some 111, some 112, some 113, some 114, some 115, some 116, some 117, some 118, some 119, none, some 120, some 121, some 122, some 123, some 124, none, some 125, some 126, none, some 127, some 128, none, none, none, some 129, none, none, none, none, none, none, none, some 130, some 131, some 132, some 133, some 134, some 135, none, some 136, some 137, some 138, some 139, some 140, some 141, some 142, some 143, some 144, some 145, none, none, some 146, some 147, some 148, none, some 149, some 150, some 151, some 152, some 153, some 154, none, some 155, some 156, some 157], [], [], [], [], [], [], [], [], [], [], [], [], [], [], [], [], [], [], [], [], [], [], [], [], [], [], [], [], [], [], [], [], [], [], [], [], [], [], [], [], [], [], [], [], [], [], [], [], [], [], [], [], [], [], [], [], [], [], [], [], [], [], [], [], [], []]
def TGf (a : Nat) : Nat × Nat := TGl.getD a (0, 0)
def RRf (a j : Nat) : Option Nat := (RRl.getD a []).getD j none
/-- the fixed part of the layout -/
def LY (L : Lay) : Prop := 159 ≤ L.1 ∧ (∀ a, a < 159 → L.2.1 a = TGf a) ∧ ∀ a, a < 159 → ∀ j x, RRf a j = some x → L.2.2 a j = some x
/-- the layout grows -/
def LE (L L' : Lay) : Prop := L.1 ≤ L'.1 ∧ (∀ a, a < L.1 → L'.2.1 a = L.2.1 a) ∧ ∀ a, a < L.1 → ∀ j, L'.2.2 a j = L.2.2 a j
theorem LE.rf (L : Lay) : LE L L := ⟨Nat.le_refl _, fun _ _ => rfl, fun _ _ _ => rfl⟩
theorem LE.tr {L L' L'' : Lay} (h1 : LE L L') (h2 : LE L' L'') : LE L L'' := ⟨Nat.le_trans h1.1 h2.1, fun a ha => (h2.2.1 a (Nat.lt_of_lt_of_le ha h1.1)).trans (h1.2.1 a ha), fun a ha j => (h2.2.2 a (Nat.lt_of_lt_of_le ha h1.1) j).trans (h1.2.2 a ha j)⟩
theorem LE.al0 (L : Lay) (M : Mem) (tg : Nat × Nat) : LE L (alc (L, M) tg).1 := ⟨Nat.le_succ _, fun a ha => if_neg (Nat.ne_of_lt ha), fun a ha j => by
  show (if a = L.1 then fun _ => none else L.2.2 a) j = _
  rw [if_neg (Nat.ne_of_lt ha)]⟩
theorem LE.ly {L L' : Lay} (h : LE L L') (hL : LY L) : LY L' := ⟨Nat.le_trans hL.1 h.1, fun a ha => (h.2.1 a (Nat.lt_of_lt_of_le ha hL.1)).trans (hL.2.1 a ha), fun a ha j x e => (h.2.2 a (Nat.lt_of_lt_of_le ha hL.1) j).trans (hL.2.2 a ha j x e)⟩
theorem LE.ob {L L' : Lay} (h : LE L L') {a c : Nat} (ho : OB L a c) : OB L' a c := ⟨Nat.lt_of_lt_of_le ho.1 h.1, (h.2.1 a ho.1).trans ho.2⟩
theorem LE.ar {L L' : Lay} (h : LE L L') {a t n : Nat} (ho : AR L a t n) : AR L' a t n := ⟨Nat.lt_of_lt_of_le ho.1 h.1, (h.2.1 a ho.1).trans ho.2⟩
theorem LY.ob {L : Lay} (h : LY L) {a c : Nat} (ha : a < 159) (e : TGf a = (c, 0)) : OB L a c := ⟨Nat.lt_of_lt_of_le ha h.1, (h.2.1 a ha).trans e⟩
theorem LY.ar {L : Lay} (h : LY L) {a t n : Nat} (ha : a < 159) (e : TGf a = (20 + t, n)) : AR L a t n := ⟨Nat.lt_of_lt_of_le ha h.1, (h.2.1 a ha).trans e⟩
theorem LY.rr {L : Lay} (h : LY L) {a j x : Nat} (ha : a < 159) (e : RRf a j = some x) : lr L a j = some x := h.2.2 a ha j x e
/-- a world: the world of the object, or that of its trials -/
def IsW (w : Nat) : Prop := w = 1 ∨ w = 36
def oA (w i : Nat) : Nat := w + 9 + i
def sA (w i : Nat) : Nat := w + 19 + 2 * i
def IsS (L : Lay) (s : Nat) : Prop := OB L s 9 ∧ lr L s 6 = some (s + 1) ∧ AR L (s + 1) 0 12
def IsR (L : Lay) (r : Nat) : Prop := OB L r 6 ∧ lr L r 0 = some (r + 1) ∧ lr L r 1 = some (r + 2) ∧ AR L (r + 1) 0 14 ∧ AR L (r + 2) 0 64
theorem vp_lt {x : Int32} {n : Nat} (h : vp_in x n) : x.toNatClampNeg < n := Nat.not_le.mp fun q => h (Or.inr q)
theorem vlit {i : Int32} {n : Nat} (h : ¬ (i < 0 ∨ n ≤ i.toNatClampNeg)) : vp_in i n := h
section LYW
variable {L : Lay} {w : Nat}
theorem LY.wob (h : LY L) (hw : IsW w) {k c : Nat} (e1 : TGf (1 + k) = (c, 0)) (e2 : TGf (36 + k) = (c, 0)) (hk : k < 35) : OB L (w + k) c := by
  rcases hw with rfl | rfl
  · exact h.ob (by omega) e1
  · exact h.ob (by omega) e2
theorem LY.war (h : LY L) (hw : IsW w) {k t n : Nat} (e1 : TGf (1 + k) = (20 + t, n)) (e2 : TGf (36 + k) = (20 + t, n)) (hk : k < 35) : AR L (w + k) t n := by
  rcases hw with rfl | rfl
  · exact h.ar (by omega) e1
  · exact h.ar (by omega) e2
theorem LY.wrr (h : LY L) (hw : IsW w) {k j x : Nat} (e1 : RRf (1 + k) j = some (1 + x)) (e2 : RRf (36 + k) j = some (36 + x)) (hk : k < 35) : lr L (w + k) j = some (w + x) := by
  rcases hw with rfl | rfl
  · exact h.rr (by omega) e1
  · exact h.rr (by omega) e2
theorem own_tab : ∀ i, i < 10 → TGf (1 + 9 + i) = (3, 0) ∧ TGf (36 + 9 + i) = (3, 0) ∧ RRf 2 i = some (1 + 9 + i) ∧ RRf 37 i = some (36 + 9 + i) := by decide +kernel
theorem shp_tab : ∀ i, i < 8 → TGf (1 + 19 + 2 * i) = (9, 0) ∧ TGf (36 + 19 + 2 * i) = (9, 0) ∧ TGf (1 + 19 + 2 * i + 1) = (20, 12) ∧ TGf (36 + 19 + 2 * i + 1) = (20, 12) ∧ RRf 3 i = some (1 + 19 + 2 * i) ∧ RRf 38 i = some (36 + 19 + 2 * i) ∧ RRf (1 + 19 + 2 * i) 6 = some (1 + 19 + 2 * i + 1) ∧ RRf (36 + 19 + 2 * i) 6 = some (36 + 19 + 2 * i + 1) := by decide +kernel
theorem LY.own (h : LY L) (hw : IsW w) {i : Nat} (hi : i < 10) : OB L (oA w i) 3 := by
  obtain ⟨t1, t2, -, -⟩ := own_tab i hi
  rcases hw with rfl | rfl
  · exact h.ob (by show 1 + 9 + i < _; omega) t1
  · exact h.ob (by show 36 + 9 + i < _; omega) t2
theorem LY.ownr (h : LY L) (hw : IsW w) {i : Nat} (hi : i < 10) : lr L (w + 1) i = some (oA w i) := by
  obtain ⟨-, -, t1, t2⟩ := own_tab i hi
  rcases hw with rfl | rfl
  · exact h.rr (by omega) t1
  · exact h.rr (by omega) t2
theorem LY.shp (h : LY L) (hw : IsW w) {i : Nat} (hi : i < 8) : IsS L (sA w i) := by
  obtain ⟨t1, t2, t3, t4, -, -, t7, t8⟩ := shp_tab i hi
  rcases hw with rfl | rfl
  · exact ⟨h.ob (by show 1 + 19 + 2 * i < _; omega) t1, h.rr (by show 1 + 19 + 2 * i < _; omega) t7, h.ar (by show 1 + 19 + 2 * i + 1 < _; omega) t3⟩
  · exact ⟨h.ob (by show 36 + 19 + 2 * i < _; omega) t2, h.rr (by show 36 + 19 + 2 * i < _; omega) t8, h.ar (by show 36 + 19 + 2 * i + 1 < _; omega) t4⟩
theorem LY.shpr (h : LY L) (hw : IsW w) {i : Nat} (hi : i < 8) : lr L (w + 2) i = some (sA w i) := by
  obtain ⟨-, -, -, -, t1, t2, -, -⟩ := shp_tab i hi
  rcases hw with rfl | rfl
  · exact h.rr (by omega) t1
  · exact h.rr (by omega) t2
theorem LY.rek (h : LY L) (hw : IsW w) : IsR L (w + 5) :=
  ⟨h.wob hw rfl rfl (by decide), h.wrr (k := 5) (x := 6) hw rfl rfl (by decide), h.wrr (k := 5) (x := 7) hw rfl rfl (by decide), h.war (k := 6) hw rfl rfl (by decide), h.war (k := 7) hw rfl rfl (by decide)⟩
theorem LY.W (h : LY L) (hw : IsW w) : OB L w 10 := h.wob (k := 0) hw rfl rfl (by decide)
end LYW
abbrev tn (x : Int32) : Nat := x.toNatClampNeg
def jrem (x y : Int32) : Int32 := x - x / y * y
def jshl (x y : Int32) : Int32 := x <<< (y &&& 31)
def jshr (x y : Int32) : Int32 := x >>> (y &&& 31)
def jushr (x y : Int32) : Int32 := (x.toUInt32 >>> (y.toUInt32 &&& Int32.toUInt32 31)).toInt32
def jlrem (x y : Int64) : Int64 := x - x / y * y
def jlshl (x : Int64) (y : Int32) : Int64 := x <<< (y.toInt64 &&& 63)
def jlushr (x : Int64) (y : Int32) : Int64 := (x.toUInt64 >>> (y.toInt64.toUInt64 &&& Int64.toUInt64 63)).toInt64
def jmax (x y : Int32) : Int32 := if x < y then y else x
def jmin (x y : Int32) : Int32 := if y < x then y else x
def jchr (x : Int32) : Int32 := (x.toUInt32 % 65536).toInt32
def jbyt (x : Int32) : Int32 := x.toInt8.toInt32
def narB (x : Int32) : Int32 := vp_nar .byte x
def narC (x : Int32) : Int32 := vp_nar .char x
def narZ (x : Int32) : Int32 := vp_nar .boolean x
/-- what a method may answer: the layout stays -/
def QI (L : Lay) (Q : Int32 → Mem → Prop) : Option Value → Hp → Prop := fun r h => ∃ (x : Int32) (M : Mem), r = some (.int x) ∧ h = (L, M) ∧ Q x M
def QZ (L : Lay) (Q : Int32 → Mem → Prop) : Option Value → Hp → Prop := fun r h => ∃ (x : Int32) (M : Mem), r = some (.int x) ∧ BZ x ∧ h = (L, M) ∧ Q x M
def QV (L : Lay) (Q : Mem → Prop) : Option Value → Hp → Prop := fun r h => ∃ (M : Mem), r = none ∧ h = (L, M) ∧ Q M
/-- .. it grows -/
def QIa (L : Lay) (Q : Int32 → Lay → Mem → Prop) : Option Value → Hp → Prop := fun r h => ∃ (x : Int32) (L' : Lay) (M : Mem), r = some (.int x) ∧ h = (L', M) ∧ LE L L' ∧ Q x L' M
def QVa (L : Lay) (Q : Lay → Mem → Prop) : Option Value → Hp → Prop := fun r h => ∃ (L' : Lay) (M : Mem), r = none ∧ h = (L', M) ∧ LE L L' ∧ Q L' M
def QRa (L : Lay) (Q : Option Nat → Lay → Mem → Prop) : Option Value → Hp → Prop := fun r h => ∃ (x : Option Nat) (L' : Lay) (M : Mem), r = some (va_rf x) ∧ h = (L', M) ∧ LE L L' ∧ Q x L' M
section XW
variable {F : Fin9} {own : String} {b : ByteArray} {ret : Option FieldType} {mL : Nat} {nm : String} {d rc rs : Nat} {L : Lay} {M : Mem} {pc : Nat} {ls st : List Value}
theorem X_rfS {h : Hp} {o : Option Nat} {a : Nat} (e : o = some a) (k : X F own b ret mL nm d rc rs h pc ls (.ref a :: st)) : X F own b ret mL nm d rc rs h pc ls (va_rf o :: st) := by subst e; exact k
theorem Y_iald (q : Nat) {a n k : Nat} {i : Int32} (ha : AR L a 0 n) (hin : vp_in i n) (hk : tn i = k) (hd : decode b pc = .ok (.iaload, 1)) (hp : pc + 1 = q) (kk : X F own b ret mL nm d rc rs (L, M) q ls (.int (mi M a k) :: st)) : X F own b ret mL nm d rc rs (L, M) pc ls (.int i :: .ref a :: st) := by subst hk; exact X_iald q ha hin hd hp kk
theorem Y_zald (q : Nat) {a n k : Nat} {i : Int32} (ha : AR L a 1 n) (hin : vp_in i n) (hk : tn i = k) (hd : decode b pc = .ok (.baload, 1)) (hp : pc + 1 = q) (kk : X F own b ret mL nm d rc rs (L, M) q ls (.int (mi M a k) :: st)) : X F own b ret mL nm d rc rs (L, M) pc ls (.int i :: .ref a :: st) := by subst hk; exact X_zald q ha hin hd hp kk
theorem Y_bald (q : Nat) {a n k : Nat} {i : Int32} (ha : AR L a 2 n) (hin : vp_in i n) (hk : tn i = k) (hd : decode b pc = .ok (.baload, 1)) (hp : pc + 1 = q) (kk : X F own b ret mL nm d rc rs (L, M) q ls (.int (mi M a k) :: st)) : X F own b ret mL nm d rc rs (L, M) pc ls (.int i :: .ref a :: st) := by subst hk; exact X_bald q ha hin hd hp kk
theorem Y_cald (q : Nat) {a n k : Nat} {i : Int32} (ha : AR L a 3 n) (hin : vp_in i n) (hk : tn i = k) (hd : decode b pc = .ok (.caload, 1)) (hp : pc + 1 = q) (kk : X F own b ret mL nm d rc rs (L, M) q ls (.int (mi M a k) :: st)) : X F own b ret mL nm d rc rs (L, M) pc ls (.int i :: .ref a :: st) := by subst hk; exact X_cald q ha hin hd hp kk
theorem Y_lald (q : Nat) {a n k : Nat} {i : Int32} (ha : AR L a 4 n) (hin : vp_in i n) (hk : tn i = k) (hd : decode b pc = .ok (.laload, 1)) (hp : pc + 1 = q) (kk : X F own b ret mL nm d rc rs (L, M) q ls (.long (ml M a k) :: st)) : X F own b ret mL nm d rc rs (L, M) pc ls (.int i :: .ref a :: st) := by subst hk; exact X_lald q ha hin hd hp kk
theorem Y_iast (q : Nat) {a n k : Nat} {i x : Int32} (ha : AR L a 0 n) (hin : vp_in i n) (hk : tn i = k) (hd : decode b pc = .ok (.iastore, 1)) (hp : pc + 1 = q) (kk : X F own b ret mL nm d rc rs (L, si M a k x) q ls st) : X F own b ret mL nm d rc rs (L, M) pc ls (.int x :: .int i :: .ref a :: st) := by subst hk; exact X_iast q ha hin hd hp kk
theorem Y_zast (q : Nat) {a n k : Nat} {i x : Int32} (ha : AR L a 1 n) (hin : vp_in i n) (hk : tn i = k) (hd : decode b pc = .ok (.bastore, 1)) (hp : pc + 1 = q) (kk : X F own b ret mL nm d rc rs (L, si M a k (narZ x)) q ls st) : X F own b ret mL nm d rc rs (L, M) pc ls (.int x :: .int i :: .ref a :: st) := by subst hk; exact X_zast q ha hin hd hp kk
theorem Y_bast (q : Nat) {a n k : Nat} {i x : Int32} (ha : AR L a 2 n) (hin : vp_in i n) (hk : tn i = k) (hd : decode b pc = .ok (.bastore, 1)) (hp : pc + 1 = q) (kk : X F own b ret mL nm d rc rs (L, si M a k (narB x)) q ls st) : X F own b ret mL nm d rc rs (L, M) pc ls (.int x :: .int i :: .ref a :: st) := by subst hk; exact X_bast q ha hin hd hp kk
theorem Y_cast (q : Nat) {a n k : Nat} {i x : Int32} (ha : AR L a 3 n) (hin : vp_in i n) (hk : tn i = k) (hd : decode b pc = .ok (.castore, 1)) (hp : pc + 1 = q) (kk : X F own b ret mL nm d rc rs (L, si M a k (narC x)) q ls st) : X F own b ret mL nm d rc rs (L, M) pc ls (.int x :: .int i :: .ref a :: st) := by subst hk; exact X_cast q ha hin hd hp kk
theorem Y_last (q : Nat) {a n k : Nat} {i : Int32} {x : Int64} (ha : AR L a 4 n) (hin : vp_in i n) (hk : tn i = k) (hd : decode b pc = .ok (.lastore, 1)) (hp : pc + 1 = q) (kk : X F own b ret mL nm d rc rs (L, sl M a k x) q ls st) : X F own b ret mL nm d rc rs (L, M) pc ls (.long x :: .int i :: .ref a :: st) := by subst hk; exact X_last q ha hin hd hp kk
theorem Y_irem (q : Nat) {x y : Int32} {h : Hp} (hd : decode b pc = .ok (.irem, 1)) (hp : pc + 1 = q) (hy : ¬ y = 0) (kk : X F own b ret mL nm d rc rs h q ls (.int (jrem x y) :: st)) : X F own b ret mL nm d rc rs h pc ls (.int y :: .int x :: st) := X_irem q hd hp hy kk
theorem Y_lrem (q : Nat) {x y : Int64} {h : Hp} (hd : decode b pc = .ok (.lrem, 1)) (hp : pc + 1 = q) (hy : ¬ y = 0) (kk : X F own b ret mL nm d rc rs h q ls (.long (jlrem x y) :: st)) : X F own b ret mL nm d rc rs h pc ls (.long y :: .long x :: st) := X_lrem q hd hp hy kk
theorem Y_ishl (q : Nat) {x y : Int32} {h : Hp} (hd : decode b pc = .ok (.ishl, 1)) (hp : pc + 1 = q) (kk : X F own b ret mL nm d rc rs h q ls (.int (jshl x y) :: st)) : X F own b ret mL nm d rc rs h pc ls (.int y :: .int x :: st) := X_ishl q hd hp kk
theorem Y_ishr (q : Nat) {x y : Int32} {h : Hp} (hd : decode b pc = .ok (.ishr, 1)) (hp : pc + 1 = q) (kk : X F own b ret mL nm d rc rs h q ls (.int (jshr x y) :: st)) : X F own b ret mL nm d rc rs h pc ls (.int y :: .int x :: st) := X_ishr q hd hp kk
theorem Y_iushr (q : Nat) {x y : Int32} {h : Hp} (hd : decode b pc = .ok (.iushr, 1)) (hp : pc + 1 = q) (kk : X F own b ret mL nm d rc rs h q ls (.int (jushr x y) :: st)) : X F own b ret mL nm d rc rs h pc ls (.int y :: .int x :: st) := X_iushr q hd hp rfl kk
theorem Y_lshl (q : Nat) {x : Int64} {y : Int32} {h : Hp} (hd : decode b pc = .ok (.lshl, 1)) (hp : pc + 1 = q) (kk : X F own b ret mL nm d rc rs h q ls (.long (jlshl x y) :: st)) : X F own b ret mL nm d rc rs h pc ls (.int y :: .long x :: st) := X_lshl q hd hp rfl kk
theorem Y_lushr (q : Nat) {x : Int64} {y : Int32} {h : Hp} (hd : decode b pc = .ok (.lushr, 1)) (hp : pc + 1 = q) (kk : X F own b ret mL nm d rc rs h q ls (.long (jlushr x y) :: st)) : X F own b ret mL nm d rc rs h pc ls (.int y :: .long x :: st) := X_lushr q hd hp rfl kk
theorem Y_i2b (q : Nat) {x : Int32} {h : Hp} (hd : decode b pc = .ok (.i2b, 1)) (hp : pc + 1 = q) (kk : X F own b ret mL nm d rc rs h q ls (.int (jbyt x) :: st)) : X F own b ret mL nm d rc rs h pc ls (.int x :: st) := X_i2b q hd hp kk
theorem Y_i2c (q : Nat) {x : Int32} {h : Hp} (hd : decode b pc = .ok (.i2c, 1)) (hp : pc + 1 = q) (kk : X F own b ret mL nm d rc rs h q ls (.int (jchr x) :: st)) : X F own b ret mL nm d rc rs h pc ls (.int x :: st) := X_i2c q hd hp kk
theorem Y_mmax (q : Nat) {idx : Nat} {x y : Int32} {h : Hp} (hw : Cond.methodLink own idx Lib.Math.max.name ∈ GW) (hd1 : 1 ≤ d) (hs : st.length ≤ 4) (hd : decode b pc = .ok (.invokestatic idx, 3)) (hp : pc + 3 = q) (kk : X F own b ret mL nm d rc rs h q ls (.int (jmax x y) :: st)) : X F own b ret mL nm d rc rs h pc ls (.int y :: .int x :: st) := X_mmax q hw mmax_s math_i mmax_c hd1 hs hd hp kk
theorem Y_mmin (q : Nat) {idx : Nat} {x y : Int32} {h : Hp} (hw : Cond.methodLink own idx Lib.Math.min.name ∈ GW) (hd1 : 1 ≤ d) (hs : st.length ≤ 4) (hd : decode b pc = .ok (.invokestatic idx, 3)) (hp : pc + 3 = q) (kk : X F own b ret mL nm d rc rs h q ls (.int (jmin x y) :: st)) : X F own b ret mL nm d rc rs h pc ls (.int y :: .int x :: st) := X_mmin q hw mmin_s math_i mmin_c hd1 hs hd hp kk
theorem Y_cVI (q : Nat) {idx : Nat} {y : MethodName} {b' : ByteArray} {ret' : Option FieldType} {mL' d' n : Nat} {a c : Nat} {as : List Value} {Q : Int32 → Mem → Prop} (hcl : CV own idx y c b' mL' ret' n) (hM : MX y b' ret' mL' d' 0 0 (.ref a :: as) (L, M) (QI L Q)) (ho : OB L a c) (hn : as.length = n) (hd' : d' + 1 ≤ d) (hw : st.length ≤ 4)
    (hd : decode b pc = .ok (.invokevirtual idx, 3)) (hp : pc + 3 = q) {st1 : List Value} (hst : as.reverse ++ .ref a :: st = st1) (kk : ∀ (x : Int32) (M' : Mem), Q x M' → X F own b ret mL nm d rc rs (L, M') q ls (.int x :: st)) : X F own b ret mL nm d rc rs (L, M) pc ls st1 :=
  X_callV q hcl hM ho hn hd' (Nat.zero_le _) (Nat.zero_le _) hw hd hp hst (fun r h' hq => by obtain ⟨x, M1, rfl, rfl, hq⟩ := hq; exact kk x M1 hq)
theorem Y_cVZ (q : Nat) {idx : Nat} {y : MethodName} {b' : ByteArray} {ret' : Option FieldType} {mL' d' n : Nat} {a c : Nat} {as : List Value} {Q : Int32 → Mem → Prop} (hcl : CV own idx y c b' mL' ret' n) (hM : MX y b' ret' mL' d' 0 0 (.ref a :: as) (L, M) (QZ L Q)) (ho : OB L a c) (hn : as.length = n) (hd' : d' + 1 ≤ d) (hw : st.length ≤ 4)
    (hd : decode b pc = .ok (.invokevirtual idx, 3)) (hp : pc + 3 = q) {st1 : List Value} (hst : as.reverse ++ .ref a :: st = st1) (kk : ∀ (x : Int32) (M' : Mem), BZ x → Q x M' → X F own b ret mL nm d rc rs (L, M') q ls (.int x :: st)) : X F own b ret mL nm d rc rs (L, M) pc ls st1 :=
  X_callV q hcl hM ho hn hd' (Nat.zero_le _) (Nat.zero_le _) hw hd hp hst (fun r h' hq => by obtain ⟨x, M1, rfl, hz, rfl, hq⟩ := hq; exact kk x M1 hz hq)
theorem Y_cVV (q : Nat) {idx : Nat} {y : MethodName} {b' : ByteArray} {ret' : Option FieldType} {mL' d' n : Nat} {a c : Nat} {as : List Value} {Q : Mem → Prop} (hcl : CV own idx y c b' mL' ret' n) (hM : MX y b' ret' mL' d' 0 0 (.ref a :: as) (L, M) (QV L Q)) (ho : OB L a c) (hn : as.length = n) (hd' : d' + 1 ≤ d) (hw : st.length ≤ 4)
    (hd : decode b pc = .ok (.invokevirtual idx, 3)) (hp : pc + 3 = q) {st1 : List Value} (hst : as.reverse ++ .ref a :: st = st1) (kk : ∀ (M' : Mem), Q M' → X F own b ret mL nm d rc rs (L, M') q ls st) : X F own b ret mL nm d rc rs (L, M) pc ls st1 :=
  X_callV q hcl hM ho hn hd' (Nat.zero_le _) (Nat.zero_le _) hw hd hp hst (fun r h' hq => by obtain ⟨M1, rfl, rfl, hq⟩ := hq; exact kk M1 hq)
theorem Y_cSI (q : Nat) {idx : Nat} {y : MethodName} {b' : ByteArray} {ret' : Option FieldType} {mL' d' n : Nat} {as : List Value} {Q : Int32 → Mem → Prop} (hcl : CT own idx y b' mL' ret' n) (hM : MX y b' ret' mL' d' 0 0 (as) (L, M) (QI L Q)) (hn : as.length = n) (hd' : d' + 1 ≤ d) (hw : st.length ≤ 4)
    (hd : decode b pc = .ok (.invokestatic idx, 3)) (hp : pc + 3 = q) {st1 : List Value} (hst : as.reverse ++ st = st1) (kk : ∀ (x : Int32) (M' : Mem), Q x M' → X F own b ret mL nm d rc rs (L, M') q ls (.int x :: st)) : X F own b ret mL nm d rc rs (L, M) pc ls st1 :=
  X_callS q hcl hM hn hd' (Nat.zero_le _) (Nat.zero_le _) hw hd hp hst (fun r h' hq => by obtain ⟨x, M1, rfl, rfl, hq⟩ := hq; exact kk x M1 hq)
theorem Y_cSZ (q : Nat) {idx : Nat} {y : MethodName} {b' : ByteArray} {ret' : Option FieldType} {mL' d' n : Nat} {as : List Value} {Q : Int32 → Mem → Prop} (hcl : CT own idx y b' mL' ret' n) (hM : MX y b' ret' mL' d' 0 0 (as) (L, M) (QZ L Q)) (hn : as.length = n) (hd' : d' + 1 ≤ d) (hw : st.length ≤ 4)
    (hd : decode b pc = .ok (.invokestatic idx, 3)) (hp : pc + 3 = q) {st1 : List Value} (hst : as.reverse ++ st = st1) (kk : ∀ (x : Int32) (M' : Mem), BZ x → Q x M' → X F own b ret mL nm d rc rs (L, M') q ls (.int x :: st)) : X F own b ret mL nm d rc rs (L, M) pc ls st1 :=
  X_callS q hcl hM hn hd' (Nat.zero_le _) (Nat.zero_le _) hw hd hp hst (fun r h' hq => by obtain ⟨x, M1, rfl, hz, rfl, hq⟩ := hq; exact kk x M1 hz hq)
theorem Y_cSV (q : Nat) {idx : Nat} {y : MethodName} {b' : ByteArray} {ret' : Option FieldType} {mL' d' n : Nat} {as : List Value} {Q : Mem → Prop} (hcl : CT own idx y b' mL' ret' n) (hM : MX y b' ret' mL' d' 0 0 (as) (L, M) (QV L Q)) (hn : as.length = n) (hd' : d' + 1 ≤ d) (hw : st.length ≤ 4)
    (hd : decode b pc = .ok (.invokestatic idx, 3)) (hp : pc + 3 = q) {st1 : List Value} (hst : as.reverse ++ st = st1) (kk : ∀ (M' : Mem), Q M' → X F own b ret mL nm d rc rs (L, M') q ls st) : X F own b ret mL nm d rc rs (L, M) pc ls st1 :=
  X_callS q hcl hM hn hd' (Nat.zero_le _) (Nat.zero_le _) hw hd hp hst (fun r h' hq => by obtain ⟨M1, rfl, rfl, hq⟩ := hq; exact kk M1 hq)
theorem Y_cIV (q : Nat) {idx : Nat} {y : MethodName} {b' : ByteArray} {mL' d' n : Nat} {a : Nat} {as : List Value} {Q : Mem → Prop} (hcl : CN own idx y b' mL' n) (hM : MX y b' none mL' d' 0 0 (.ref a :: as) (L, M) (QV L Q)) (hn : as.length = n) (hd' : d' + 1 ≤ d) (hw : st.length ≤ 4)
    (hd : decode b pc = .ok (.invokespecial idx, 3)) (hp : pc + 3 = q) {st1 : List Value} (hst : as.reverse ++ .ref a :: st = st1) (kk : ∀ (M' : Mem), Q M' → X F own b ret mL nm d rc rs (L, M') q ls st) : X F own b ret mL nm d rc rs (L, M) pc ls st1 :=
  X_callI q hcl hM hn hd' (Nat.zero_le _) (Nat.zero_le _) hw hd hp hst (fun r h' hq => by obtain ⟨M1, rfl, rfl, hq⟩ := hq; exact kk M1 hq)
theorem Y_aVI (q : Nat) {idx : Nat} {y : MethodName} {b' : ByteArray} {ret' : Option FieldType} {mL' d' rc' rs' n : Nat} {a c : Nat} {as : List Value} {Q : Int32 → Lay → Mem → Prop} (hcl : CV own idx y c b' mL' ret' n) (hM : MX y b' ret' mL' d' rc' rs' (.ref a :: as) (L, M) (QIa L Q)) (ho : OB L a c) (hn : as.length = n) (hd' : d' + 1 ≤ d) (hrc : rc' ≤ rc) (hrs : rs' ≤ rs) (hw : st.length ≤ 4)
    (hd : decode b pc = .ok (.invokevirtual idx, 3)) (hp : pc + 3 = q) {st1 : List Value} (hst : as.reverse ++ .ref a :: st = st1) (kk : ∀ (x : Int32) (L' : Lay) (M' : Mem), LE L L' → Q x L' M' → X F own b ret mL nm d (rc - rc') (rs - rs') (L', M') q ls (.int x :: st)) : X F own b ret mL nm d rc rs (L, M) pc ls st1 :=
  X_callV q hcl hM ho hn hd' hrc hrs hw hd hp hst (fun r h' hq => by obtain ⟨x, L1, M1, rfl, rfl, hE, hq⟩ := hq; exact kk x L1 M1 hE hq)
theorem Y_aVR (q : Nat) {idx : Nat} {y : MethodName} {b' : ByteArray} {ret' : Option FieldType} {mL' d' rc' rs' n : Nat} {a c : Nat} {as : List Value} {Q : Option Nat → Lay → Mem → Prop} (hcl : CV own idx y c b' mL' ret' n) (hM : MX y b' ret' mL' d' rc' rs' (.ref a :: as) (L, M) (QRa L Q)) (ho : OB L a c) (hn : as.length = n) (hd' : d' + 1 ≤ d) (hrc : rc' ≤ rc) (hrs : rs' ≤ rs) (hw : st.length ≤ 4)
    (hd : decode b pc = .ok (.invokevirtual idx, 3)) (hp : pc + 3 = q) {st1 : List Value} (hst : as.reverse ++ .ref a :: st = st1) (kk : ∀ (x : Option Nat) (L' : Lay) (M' : Mem), LE L L' → Q x L' M' → X F own b ret mL nm d (rc - rc') (rs - rs') (L', M') q ls (va_rf x :: st)) : X F own b ret mL nm d rc rs (L, M) pc ls st1 :=
  X_callV q hcl hM ho hn hd' hrc hrs hw hd hp hst (fun r h' hq => by obtain ⟨x, L1, M1, rfl, rfl, hE, hq⟩ := hq; exact kk x L1 M1 hE hq)
theorem Y_aVV (q : Nat) {idx : Nat} {y : MethodName} {b' : ByteArray} {ret' : Option FieldType} {mL' d' rc' rs' n : Nat} {a c : Nat} {as : List Value} {Q : Lay → Mem → Prop} (hcl : CV own idx y c b' mL' ret' n) (hM : MX y b' ret' mL' d' rc' rs' (.ref a :: as) (L, M) (QVa L Q)) (ho : OB L a c) (hn : as.length = n) (hd' : d' + 1 ≤ d) (hrc : rc' ≤ rc) (hrs : rs' ≤ rs) (hw : st.length ≤ 4)
    (hd : decode b pc = .ok (.invokevirtual idx, 3)) (hp : pc + 3 = q) {st1 : List Value} (hst : as.reverse ++ .ref a :: st = st1) (kk : ∀ (L' : Lay) (M' : Mem), LE L L' → Q L' M' → X F own b ret mL nm d (rc - rc') (rs - rs') (L', M') q ls st) : X F own b ret mL nm d rc rs (L, M) pc ls st1 :=
  X_callV q hcl hM ho hn hd' hrc hrs hw hd hp hst (fun r h' hq => by obtain ⟨L1, M1, rfl, rfl, hE, hq⟩ := hq; exact kk L1 M1 hE hq)
theorem Y_aSI (q : Nat) {idx : Nat} {y : MethodName} {b' : ByteArray} {ret' : Option FieldType} {mL' d' rc' rs' n : Nat} {as : List Value} {Q : Int32 → Lay → Mem → Prop} (hcl : CT own idx y b' mL' ret' n) (hM : MX y b' ret' mL' d' rc' rs' (as) (L, M) (QIa L Q)) (hn : as.length = n) (hd' : d' + 1 ≤ d) (hrc : rc' ≤ rc) (hrs : rs' ≤ rs) (hw : st.length ≤ 4)
    (hd : decode b pc = .ok (.invokestatic idx, 3)) (hp : pc + 3 = q) {st1 : List Value} (hst : as.reverse ++ st = st1) (kk : ∀ (x : Int32) (L' : Lay) (M' : Mem), LE L L' → Q x L' M' → X F own b ret mL nm d (rc - rc') (rs - rs') (L', M') q ls (.int x :: st)) : X F own b ret mL nm d rc rs (L, M) pc ls st1 :=
  X_callS q hcl hM hn hd' hrc hrs hw hd hp hst (fun r h' hq => by obtain ⟨x, L1, M1, rfl, rfl, hE, hq⟩ := hq; exact kk x L1 M1 hE hq)
theorem Y_aSR (q : Nat) {idx : Nat} {y : MethodName} {b' : ByteArray} {ret' : Option FieldType} {mL' d' rc' rs' n : Nat} {as : List Value} {Q : Option Nat → Lay → Mem → Prop} (hcl : CT own idx y b' mL' ret' n) (hM : MX y b' ret' mL' d' rc' rs' (as) (L, M) (QRa L Q)) (hn : as.length = n) (hd' : d' + 1 ≤ d) (hrc : rc' ≤ rc) (hrs : rs' ≤ rs) (hw : st.length ≤ 4)
    (hd : decode b pc = .ok (.invokestatic idx, 3)) (hp : pc + 3 = q) {st1 : List Value} (hst : as.reverse ++ st = st1) (kk : ∀ (x : Option Nat) (L' : Lay) (M' : Mem), LE L L' → Q x L' M' → X F own b ret mL nm d (rc - rc') (rs - rs') (L', M') q ls (va_rf x :: st)) : X F own b ret mL nm d rc rs (L, M) pc ls st1 :=
  X_callS q hcl hM hn hd' hrc hrs hw hd hp hst (fun r h' hq => by obtain ⟨x, L1, M1, rfl, rfl, hE, hq⟩ := hq; exact kk x L1 M1 hE hq)
theorem Y_aSV (q : Nat) {idx : Nat} {y : MethodName} {b' : ByteArray} {ret' : Option FieldType} {mL' d' rc' rs' n : Nat} {as : List Value} {Q : Lay → Mem → Prop} (hcl : CT own idx y b' mL' ret' n) (hM : MX y b' ret' mL' d' rc' rs' (as) (L, M) (QVa L Q)) (hn : as.length = n) (hd' : d' + 1 ≤ d) (hrc : rc' ≤ rc) (hrs : rs' ≤ rs) (hw : st.length ≤ 4)
    (hd : decode b pc = .ok (.invokestatic idx, 3)) (hp : pc + 3 = q) {st1 : List Value} (hst : as.reverse ++ st = st1) (kk : ∀ (L' : Lay) (M' : Mem), LE L L' → Q L' M' → X F own b ret mL nm d (rc - rc') (rs - rs') (L', M') q ls st) : X F own b ret mL nm d rc rs (L, M) pc ls st1 :=
  X_callS q hcl hM hn hd' hrc hrs hw hd hp hst (fun r h' hq => by obtain ⟨L1, M1, rfl, rfl, hE, hq⟩ := hq; exact kk L1 M1 hE hq)
theorem Y_aIV (q : Nat) {idx : Nat} {y : MethodName} {b' : ByteArray} {mL' d' rc' rs' n : Nat} {a : Nat} {as : List Value} {Q : Lay → Mem → Prop} (hcl : CN own idx y b' mL' n) (hM : MX y b' none mL' d' rc' rs' (.ref a :: as) (L, M) (QVa L Q)) (hn : as.length = n) (hd' : d' + 1 ≤ d) (hrc : rc' ≤ rc) (hrs : rs' ≤ rs) (hw : st.length ≤ 4)
    (hd : decode b pc = .ok (.invokespecial idx, 3)) (hp : pc + 3 = q) {st1 : List Value} (hst : as.reverse ++ .ref a :: st = st1) (kk : ∀ (L' : Lay) (M' : Mem), LE L L' → Q L' M' → X F own b ret mL nm d (rc - rc') (rs - rs') (L', M') q ls st) : X F own b ret mL nm d rc rs (L, M) pc ls st1 :=
  X_callI q hcl hM hn hd' hrc hrs hw hd hp hst (fun r h' hq => by obtain ⟨L1, M1, rfl, rfl, hE, hq⟩ := hq; exact kk L1 M1 hE hq)
theorem X_nmH {h : Hp} (k : ∀ (L' : Lay) (M' : Mem), (L', M') = h → X F own b ret mL nm d rc rs (L', M') pc ls st) : X F own b ret mL nm d rc rs h pc ls st := k h.1 h.2 rfl
theorem X_nmLy (k : ∀ L' : Lay, L' = L → X F own b ret mL nm d rc rs (L', M) pc ls st) : X F own b ret mL nm d rc rs (L, M) pc ls st := k L rfl
theorem LE.of_alc {L1 : Lay} {M1 : Mem} {tg : Nat × Nat} (e : (L1, M1) = alc (L, M) tg) : LE L L1 := by
  have : L1 = (alc (L, M) tg).1 := congrArg Prod.fst e
  rw [this]; exact LE.al0 L M tg
theorem OB.of_alc {L1 : Lay} {M1 : Mem} {c : Nat} (e : (L1, M1) = alc (L, M) (c, 0)) : OB L1 L.1 c := by
  have : L1 = (alc (L, M) (c, 0)).1 := congrArg Prod.fst e
  rw [this]; exact ⟨Nat.lt_succ_self _, if_pos rfl⟩
theorem AR.of_alc {L1 : Lay} {M1 : Mem} {t n : Nat} (e : (L1, M1) = alc (L, M) (20 + t, n)) : AR L1 L.1 t n := by
  have : L1 = (alc (L, M) (20 + t, n)).1 := congrArg Prod.fst e
  rw [this]; exact ⟨Nat.lt_succ_self _, if_pos rfl⟩
/-- a fixed reference was written: the tags stay -/
def SRE (L L1 : Lay) : Prop := L1.1 = L.1 ∧ L1.2.1 = L.2.1
theorem SRE.mk {L1 : Lay} {a j : Nat} {x : Option Nat} (e : L1 = sr L a j x) : SRE L L1 := by subst e; exact ⟨rfl, rfl⟩
theorem SRE.ob {L1 : Lay} (h : SRE L L1) {a c : Nat} (ho : OB L a c) : OB L1 a c := ⟨by rw [h.1]; exact ho.1, by rw [h.2]; exact ho.2⟩
theorem SRE.ar {L1 : Lay} (h : SRE L L1) {a t n : Nat} (ho : AR L a t n) : AR L1 a t n := ⟨by rw [h.1]; exact ho.1, by rw [h.2]; exact ho.2⟩
/-- what a constructor keeps: the tags that there were -/
def LG (L L1 : Lay) : Prop := L.1 ≤ L1.1 ∧ ∀ a, a < L.1 → L1.2.1 a = L.2.1 a
theorem LG.ob {L1 : Lay} (h : LG L L1) {a c : Nat} (ho : OB L a c) : OB L1 a c := ⟨Nat.lt_of_lt_of_le ho.1 h.1, (h.2 a ho.1).trans ho.2⟩
theorem LG.ar {L1 : Lay} (h : LG L L1) {a t n : Nat} (ho : AR L a t n) : AR L1 a t n := ⟨Nat.lt_of_lt_of_le ho.1 h.1, (h.2 a ho.1).trans ho.2⟩
def QC (_ : Lay) (Q : Lay → Mem → Prop) : Option Value → Hp → Prop := fun r h => ∃ (L' : Lay) (M : Mem), r = none ∧ h = (L', M) ∧ Q L' M
theorem Y_kI (q : Nat) {idx : Nat} {y : MethodName} {b' : ByteArray} {mL' d' rc' rs' n : Nat} {a : Nat} {as : List Value} {Q : Lay → Mem → Prop} (hcl : CN own idx y b' mL' n) (hM : MX y b' none mL' d' rc' rs' (.ref a :: as) (L, M) (QC L Q)) (hn : as.length = n) (hd' : d' + 1 ≤ d) (hrc : rc' ≤ rc) (hrs : rs' ≤ rs) (hw : st.length ≤ 4)
    (hd : decode b pc = .ok (.invokespecial idx, 3)) (hp : pc + 3 = q) {st1 : List Value} (hst : as.reverse ++ .ref a :: st = st1) (kk : ∀ (L' : Lay) (M' : Mem), Q L' M' → X F own b ret mL nm d (rc - rc') (rs - rs') (L', M') q ls st) : X F own b ret mL nm d rc rs (L, M) pc ls st1 :=
  X_callI q hcl hM hn hd' hrc hrs hw hd hp hst (fun r h' hq => by obtain ⟨L1, M1, rfl, rfl, hq⟩ := hq; exact kk L1 M1 hq)
end XW
def LP1 {A1 : Type} (body : (A1 → Prop) → A1 → Prop) (a1 : A1) : Prop := ∃ (I : Nat → A1 → Prop) (n : Nat), I n a1 ∧ ∀ (n : Nat) (a1 : A1), I n a1 → body (fun a1 => ∃ m, m < n ∧ I m a1) a1
theorem LP1_s {A1 : Type} {body : (A1 → Prop) → A1 → Prop} {a1 : A1} (h : LP1 body a1) {G : A1 → Prop} (hb : ∀ (K : A1 → Prop) (a1 : A1), body K a1 → (∀ (a1 : A1), K a1 → G a1) → G a1) : G a1 := by
  obtain ⟨I, n, h0, hs⟩ := h
  have key : ∀ (N n : Nat) (a1 : A1), n < N → I n a1 → G a1 := by
    intro N
    induction N with
    | zero => intro n a1 hn; exact absurd hn (Nat.not_lt_zero _)
    | succ N ih =>
      intro n a1 hn hI
      exact hb _ a1 (hs n a1 hI) (fun a1 ⟨m, hm, hJ⟩ => ih m a1 (by omega) hJ)
  exact key (n + 1) n a1 (Nat.lt_succ_self n) h0
def LP2 {A1 A2 : Type} (body : (A1 → A2 → Prop) → A1 → A2 → Prop) (a1 : A1) (a2 : A2) : Prop := ∃ (I : Nat → A1 → A2 → Prop) (n : Nat), I n a1 a2 ∧ ∀ (n : Nat) (a1 : A1) (a2 : A2), I n a1 a2 → body (fun a1 a2 => ∃ m, m < n ∧ I m a1 a2) a1 a2
theorem LP2_s {A1 A2 : Type} {body : (A1 → A2 → Prop) → A1 → A2 → Prop} {a1 : A1} {a2 : A2} (h : LP2 body a1 a2) {G : A1 → A2 → Prop} (hb : ∀ (K : A1 → A2 → Prop) (a1 : A1) (a2 : A2), body K a1 a2 → (∀ (a1 : A1) (a2 : A2), K a1 a2 → G a1 a2) → G a1 a2) : G a1 a2 := by
  obtain ⟨I, n, h0, hs⟩ := h
  have key : ∀ (N n : Nat) (a1 : A1) (a2 : A2), n < N → I n a1 a2 → G a1 a2 := by
    intro N
    induction N with
    | zero => intro n a1 a2 hn; exact absurd hn (Nat.not_lt_zero _)
    | succ N ih =>
      intro n a1 a2 hn hI
      exact hb _ a1 a2 (hs n a1 a2 hI) (fun a1 a2 ⟨m, hm, hJ⟩ => ih m a1 a2 (by omega) hJ)
  exact key (n + 1) n a1 a2 (Nat.lt_succ_self n) h0
def LP3 {A1 A2 A3 : Type} (body : (A1 → A2 → A3 → Prop) → A1 → A2 → A3 → Prop) (a1 : A1) (a2 : A2) (a3 : A3) : Prop := ∃ (I : Nat → A1 → A2 → A3 → Prop) (n : Nat), I n a1 a2 a3 ∧ ∀ (n : Nat) (a1 : A1) (a2 : A2) (a3 : A3), I n a1 a2 a3 → body (fun a1 a2 a3 => ∃ m, m < n ∧ I m a1 a2 a3) a1 a2 a3
theorem LP3_s {A1 A2 A3 : Type} {body : (A1 → A2 → A3 → Prop) → A1 → A2 → A3 → Prop} {a1 : A1} {a2 : A2} {a3 : A3} (h : LP3 body a1 a2 a3) {G : A1 → A2 → A3 → Prop} (hb : ∀ (K : A1 → A2 → A3 → Prop) (a1 : A1) (a2 : A2) (a3 : A3), body K a1 a2 a3 → (∀ (a1 : A1) (a2 : A2) (a3 : A3), K a1 a2 a3 → G a1 a2 a3) → G a1 a2 a3) : G a1 a2 a3 := by
  obtain ⟨I, n, h0, hs⟩ := h
  have key : ∀ (N n : Nat) (a1 : A1) (a2 : A2) (a3 : A3), n < N → I n a1 a2 a3 → G a1 a2 a3 := by
    intro N
    induction N with
    | zero => intro n a1 a2 a3 hn; exact absurd hn (Nat.not_lt_zero _)
    | succ N ih =>
      intro n a1 a2 a3 hn hI
      exact hb _ a1 a2 a3 (hs n a1 a2 a3 hI) (fun a1 a2 a3 ⟨m, hm, hJ⟩ => ih m a1 a2 a3 (by omega) hJ)
  exact key (n + 1) n a1 a2 a3 (Nat.lt_succ_self n) h0
def LP4 {A1 A2 A3 A4 : Type} (body : (A1 → A2 → A3 → A4 → Prop) → A1 → A2 → A3 → A4 → Prop) (a1 : A1) (a2 : A2) (a3 : A3) (a4 : A4) : Prop := ∃ (I : Nat → A1 → A2 → A3 → A4 → Prop) (n : Nat), I n a1 a2 a3 a4 ∧ ∀ (n : Nat) (a1 : A1) (a2 : A2) (a3 : A3) (a4 : A4), I n a1 a2 a3 a4 → body (fun a1 a2 a3 a4 => ∃ m, m < n ∧ I m a1 a2 a3 a4) a1 a2 a3 a4
theorem LP4_s {A1 A2 A3 A4 : Type} {body : (A1 → A2 → A3 → A4 → Prop) → A1 → A2 → A3 → A4 → Prop} {a1 : A1} {a2 : A2} {a3 : A3} {a4 : A4} (h : LP4 body a1 a2 a3 a4) {G : A1 → A2 → A3 → A4 → Prop} (hb : ∀ (K : A1 → A2 → A3 → A4 → Prop) (a1 : A1) (a2 : A2) (a3 : A3) (a4 : A4), body K a1 a2 a3 a4 → (∀ (a1 : A1) (a2 : A2) (a3 : A3) (a4 : A4), K a1 a2 a3 a4 → G a1 a2 a3 a4) → G a1 a2 a3 a4) : G a1 a2 a3 a4 := by
  obtain ⟨I, n, h0, hs⟩ := h
  have key : ∀ (N n : Nat) (a1 : A1) (a2 : A2) (a3 : A3) (a4 : A4), n < N → I n a1 a2 a3 a4 → G a1 a2 a3 a4 := by
    intro N
    induction N with
    | zero => intro n a1 a2 a3 a4 hn; exact absurd hn (Nat.not_lt_zero _)
    | succ N ih =>
      intro n a1 a2 a3 a4 hn hI
      exact hb _ a1 a2 a3 a4 (hs n a1 a2 a3 a4 hI) (fun a1 a2 a3 a4 ⟨m, hm, hJ⟩ => ih m a1 a2 a3 a4 (by omega) hJ)
  exact key (n + 1) n a1 a2 a3 a4 (Nat.lt_succ_self n) h0
def LP5 {A1 A2 A3 A4 A5 : Type} (body : (A1 → A2 → A3 → A4 → A5 → Prop) → A1 → A2 → A3 → A4 → A5 → Prop) (a1 : A1) (a2 : A2) (a3 : A3) (a4 : A4) (a5 : A5) : Prop := ∃ (I : Nat → A1 → A2 → A3 → A4 → A5 → Prop) (n : Nat), I n a1 a2 a3 a4 a5 ∧ ∀ (n : Nat) (a1 : A1) (a2 : A2) (a3 : A3) (a4 : A4) (a5 : A5), I n a1 a2 a3 a4 a5 → body (fun a1 a2 a3 a4 a5 => ∃ m, m < n ∧ I m a1 a2 a3 a4 a5) a1 a2 a3 a4 a5
theorem LP5_s {A1 A2 A3 A4 A5 : Type} {body : (A1 → A2 → A3 → A4 → A5 → Prop) → A1 → A2 → A3 → A4 → A5 → Prop} {a1 : A1} {a2 : A2} {a3 : A3} {a4 : A4} {a5 : A5} (h : LP5 body a1 a2 a3 a4 a5) {G : A1 → A2 → A3 → A4 → A5 → Prop} (hb : ∀ (K : A1 → A2 → A3 → A4 → A5 → Prop) (a1 : A1) (a2 : A2) (a3 : A3) (a4 : A4) (a5 : A5), body K a1 a2 a3 a4 a5 → (∀ (a1 : A1) (a2 : A2) (a3 : A3) (a4 : A4) (a5 : A5), K a1 a2 a3 a4 a5 → G a1 a2 a3 a4 a5) → G a1 a2 a3 a4 a5) : G a1 a2 a3 a4 a5 := by
  obtain ⟨I, n, h0, hs⟩ := h
  have key : ∀ (N n : Nat) (a1 : A1) (a2 : A2) (a3 : A3) (a4 : A4) (a5 : A5), n < N → I n a1 a2 a3 a4 a5 → G a1 a2 a3 a4 a5 := by
    intro N
    induction N with
    | zero => intro n a1 a2 a3 a4 a5 hn; exact absurd hn (Nat.not_lt_zero _)
    | succ N ih =>
      intro n a1 a2 a3 a4 a5 hn hI
      exact hb _ a1 a2 a3 a4 a5 (hs n a1 a2 a3 a4 a5 hI) (fun a1 a2 a3 a4 a5 ⟨m, hm, hJ⟩ => ih m a1 a2 a3 a4 a5 (by omega) hJ)
  exact key (n + 1) n a1 a2 a3 a4 a5 (Nat.lt_succ_self n) h0
def LP6 {A1 A2 A3 A4 A5 A6 : Type} (body : (A1 → A2 → A3 → A4 → A5 → A6 → Prop) → A1 → A2 → A3 → A4 → A5 → A6 → Prop) (a1 : A1) (a2 : A2) (a3 : A3) (a4 : A4) (a5 : A5) (a6 : A6) : Prop := ∃ (I : Nat → A1 → A2 → A3 → A4 → A5 → A6 → Prop) (n : Nat), I n a1 a2 a3 a4 a5 a6 ∧ ∀ (n : Nat) (a1 : A1) (a2 : A2) (a3 : A3) (a4 : A4) (a5 : A5) (a6 : A6), I n a1 a2 a3 a4 a5 a6 → body (fun a1 a2 a3 a4 a5 a6 => ∃ m, m < n ∧ I m a1 a2 a3 a4 a5 a6) a1 a2 a3 a4 a5 a6
theorem LP6_s {A1 A2 A3 A4 A5 A6 : Type} {body : (A1 → A2 → A3 → A4 → A5 → A6 → Prop) → A1 → A2 → A3 → A4 → A5 → A6 → Prop} {a1 : A1} {a2 : A2} {a3 : A3} {a4 : A4} {a5 : A5} {a6 : A6} (h : LP6 body a1 a2 a3 a4 a5 a6) {G : A1 → A2 → A3 → A4 → A5 → A6 → Prop} (hb : ∀ (K : A1 → A2 → A3 → A4 → A5 → A6 → Prop) (a1 : A1) (a2 : A2) (a3 : A3) (a4 : A4) (a5 : A5) (a6 : A6), body K a1 a2 a3 a4 a5 a6 → (∀ (a1 : A1) (a2 : A2) (a3 : A3) (a4 : A4) (a5 : A5) (a6 : A6), K a1 a2 a3 a4 a5 a6 → G a1 a2 a3 a4 a5 a6) → G a1 a2 a3 a4 a5 a6) : G a1 a2 a3 a4 a5 a6 := by
  obtain ⟨I, n, h0, hs⟩ := h
  have key : ∀ (N n : Nat) (a1 : A1) (a2 : A2) (a3 : A3) (a4 : A4) (a5 : A5) (a6 : A6), n < N → I n a1 a2 a3 a4 a5 a6 → G a1 a2 a3 a4 a5 a6 := by
    intro N
    induction N with
    | zero => intro n a1 a2 a3 a4 a5 a6 hn; exact absurd hn (Nat.not_lt_zero _)
    | succ N ih =>
      intro n a1 a2 a3 a4 a5 a6 hn hI
      exact hb _ a1 a2 a3 a4 a5 a6 (hs n a1 a2 a3 a4 a5 a6 hI) (fun a1 a2 a3 a4 a5 a6 ⟨m, hm, hJ⟩ => ih m a1 a2 a3 a4 a5 a6 (by omega) hJ)
  exact key (n + 1) n a1 a2 a3 a4 a5 a6 (Nat.lt_succ_self n) h0
def LP7 {A1 A2 A3 A4 A5 A6 A7 : Type} (body : (A1 → A2 → A3 → A4 → A5 → A6 → A7 → Prop) → A1 → A2 → A3 → A4 → A5 → A6 → A7 → Prop) (a1 : A1) (a2 : A2) (a3 : A3) (a4 : A4) (a5 : A5) (a6 : A6) (a7 : A7) : Prop := ∃ (I : Nat → A1 → A2 → A3 → A4 → A5 → A6 → A7 → Prop) (n : Nat), I n a1 a2 a3 a4 a5 a6 a7 ∧ ∀ (n : Nat) (a1 : A1) (a2 : A2) (a3 : A3) (a4 : A4) (a5 : A5) (a6 : A6) (a7 : A7), I n a1 a2 a3 a4 a5 a6 a7 → body (fun a1 a2 a3 a4 a5 a6 a7 => ∃ m, m < n ∧ I m a1 a2 a3 a4 a5 a6 a7) a1 a2 a3 a4 a5 a6 a7
theorem LP7_s {A1 A2 A3 A4 A5 A6 A7 : Type} {body : (A1 → A2 → A3 → A4 → A5 → A6 → A7 → Prop) → A1 → A2 → A3 → A4 → A5 → A6 → A7 → Prop} {a1 : A1} {a2 : A2} {a3 : A3} {a4 : A4} {a5 : A5} {a6 : A6} {a7 : A7} (h : LP7 body a1 a2 a3 a4 a5 a6 a7) {G : A1 → A2 → A3 → A4 → A5 → A6 → A7 → Prop} (hb : ∀ (K : A1 → A2 → A3 → A4 → A5 → A6 → A7 → Prop) (a1 : A1) (a2 : A2) (a3 : A3) (a4 : A4) (a5 : A5) (a6 : A6) (a7 : A7), body K a1 a2 a3 a4 a5 a6 a7 → (∀ (a1 : A1) (a2 : A2) (a3 : A3) (a4 : A4) (a5 : A5) (a6 : A6) (a7 : A7), K a1 a2 a3 a4 a5 a6 a7 → G a1 a2 a3 a4 a5 a6 a7) → G a1 a2 a3 a4 a5 a6 a7) : G a1 a2 a3 a4 a5 a6 a7 := by
  obtain ⟨I, n, h0, hs⟩ := h
  have key : ∀ (N n : Nat) (a1 : A1) (a2 : A2) (a3 : A3) (a4 : A4) (a5 : A5) (a6 : A6) (a7 : A7), n < N → I n a1 a2 a3 a4 a5 a6 a7 → G a1 a2 a3 a4 a5 a6 a7 := by
    intro N
    induction N with
    | zero => intro n a1 a2 a3 a4 a5 a6 a7 hn; exact absurd hn (Nat.not_lt_zero _)
    | succ N ih =>
      intro n a1 a2 a3 a4 a5 a6 a7 hn hI
      exact hb _ a1 a2 a3 a4 a5 a6 a7 (hs n a1 a2 a3 a4 a5 a6 a7 hI) (fun a1 a2 a3 a4 a5 a6 a7 ⟨m, hm, hJ⟩ => ih m a1 a2 a3 a4 a5 a6 a7 (by omega) hJ)
  exact key (n + 1) n a1 a2 a3 a4 a5 a6 a7 (Nat.lt_succ_self n) h0
def LP8 {A1 A2 A3 A4 A5 A6 A7 A8 : Type} (body : (A1 → A2 → A3 → A4 → A5 → A6 → A7 → A8 → Prop) → A1 → A2 → A3 → A4 → A5 → A6 → A7 → A8 → Prop) (a1 : A1) (a2 : A2) (a3 : A3) (a4 : A4) (a5 : A5) (a6 : A6) (a7 : A7) (a8 : A8) : Prop := ∃ (I : Nat → A1 → A2 → A3 → A4 → A5 → A6 → A7 → A8 → Prop) (n : Nat), I n a1 a2 a3 a4 a5 a6 a7 a8 ∧ ∀ (n : Nat) (a1 : A1) (a2 : A2) (a3 : A3) (a4 : A4) (a5 : A5) (a6 : A6) (a7 : A7) (a8 : A8), I n a1 a2 a3 a4 a5 a6 a7 a8 → body (fun a1 a2 a3 a4 a5 a6 a7 a8 => ∃ m, m < n ∧ I m a1 a2 a3 a4 a5 a6 a7 a8) a1 a2 a3 a4 a5 a6 a7 a8
theorem LP8_s {A1 A2 A3 A4 A5 A6 A7 A8 : Type} {body : (A1 → A2 → A3 → A4 → A5 → A6 → A7 → A8 → Prop) → A1 → A2 → A3 → A4 → A5 → A6 → A7 → A8 → Prop} {a1 : A1} {a2 : A2} {a3 : A3} {a4 : A4} {a5 : A5} {a6 : A6} {a7 : A7} {a8 : A8} (h : LP8 body a1 a2 a3 a4 a5 a6 a7 a8) {G : A1 → A2 → A3 → A4 → A5 → A6 → A7 → A8 → Prop} (hb : ∀ (K : A1 → A2 → A3 → A4 → A5 → A6 → A7 → A8 → Prop) (a1 : A1) (a2 : A2) (a3 : A3) (a4 : A4) (a5 : A5) (a6 : A6) (a7 : A7) (a8 : A8), body K a1 a2 a3 a4 a5 a6 a7 a8 → (∀ (a1 : A1) (a2 : A2) (a3 : A3) (a4 : A4) (a5 : A5) (a6 : A6) (a7 : A7) (a8 : A8), K a1 a2 a3 a4 a5 a6 a7 a8 → G a1 a2 a3 a4 a5 a6 a7 a8) → G a1 a2 a3 a4 a5 a6 a7 a8) : G a1 a2 a3 a4 a5 a6 a7 a8 := by
  obtain ⟨I, n, h0, hs⟩ := h
  have key : ∀ (N n : Nat) (a1 : A1) (a2 : A2) (a3 : A3) (a4 : A4) (a5 : A5) (a6 : A6) (a7 : A7) (a8 : A8), n < N → I n a1 a2 a3 a4 a5 a6 a7 a8 → G a1 a2 a3 a4 a5 a6 a7 a8 := by
    intro N
    induction N with
    | zero => intro n a1 a2 a3 a4 a5 a6 a7 a8 hn; exact absurd hn (Nat.not_lt_zero _)
    | succ N ih =>
      intro n a1 a2 a3 a4 a5 a6 a7 a8 hn hI
      exact hb _ a1 a2 a3 a4 a5 a6 a7 a8 (hs n a1 a2 a3 a4 a5 a6 a7 a8 hI) (fun a1 a2 a3 a4 a5 a6 a7 a8 ⟨m, hm, hJ⟩ => ih m a1 a2 a3 a4 a5 a6 a7 a8 (by omega) hJ)
  exact key (n + 1) n a1 a2 a3 a4 a5 a6 a7 a8 (Nat.lt_succ_self n) h0
def LP9 {A1 A2 A3 A4 A5 A6 A7 A8 A9 : Type} (body : (A1 → A2 → A3 → A4 → A5 → A6 → A7 → A8 → A9 → Prop) → A1 → A2 → A3 → A4 → A5 → A6 → A7 → A8 → A9 → Prop) (a1 : A1) (a2 : A2) (a3 : A3) (a4 : A4) (a5 : A5) (a6 : A6) (a7 : A7) (a8 : A8) (a9 : A9) : Prop := ∃ (I : Nat → A1 → A2 → A3 → A4 → A5 → A6 → A7 → A8 → A9 → Prop) (n : Nat), I n a1 a2 a3 a4 a5 a6 a7 a8 a9 ∧ ∀ (n : Nat) (a1 : A1) (a2 : A2) (a3 : A3) (a4 : A4) (a5 : A5) (a6 : A6) (a7 : A7) (a8 : A8) (a9 : A9), I n a1 a2 a3 a4 a5 a6 a7 a8 a9 → body (fun a1 a2 a3 a4 a5 a6 a7 a8 a9 => ∃ m, m < n ∧ I m a1 a2 a3 a4 a5 a6 a7 a8 a9) a1 a2 a3 a4 a5 a6 a7 a8 a9
theorem LP9_s {A1 A2 A3 A4 A5 A6 A7 A8 A9 : Type} {body : (A1 → A2 → A3 → A4 → A5 → A6 → A7 → A8 → A9 → Prop) → A1 → A2 → A3 → A4 → A5 → A6 → A7 → A8 → A9 → Prop} {a1 : A1} {a2 : A2} {a3 : A3} {a4 : A4} {a5 : A5} {a6 : A6} {a7 : A7} {a8 : A8} {a9 : A9} (h : LP9 body a1 a2 a3 a4 a5 a6 a7 a8 a9) {G : A1 → A2 → A3 → A4 → A5 → A6 → A7 → A8 → A9 → Prop} (hb : ∀ (K : A1 → A2 → A3 → A4 → A5 → A6 → A7 → A8 → A9 → Prop) (a1 : A1) (a2 : A2) (a3 : A3) (a4 : A4) (a5 : A5) (a6 : A6) (a7 : A7) (a8 : A8) (a9 : A9), body K a1 a2 a3 a4 a5 a6 a7 a8 a9 → (∀ (a1 : A1) (a2 : A2) (a3 : A3) (a4 : A4) (a5 : A5) (a6 : A6) (a7 : A7) (a8 : A8) (a9 : A9), K a1 a2 a3 a4 a5 a6 a7 a8 a9 → G a1 a2 a3 a4 a5 a6 a7 a8 a9) → G a1 a2 a3 a4 a5 a6 a7 a8 a9) : G a1 a2 a3 a4 a5 a6 a7 a8 a9 := by
  obtain ⟨I, n, h0, hs⟩ := h
  have key : ∀ (N n : Nat) (a1 : A1) (a2 : A2) (a3 : A3) (a4 : A4) (a5 : A5) (a6 : A6) (a7 : A7) (a8 : A8) (a9 : A9), n < N → I n a1 a2 a3 a4 a5 a6 a7 a8 a9 → G a1 a2 a3 a4 a5 a6 a7 a8 a9 := by
    intro N
    induction N with
    | zero => intro n a1 a2 a3 a4 a5 a6 a7 a8 a9 hn; exact absurd hn (Nat.not_lt_zero _)
    | succ N ih =>
      intro n a1 a2 a3 a4 a5 a6 a7 a8 a9 hn hI
      exact hb _ a1 a2 a3 a4 a5 a6 a7 a8 a9 (hs n a1 a2 a3 a4 a5 a6 a7 a8 a9 hI) (fun a1 a2 a3 a4 a5 a6 a7 a8 a9 ⟨m, hm, hJ⟩ => ih m a1 a2 a3 a4 a5 a6 a7 a8 a9 (by omega) hJ)
  exact key (n + 1) n a1 a2 a3 a4 a5 a6 a7 a8 a9 (Nat.lt_succ_self n) h0
def LP10 {A1 A2 A3 A4 A5 A6 A7 A8 A9 A10 : Type} (body : (A1 → A2 → A3 → A4 → A5 → A6 → A7 → A8 → A9 → A10 → Prop) → A1 → A2 → A3 → A4 → A5 → A6 → A7 → A8 → A9 → A10 → Prop) (a1 : A1) (a2 : A2) (a3 : A3) (a4 : A4) (a5 : A5) (a6 : A6) (a7 : A7) (a8 : A8) (a9 : A9) (a10 : A10) : Prop := ∃ (I : Nat → A1 → A2 → A3 → A4 → A5 → A6 → A7 → A8 → A9 → A10 → Prop) (n : Nat), I n a1 a2 a3 a4 a5 a6 a7 a8 a9 a10 ∧ ∀ (n : Nat) (a1 : A1) (a2 : A2) (a3 : A3) (a4 : A4) (a5 : A5) (a6 : A6) (a7 : A7) (a8 : A8) (a9 : A9) (a10 : A10), I n a1 a2 a3 a4 a5 a6 a7 a8 a9 a10 → body (fun a1 a2 a3 a4 a5 a6 a7 a8 a9 a10 => ∃ m, m < n ∧ I m a1 a2 a3 a4 a5 a6 a7 a8 a9 a10) a1 a2 a3 a4 a5 a6 a7 a8 a9 a10
theorem LP10_s {A1 A2 A3 A4 A5 A6 A7 A8 A9 A10 : Type} {body : (A1 → A2 → A3 → A4 → A5 → A6 → A7 → A8 → A9 → A10 → Prop) → A1 → A2 → A3 → A4 → A5 → A6 → A7 → A8 → A9 → A10 → Prop} {a1 : A1} {a2 : A2} {a3 : A3} {a4 : A4} {a5 : A5} {a6 : A6} {a7 : A7} {a8 : A8} {a9 : A9} {a10 : A10} (h : LP10 body a1 a2 a3 a4 a5 a6 a7 a8 a9 a10) {G : A1 → A2 → A3 → A4 → A5 → A6 → A7 → A8 → A9 → A10 → Prop} (hb : ∀ (K : A1 → A2 → A3 → A4 → A5 → A6 → A7 → A8 → A9 → A10 → Prop) (a1 : A1) (a2 : A2) (a3 : A3) (a4 : A4) (a5 : A5) (a6 : A6) (a7 : A7) (a8 : A8) (a9 : A9) (a10 : A10), body K a1 a2 a3 a4 a5 a6 a7 a8 a9 a10 → (∀ (a1 : A1) (a2 : A2) (a3 : A3) (a4 : A4) (a5 : A5) (a6 : A6) (a7 : A7) (a8 : A8) (a9 : A9) (a10 : A10), K a1 a2 a3 a4 a5 a6 a7 a8 a9 a10 → G a1 a2 a3 a4 a5 a6 a7 a8 a9 a10) → G a1 a2 a3 a4 a5 a6 a7 a8 a9 a10) : G a1 a2 a3 a4 a5 a6 a7 a8 a9 a10 := by
  obtain ⟨I, n, h0, hs⟩ := h
  have key : ∀ (N n : Nat) (a1 : A1) (a2 : A2) (a3 : A3) (a4 : A4) (a5 : A5) (a6 : A6) (a7 : A7) (a8 : A8) (a9 : A9) (a10 : A10), n < N → I n a1 a2 a3 a4 a5 a6 a7 a8 a9 a10 → G a1 a2 a3 a4 a5 a6 a7 a8 a9 a10 := by
    intro N
    induction N with
    | zero => intro n a1 a2 a3 a4 a5 a6 a7 a8 a9 a10 hn; exact absurd hn (Nat.not_lt_zero _)
    | succ N ih =>
      intro n a1 a2 a3 a4 a5 a6 a7 a8 a9 a10 hn hI
      exact hb _ a1 a2 a3 a4 a5 a6 a7 a8 a9 a10 (hs n a1 a2 a3 a4 a5 a6 a7 a8 a9 a10 hI) (fun a1 a2 a3 a4 a5 a6 a7 a8 a9 a10 ⟨m, hm, hJ⟩ => ih m a1 a2 a3 a4 a5 a6 a7 a8 a9 a10 (by omega) hJ)
  exact key (n + 1) n a1 a2 a3 a4 a5 a6 a7 a8 a9 a10 (Nat.lt_succ_self n) h0
def LP11 {A1 A2 A3 A4 A5 A6 A7 A8 A9 A10 A11 : Type} (body : (A1 → A2 → A3 → A4 → A5 → A6 → A7 → A8 → A9 → A10 → A11 → Prop) → A1 → A2 → A3 → A4 → A5 → A6 → A7 → A8 → A9 → A10 → A11 → Prop) (a1 : A1) (a2 : A2) (a3 : A3) (a4 : A4) (a5 : A5) (a6 : A6) (a7 : A7) (a8 : A8) (a9 : A9) (a10 : A10) (a11 : A11) : Prop := ∃ (I : Nat → A1 → A2 → A3 → A4 → A5 → A6 → A7 → A8 → A9 → A10 → A11 → Prop) (n : Nat), I n a1 a2 a3 a4 a5 a6 a7 a8 a9 a10 a11 ∧ ∀ (n : Nat) (a1 : A1) (a2 : A2) (a3 : A3) (a4 : A4) (a5 : A5) (a6 : A6) (a7 : A7) (a8 : A8) (a9 : A9) (a10 : A10) (a11 : A11), I n a1 a2 a3 a4 a5 a6 a7 a8 a9 a10 a11 → body (fun a1 a2 a3 a4 a5 a6 a7 a8 a9 a10 a11 => ∃ m, m < n ∧ I m a1 a2 a3 a4 a5 a6 a7 a8 a9 a10 a11) a1 a2 a3 a4 a5 a6 a7 a8 a9 a10 a11
theorem LP11_s {A1 A2 A3 A4 A5 A6 A7 A8 A9 A10 A11 : Type} {body : (A1 → A2 → A3 → A4 → A5 → A6 → A7 → A8 → A9 → A10 → A11 → Prop) → A1 → A2 → A3 → A4 → A5 → A6 → A7 → A8 → A9 → A10 → A11 → Prop} {a1 : A1} {a2 : A2} {a3 : A3} {a4 : A4} {a5 : A5} {a6 : A6} {a7 : A7} {a8 : A8} {a9 : A9} {a10 : A10} {a11 : A11} (h : LP11 body a1 a2 a3 a4 a5 a6 a7 a8 a9 a10 a11) {G : A1 → A2 → A3 → A4 → A5 → A6 → A7 → A8 → A9 → A10 → A11 → Prop} (hb : ∀ (K : A1 → A2 → A3 → A4 → A5 → A6 → A7 → A8 → A9 → A10 → A11 → Prop) (a1 : A1) (a2 : A2) (a3 : A3) (a4 : A4) (a5 : A5) (a6 : A6) (a7 : A7) (a8 : A8) (a9 : A9) (a10 : A10) (a11 : A11), body K a1 a2 a3 a4 a5 a6 a7 a8 a9 a10 a11 → (∀ (a1 : A1) (a2 : A2) (a3 : A3) (a4 : A4) (a5 : A5) (a6 : A6) (a7 : A7) (a8 : A8) (a9 : A9) (a10 : A10) (a11 : A11), K a1 a2 a3 a4 a5 a6 a7 a8 a9 a10 a11 → G a1 a2 a3 a4 a5 a6 a7 a8 a9 a10 a11) → G a1 a2 a3 a4 a5 a6 a7 a8 a9 a10 a11) : G a1 a2 a3 a4 a5 a6 a7 a8 a9 a10 a11 := by
  obtain ⟨I, n, h0, hs⟩ := h
  have key : ∀ (N n : Nat) (a1 : A1) (a2 : A2) (a3 : A3) (a4 : A4) (a5 : A5) (a6 : A6) (a7 : A7) (a8 : A8) (a9 : A9) (a10 : A10) (a11 : A11), n < N → I n a1 a2 a3 a4 a5 a6 a7 a8 a9 a10 a11 → G a1 a2 a3 a4 a5 a6 a7 a8 a9 a10 a11 := by
    intro N
    induction N with
    | zero => intro n a1 a2 a3 a4 a5 a6 a7 a8 a9 a10 a11 hn; exact absurd hn (Nat.not_lt_zero _)
    | succ N ih =>
      intro n a1 a2 a3 a4 a5 a6 a7 a8 a9 a10 a11 hn hI
      exact hb _ a1 a2 a3 a4 a5 a6 a7 a8 a9 a10 a11 (hs n a1 a2 a3 a4 a5 a6 a7 a8 a9 a10 a11 hI) (fun a1 a2 a3 a4 a5 a6 a7 a8 a9 a10 a11 ⟨m, hm, hJ⟩ => ih m a1 a2 a3 a4 a5 a6 a7 a8 a9 a10 a11 (by omega) hJ)
  exact key (n + 1) n a1 a2 a3 a4 a5 a6 a7 a8 a9 a10 a11 (Nat.lt_succ_self n) h0
def LP12 {A1 A2 A3 A4 A5 A6 A7 A8 A9 A10 A11 A12 : Type} (body : (A1 → A2 → A3 → A4 → A5 → A6 → A7 → A8 → A9 → A10 → A11 → A12 → Prop) → A1 → A2 → A3 → A4 → A5 → A6 → A7 → A8 → A9 → A10 → A11 → A12 → Prop) (a1 : A1) (a2 : A2) (a3 : A3) (a4 : A4) (a5 : A5) (a6 : A6) (a7 : A7) (a8 : A8) (a9 : A9) (a10 : A10) (a11 : A11) (a12 : A12) : Prop := ∃ (I : Nat → A1 → A2 → A3 → A4 → A5 → A6 → A7 → A8 → A9 → A10 → A11 → A12 → Prop) (n : Nat), I n a1 a2 a3 a4 a5 a6 a7 a8 a9 a10 a11 a12 ∧ ∀ (n : Nat) (a1 : A1) (a2 : A2) (a3 : A3) (a4 : A4) (a5 : A5) (a6 : A6) (a7 : A7) (a8 : A8) (a9 : A9) (a10 : A10) (a11 : A11) (a12 : A12), I n a1 a2 a3 a4 a5 a6 a7 a8 a9 a10 a11 a12 → body (fun a1 a2 a3 a4 a5 a6 a7 a8 a9 a10 a11 a12 => ∃ m, m < n ∧ I m a1 a2 a3 a4 a5 a6 a7 a8 a9 a10 a11 a12) a1 a2 a3 a4 a5 a6 a7 a8 a9 a10 a11 a12
theorem LP12_s {A1 A2 A3 A4 A5 A6 A7 A8 A9 A10 A11 A12 : Type} {body : (A1 → A2 → A3 → A4 → A5 → A6 → A7 → A8 → A9 → A10 → A11 → A12 → Prop) → A1 → A2 → A3 → A4 → A5 → A6 → A7 → A8 → A9 → A10 → A11 → A12 → Prop} {a1 : A1} {a2 : A2} {a3 : A3} {a4 : A4} {a5 : A5} {a6 : A6} {a7 : A7} {a8 : A8} {a9 : A9} {a10 : A10} {a11 : A11} {a12 : A12} (h : LP12 body a1 a2 a3 a4 a5 a6 a7 a8 a9 a10 a11 a12) {G : A1 → A2 → A3 → A4 → A5 → A6 → A7 → A8 → A9 → A10 → A11 → A12 → Prop} (hb : ∀ (K : A1 → A2 → A3 → A4 → A5 → A6 → A7 → A8 → A9 → A10 → A11 → A12 → Prop) (a1 : A1) (a2 : A2) (a3 : A3) (a4 : A4) (a5 : A5) (a6 : A6) (a7 : A7) (a8 : A8) (a9 : A9) (a10 : A10) (a11 : A11) (a12 : A12), body K a1 a2 a3 a4 a5 a6 a7 a8 a9 a10 a11 a12 → (∀ (a1 : A1) (a2 : A2) (a3 : A3) (a4 : A4) (a5 : A5) (a6 : A6) (a7 : A7) (a8 : A8) (a9 : A9) (a10 : A10) (a11 : A11) (a12 : A12), K a1 a2 a3 a4 a5 a6 a7 a8 a9 a10 a11 a12 → G a1 a2 a3 a4 a5 a6 a7 a8 a9 a10 a11 a12) → G a1 a2 a3 a4 a5 a6 a7 a8 a9 a10 a11 a12) : G a1 a2 a3 a4 a5 a6 a7 a8 a9 a10 a11 a12 := by
  obtain ⟨I, n, h0, hs⟩ := h
  have key : ∀ (N n : Nat) (a1 : A1) (a2 : A2) (a3 : A3) (a4 : A4) (a5 : A5) (a6 : A6) (a7 : A7) (a8 : A8) (a9 : A9) (a10 : A10) (a11 : A11) (a12 : A12), n < N → I n a1 a2 a3 a4 a5 a6 a7 a8 a9 a10 a11 a12 → G a1 a2 a3 a4 a5 a6 a7 a8 a9 a10 a11 a12 := by
    intro N
    induction N with
    | zero => intro n a1 a2 a3 a4 a5 a6 a7 a8 a9 a10 a11 a12 hn; exact absurd hn (Nat.not_lt_zero _)
    | succ N ih =>
      intro n a1 a2 a3 a4 a5 a6 a7 a8 a9 a10 a11 a12 hn hI
      exact hb _ a1 a2 a3 a4 a5 a6 a7 a8 a9 a10 a11 a12 (hs n a1 a2 a3 a4 a5 a6 a7 a8 a9 a10 a11 a12 hI) (fun a1 a2 a3 a4 a5 a6 a7 a8 a9 a10 a11 a12 ⟨m, hm, hJ⟩ => ih m a1 a2 a3 a4 a5 a6 a7 a8 a9 a10 a11 a12 (by omega) hJ)
  exact key (n + 1) n a1 a2 a3 a4 a5 a6 a7 a8 a9 a10 a11 a12 (Nat.lt_succ_self n) h0
