-- LEVEL 1, part 4: puts by kind, arrays, new cells
theorem nar_int (x : Int32) : narrow .int (.int x) = .int x := rfl
def BZ (x : Int32) : Prop := x = 0 ∨ x = 1
theorem nar_bool {x : Int32} (h : BZ x) : narrow .boolean (.int x) = .int x := by rcases h with rfl | rfl <;> rfl
theorem cv_cat' {g : Ev} (hg : (g.2.2.2.2.2).category = 1) (v : Value) : (cv g v).category = v.category := by
  cases v with
  | float u =>
    show (if u.toNat = 5 then g.2.2.2.2.2 else Value.ref (g.2.2.2.2.1 u.toNat)).category = 1
    by_cases hu : u.toNat = 5
    · rw [if_pos hu]; exact hg
    · rw [if_neg hu]; rfl
  | _ => rfl
section XA
variable {F : Fin9} {own : String} {b : ByteArray} {ret : Option FieldType} {mL : Nat} {nm : String} {d rc rs : Nat} {L : Lay} {M : Mem} {pc : Nat} {ls st : List Value}
theorem X_putI (q : Nat) {a c j idx : Nat} {fin : Bool} {x : Int32} (hf : FL own idx c j .int fin) (hfin : fin = false ∨ (nm = "<init>" ∧ ∃ T N ty2, CB c own T N ty2)) (ho : OB L a c) (hso : SO c j = 0) (hd : decode b pc = .ok (.putfield idx, 3)) (hp : pc + 3 = q)
    (k : X F own b ret mL nm d rc rs (L, si M a j x) q ls st) : X F own b ret mL nm d rc rs (L, M) pc ls (.int x :: .ref a :: st) :=
  X_putC q hf hfin ho hd hp (fun _ => rfl) (fun _ => rfl) rfl rfl (fun _ _ hz => cell_si hz) (fun g => by rw [slot_0 hso, row_si_self]; show Value.int (upd _ _ _ j) = .int x; simp [upd])
    (fun g z hz => by simp only [slotv, row_si_self, upd, if_neg hz]; rfl) k
theorem X_putZ (q : Nat) {a c j idx : Nat} {fin : Bool} {x : Int32} (hf : FL own idx c j .boolean fin) (hx : BZ x) (hfin : fin = false ∨ (nm = "<init>" ∧ ∃ T N ty2, CB c own T N ty2)) (ho : OB L a c) (hso : SO c j = 0) (hd : decode b pc = .ok (.putfield idx, 3)) (hp : pc + 3 = q)
    (k : X F own b ret mL nm d rc rs (L, si M a j x) q ls st) : X F own b ret mL nm d rc rs (L, M) pc ls (.int x :: .ref a :: st) :=
  X_putC q hf hfin ho hd hp (fun _ => nar_bool hx) (fun _ => by rcases hx with rfl | rfl <;> rfl) rfl rfl (fun _ _ hz => cell_si hz) (fun g => by rw [slot_0 hso, row_si_self]; show Value.int (upd _ _ _ j) = .int x; simp [upd])
    (fun g z hz => by simp only [slotv, row_si_self, upd, if_neg hz]; rfl) k
theorem X_putL (q : Nat) {a c j idx : Nat} {fin : Bool} {x : Int64} (hf : FL own idx c j .long fin) (hfin : fin = false ∨ (nm = "<init>" ∧ ∃ T N ty2, CB c own T N ty2)) (ho : OB L a c) (hso : SO c j = 2) (hd : decode b pc = .ok (.putfield idx, 3)) (hp : pc + 3 = q)
    (k : X F own b ret mL nm d rc rs (L, sl M a j x) q ls st) : X F own b ret mL nm d rc rs (L, M) pc ls (.long x :: .ref a :: st) :=
  X_putC q hf hfin ho hd hp (fun _ => rfl) (fun _ => rfl) rfl rfl (fun _ _ hz => cell_sl hz) (fun g => by rw [slot_2 hso, row_sl_self]; show Value.long (vp_updL _ _ _ j) = .long x; simp [vp_updL])
    (fun g z hz => by simp only [slotv, row_sl_self, vp_updL, if_neg hz]; rfl) k
theorem fit_rf (g : Ev) (x : Option Nat) (C : FieldType) (hC : (∃ n, C = .object n) ∨ ∃ t, C = .array t) : narrow C (cv g (va_rf x)) = cv g (va_rf x) ∧ fits C (cv g (va_rf x)) = true := by
  rw [cv_rf]
  rcases hC with ⟨n, rfl⟩ | ⟨t, rfl⟩ <;> cases x <;> exact ⟨rfl, rfl⟩
theorem X_putQ (q : Nat) {a c j idx : Nat} {ty : FieldType} {fin : Bool} {x : Option Nat} (hf : FL own idx c j ty fin) (hty : (∃ n, ty = .object n) ∨ ∃ t, ty = .array t) (hfin : fin = false ∨ (nm = "<init>" ∧ ∃ T N ty2, CB c own T N ty2)) (ho : OB L a c) (hso : SO c j = 3) (hd : decode b pc = .ok (.putfield idx, 3)) (hp : pc + 3 = q)
    (k : X F own b ret mL nm d rc rs (L, sq M a j x) q ls st) : X F own b ret mL nm d rc rs (L, M) pc ls (va_rf x :: .ref a :: st) :=
  X_putC q hf hfin ho hd hp (fun g => (fit_rf g x ty hty).1) (fun g => (fit_rf g x ty hty).2) rfl rfl (fun _ _ hz => cell_sq hz) (fun g => by rw [slot_3 hso, row_sq_self, cv_rf]; show va_rf (oad g (va_up _ _ _ j)) = _; simp [va_up])
    (fun g z hz => by simp only [slotv, row_sq_self, va_up, if_neg hz]; rfl) k
theorem X_putR (q : Nat) {a c j idx : Nat} {ty : FieldType} {fin : Bool} {x : Option Nat} (hf : FL own idx c j ty fin) (hty : (∃ n, ty = .object n) ∨ ∃ t, ty = .array t) (hfin : fin = false ∨ (nm = "<init>" ∧ ∃ T N ty2, CB c own T N ty2)) (ho : OB L a c) (hso : SO c j = 1) (hd : decode b pc = .ok (.putfield idx, 3)) (hp : pc + 3 = q)
    (k : X F own b ret mL nm d rc rs (sr L a j x, M) q ls st) : X F own b ret mL nm d rc rs (L, M) pc ls (va_rf x :: .ref a :: st) :=
  X_putC (L' := sr L a j x) (M' := M) q hf hfin ho hd hp (fun g => (fit_rf g x ty hty).1) (fun g => (fit_rf g x ty hty).2) rfl rfl (fun _ _ hz => cell_sr hz) (fun g => by rw [slot_1 hso, row_sr_self, cv_rf]; show va_rf (oad g (va_up _ _ _ j)) = _; simp [va_up])
    (fun g z hz => by simp only [slotv, row_sr_self, va_up, if_neg hz]) k
theorem X_iald (q : Nat) {a n : Nat} {i : Int32} (ha : AR L a 0 n) (hin : vp_in i n) (hd : decode b pc = .ok (.iaload, 1)) (hp : pc + 1 = q)
    (k : X F own b ret mL nm d rc rs (L, M) q ls (.int (mi M a i.toNatClampNeg) :: st)) : X F own b ret mL nm d rc rs (L, M) pc ls (.int i :: .ref a :: st) := by
  subst hp
  intro g p l e R s m args below meth cc H locs LS cells slots C hR hS hL h1 h2
  have hK := C.2.2.2.2.2.2.2.2.1.1
  have hA := Rep.ar hR ha
  rw [arr_i (by decide)] at hA
  have hlt : i.toNatClampNeg < n := Nat.not_le.mp fun z => hin (Or.inr z)
  exact W.iald (v := .int (mi M a i.toNatClampNeg)) C.1 C.2.1 hA ((hK.2 0 _ (tysL_at (by decide))).1 n (fun j => .int (mi M a j))) (fun z => by cases z) (by show ¬ (i < 0 ∨ (arrV _ _ _).slots.size ≤ _); rw [arrV_size]; exact hin) (by show (arrV _ _ _).slots[_]? = _; rw [arrV_read _ _ hlt]; rfl) rfl rfl hd (k g p l e R s m args below meth cc H locs LS cells slots C hR hS hL h1 h2)
theorem X_zald (q : Nat) {a n : Nat} {i : Int32} (ha : AR L a 1 n) (hin : vp_in i n) (hd : decode b pc = .ok (.baload, 1)) (hp : pc + 1 = q)
    (k : X F own b ret mL nm d rc rs (L, M) q ls (.int (mi M a i.toNatClampNeg) :: st)) : X F own b ret mL nm d rc rs (L, M) pc ls (.int i :: .ref a :: st) := by
  subst hp
  intro g p l e R s m args below meth cc H locs LS cells slots C hR hS hL h1 h2
  have hK := C.2.2.2.2.2.2.2.2.1.1
  have hA := Rep.ar hR ha
  rw [arr_i (by decide)] at hA
  have hlt : i.toNatClampNeg < n := Nat.not_le.mp fun z => hin (Or.inr z)
  exact W.zald (v := .int (mi M a i.toNatClampNeg)) C.1 C.2.1 hA ((hK.2 1 _ (tysL_at (by decide))).1 n (fun j => .int (mi M a j))) (fun z => by cases z) (by show ¬ (i < 0 ∨ (arrV _ _ _).slots.size ≤ _); rw [arrV_size]; exact hin) (by show (arrV _ _ _).slots[_]? = _; rw [arrV_read _ _ hlt]; rfl) rfl rfl hd (k g p l e R s m args below meth cc H locs LS cells slots C hR hS hL h1 h2)
theorem X_bald (q : Nat) {a n : Nat} {i : Int32} (ha : AR L a 2 n) (hin : vp_in i n) (hd : decode b pc = .ok (.baload, 1)) (hp : pc + 1 = q)
    (k : X F own b ret mL nm d rc rs (L, M) q ls (.int (mi M a i.toNatClampNeg) :: st)) : X F own b ret mL nm d rc rs (L, M) pc ls (.int i :: .ref a :: st) := by
  subst hp
  intro g p l e R s m args below meth cc H locs LS cells slots C hR hS hL h1 h2
  have hK := C.2.2.2.2.2.2.2.2.1.1
  have hA := Rep.ar hR ha
  rw [arr_i (by decide)] at hA
  have hlt : i.toNatClampNeg < n := Nat.not_le.mp fun z => hin (Or.inr z)
  exact W.bald (v := .int (mi M a i.toNatClampNeg)) C.1 C.2.1 hA ((hK.2 2 _ (tysL_at (by decide))).1 n (fun j => .int (mi M a j))) (fun z => by cases z) (by show ¬ (i < 0 ∨ (arrV _ _ _).slots.size ≤ _); rw [arrV_size]; exact hin) (by show (arrV _ _ _).slots[_]? = _; rw [arrV_read _ _ hlt]; rfl) rfl rfl hd (k g p l e R s m args below meth cc H locs LS cells slots C hR hS hL h1 h2)
theorem X_cald (q : Nat) {a n : Nat} {i : Int32} (ha : AR L a 3 n) (hin : vp_in i n) (hd : decode b pc = .ok (.caload, 1)) (hp : pc + 1 = q)
    (k : X F own b ret mL nm d rc rs (L, M) q ls (.int (mi M a i.toNatClampNeg) :: st)) : X F own b ret mL nm d rc rs (L, M) pc ls (.int i :: .ref a :: st) := by
  subst hp
  intro g p l e R s m args below meth cc H locs LS cells slots C hR hS hL h1 h2
  have hK := C.2.2.2.2.2.2.2.2.1.1
  have hA := Rep.ar hR ha
  rw [arr_i (by decide)] at hA
  have hlt : i.toNatClampNeg < n := Nat.not_le.mp fun z => hin (Or.inr z)
  exact W.cald (v := .int (mi M a i.toNatClampNeg)) C.1 C.2.1 hA ((hK.2 3 _ (tysL_at (by decide))).1 n (fun j => .int (mi M a j))) (fun z => by cases z) (by show ¬ (i < 0 ∨ (arrV _ _ _).slots.size ≤ _); rw [arrV_size]; exact hin) (by show (arrV _ _ _).slots[_]? = _; rw [arrV_read _ _ hlt]; rfl) rfl rfl hd (k g p l e R s m args below meth cc H locs LS cells slots C hR hS hL h1 h2)
theorem X_lald (q : Nat) {a n : Nat} {i : Int32} (ha : AR L a 4 n) (hin : vp_in i n) (hd : decode b pc = .ok (.laload, 1)) (hp : pc + 1 = q)
    (k : X F own b ret mL nm d rc rs (L, M) q ls (.long (ml M a i.toNatClampNeg) :: st)) : X F own b ret mL nm d rc rs (L, M) pc ls (.int i :: .ref a :: st) := by
  subst hp
  intro g p l e R s m args below meth cc H locs LS cells slots C hR hS hL h1 h2
  have hK := C.2.2.2.2.2.2.2.2.1.1
  have hA := Rep.ar hR ha
  rw [arr_l] at hA
  have hlt : i.toNatClampNeg < n := Nat.not_le.mp fun z => hin (Or.inr z)
  exact W.lald (v := .long (ml M a i.toNatClampNeg)) C.1 C.2.1 hA ((hK.2 4 _ (tysL_at (by decide))).1 n (fun j => .long (ml M a j))) (fun z => by cases z) (by show ¬ (i < 0 ∨ (arrV _ _ _).slots.size ≤ _); rw [arrV_size]; exact hin) (by show (arrV _ _ _).slots[_]? = _; rw [arrV_read _ _ hlt]; rfl) rfl rfl hd (k g p l e R s m args below meth cc H locs LS cells slots C hR hS hL h1 h2)
theorem X_aald (q : Nat) {a n t x : Nat} {i : Int32} (h5 : 5 ≤ t) (h7 : t < 7) (ha : AR L a t n) (hin : vp_in i n) (hx : lr L a i.toNatClampNeg = some x) (hd : decode b pc = .ok (.aaload, 1)) (hp : pc + 1 = q)
    (k : X F own b ret mL nm d rc rs (L, M) q ls (.ref x :: st)) : X F own b ret mL nm d rc rs (L, M) pc ls (.int i :: .ref a :: st) := by
  subst hp
  intro g p l e R s m args below meth cc H locs LS cells slots C hR hS hL h1 h2
  have hK := C.2.2.2.2.2.2.2.2.1.1
  have hA := Rep.ar hR ha
  rw [arr_f h5 h7] at hA
  have hlt : i.toNatClampNeg < n := Nat.not_le.mp fun z => hin (Or.inr z)
  have hty : (AT t).isReference = true := by rcases (show t = 5 ∨ t = 6 by omega) with rfl | rfl <;> rfl
  refine W.aald (v := .ref (g.1 + x)) (ty := AT t) C.1 C.2.1 hA ((hK.2 t _ (tysL_at (by omega))).1 n (fun j => va_rf (oad g (L.2.2 a j)))) hty (fun z => by cases z) (by show ¬ (i < 0 ∨ (arrV _ _ _).slots.size ≤ _); rw [arrV_size]; exact hin) (by show (arrV _ _ _).slots[_]? = _; rw [arrV_read _ _ hlt]; show some (va_rf (oad g (L.2.2 a _))) = _; rw [show L.2.2 a i.toNatClampNeg = some x from hx]; rfl) rfl rfl hd (k g p l e R s m args below meth cc H locs LS cells slots C hR hS hL h1 h2)
theorem X_aaldQ (q : Nat) {a n : Nat} {i : Int32} (ha : AR L a 7 n) (hin : vp_in i n) (hd : decode b pc = .ok (.aaload, 1)) (hp : pc + 1 = q)
    (k : X F own b ret mL nm d rc rs (L, M) q ls (va_rf (mp M a i.toNatClampNeg) :: st)) : X F own b ret mL nm d rc rs (L, M) pc ls (.int i :: .ref a :: st) := by
  subst hp
  intro g p l e R s m args below meth cc H locs LS cells slots C hR hS hL h1 h2
  have hK := C.2.2.2.2.2.2.2.2.1.1
  have hA := Rep.ar hR ha
  rw [arr_m] at hA
  have hlt : i.toNatClampNeg < n := Nat.not_le.mp fun z => hin (Or.inr z)
  have kk := (k g p l e R s m args below meth cc H locs LS cells slots C hR hS hL h1 h2)
  rw [List.map_cons, cv_rf] at kk
  exact W.aald (v := va_rf (oad g (mp M a i.toNatClampNeg))) (ty := AT 7) C.1 C.2.1 hA ((hK.2 7 _ (tysL_at (by omega))).1 n (fun j => va_rf (oad g (M.2.1 a j)))) rfl (fun z => by cases z) (by show ¬ (i < 0 ∨ (arrV _ _ _).slots.size ≤ _); rw [arrV_size]; exact hin) (by show (arrV _ _ _).slots[_]? = _; rw [arrV_read _ _ hlt]; rfl) rfl rfl hd kk
theorem X_iast (q : Nat) {a n : Nat} {i : Int32} {x : Int32} (ha : AR L a 0 n) (hin : vp_in i n) (hd : decode b pc = .ok (.iastore, 1)) (hp : pc + 1 = q)
    (k : X F own b ret mL nm d rc rs (L, si M a i.toNatClampNeg x) q ls st) : X F own b ret mL nm d rc rs (L, M) pc ls (.int x :: .int i :: .ref a :: st) := by
  subst hp
  intro g p l e R s m args below meth cc H locs LS cells slots C hR hS hL h1 h2
  have hK := C.2.2.2.2.2.2.2.2.1.1
  have hA := Rep.ar hR ha
  rw [arr_i (by decide)] at hA
  refine W.iast C.1 C.2.1 hA ((hK.2 0 _ (tysL_at (by decide))).1 n (fun j => .int (M.1 a j))) (fun z => by cases z) (by show ¬ (i < 0 ∨ (arrV _ _ _).slots.size ≤ _); rw [arrV_size]; exact hin) rfl rfl hd fun H1 e1 z oq => ?_
  refine k g p l e R s m args below meth cc H1 _ LS cells slots C (Rep.upd (h' := (L, si M a i.toNatClampNeg x)) hR rfl rfl ha.1 z oq (fun _ hz => cell_si hz) ?_) (hS.put z oq (Nat.le_add_right _ _)) hL h1 h2
  rw [cellE_ar (h := (L, si M a i.toNatClampNeg x)) ha]
  show H1[g.1 + a]? = some (vp_cell (g.2.2.2.1 0) (n, arrc g 0 ((si M a i.toNatClampNeg x).1 a) (M.2.1 a) (M.2.2 a) (L.2.2 a)))
  rw [e1, arr_i (by decide), vp_cell_i, vp_cell_i, row_si_self, upd_ext, arrV_store]
  
theorem X_zast (q : Nat) {a n : Nat} {i : Int32} {x : Int32} (ha : AR L a 1 n) (hin : vp_in i n) (hd : decode b pc = .ok (.bastore, 1)) (hp : pc + 1 = q)
    (k : X F own b ret mL nm d rc rs (L, si M a i.toNatClampNeg (vp_nar .boolean x)) q ls st) : X F own b ret mL nm d rc rs (L, M) pc ls (.int x :: .int i :: .ref a :: st) := by
  subst hp
  intro g p l e R s m args below meth cc H locs LS cells slots C hR hS hL h1 h2
  have hK := C.2.2.2.2.2.2.2.2.1.1
  have hA := Rep.ar hR ha
  rw [arr_i (by decide)] at hA
  refine W.zast C.1 C.2.1 hA ((hK.2 1 _ (tysL_at (by decide))).1 n (fun j => .int (M.1 a j))) (fun z => by cases z) (by show ¬ (i < 0 ∨ (arrV _ _ _).slots.size ≤ _); rw [arrV_size]; exact hin) rfl rfl hd fun H1 e1 z oq => ?_
  refine k g p l e R s m args below meth cc H1 _ LS cells slots C (Rep.upd (h' := (L, si M a i.toNatClampNeg (vp_nar .boolean x))) hR rfl rfl ha.1 z oq (fun _ hz => cell_si hz) ?_) (hS.put z oq (Nat.le_add_right _ _)) hL h1 h2
  rw [cellE_ar (h := (L, si M a i.toNatClampNeg (vp_nar .boolean x))) ha]
  show H1[g.1 + a]? = some (vp_cell (g.2.2.2.1 1) (n, arrc g 1 ((si M a i.toNatClampNeg (vp_nar .boolean x)).1 a) (M.2.1 a) (M.2.2 a) (L.2.2 a)))
  rw [e1, arr_i (by decide), vp_cell_i, vp_cell_i, row_si_self, upd_ext, arrV_store]
  rfl
theorem X_bast (q : Nat) {a n : Nat} {i : Int32} {x : Int32} (ha : AR L a 2 n) (hin : vp_in i n) (hd : decode b pc = .ok (.bastore, 1)) (hp : pc + 1 = q)
    (k : X F own b ret mL nm d rc rs (L, si M a i.toNatClampNeg (vp_nar .byte x)) q ls st) : X F own b ret mL nm d rc rs (L, M) pc ls (.int x :: .int i :: .ref a :: st) := by
  subst hp
  intro g p l e R s m args below meth cc H locs LS cells slots C hR hS hL h1 h2
  have hK := C.2.2.2.2.2.2.2.2.1.1
  have hA := Rep.ar hR ha
  rw [arr_i (by decide)] at hA
  refine W.bast C.1 C.2.1 hA ((hK.2 2 _ (tysL_at (by decide))).1 n (fun j => .int (M.1 a j))) (fun z => by cases z) (by show ¬ (i < 0 ∨ (arrV _ _ _).slots.size ≤ _); rw [arrV_size]; exact hin) rfl rfl hd fun H1 e1 z oq => ?_
  refine k g p l e R s m args below meth cc H1 _ LS cells slots C (Rep.upd (h' := (L, si M a i.toNatClampNeg (vp_nar .byte x))) hR rfl rfl ha.1 z oq (fun _ hz => cell_si hz) ?_) (hS.put z oq (Nat.le_add_right _ _)) hL h1 h2
  rw [cellE_ar (h := (L, si M a i.toNatClampNeg (vp_nar .byte x))) ha]
  show H1[g.1 + a]? = some (vp_cell (g.2.2.2.1 2) (n, arrc g 2 ((si M a i.toNatClampNeg (vp_nar .byte x)).1 a) (M.2.1 a) (M.2.2 a) (L.2.2 a)))
  rw [e1, arr_i (by decide), vp_cell_i, vp_cell_i, row_si_self, upd_ext, arrV_store]
  rfl
theorem X_cast (q : Nat) {a n : Nat} {i : Int32} {x : Int32} (ha : AR L a 3 n) (hin : vp_in i n) (hd : decode b pc = .ok (.castore, 1)) (hp : pc + 1 = q)
    (k : X F own b ret mL nm d rc rs (L, si M a i.toNatClampNeg (vp_nar .char x)) q ls st) : X F own b ret mL nm d rc rs (L, M) pc ls (.int x :: .int i :: .ref a :: st) := by
  subst hp
  intro g p l e R s m args below meth cc H locs LS cells slots C hR hS hL h1 h2
  have hK := C.2.2.2.2.2.2.2.2.1.1
  have hA := Rep.ar hR ha
  rw [arr_i (by decide)] at hA
  refine W.cast C.1 C.2.1 hA ((hK.2 3 _ (tysL_at (by decide))).1 n (fun j => .int (M.1 a j))) (fun z => by cases z) (by show ¬ (i < 0 ∨ (arrV _ _ _).slots.size ≤ _); rw [arrV_size]; exact hin) rfl rfl hd fun H1 e1 z oq => ?_
  refine k g p l e R s m args below meth cc H1 _ LS cells slots C (Rep.upd (h' := (L, si M a i.toNatClampNeg (vp_nar .char x))) hR rfl rfl ha.1 z oq (fun _ hz => cell_si hz) ?_) (hS.put z oq (Nat.le_add_right _ _)) hL h1 h2
  rw [cellE_ar (h := (L, si M a i.toNatClampNeg (vp_nar .char x))) ha]
  show H1[g.1 + a]? = some (vp_cell (g.2.2.2.1 3) (n, arrc g 3 ((si M a i.toNatClampNeg (vp_nar .char x)).1 a) (M.2.1 a) (M.2.2 a) (L.2.2 a)))
  rw [e1, arr_i (by decide), vp_cell_i, vp_cell_i, row_si_self, upd_ext, arrV_store]
  rfl
theorem X_last (q : Nat) {a n : Nat} {i : Int32} {x : Int64} (ha : AR L a 4 n) (hin : vp_in i n) (hd : decode b pc = .ok (.lastore, 1)) (hp : pc + 1 = q)
    (k : X F own b ret mL nm d rc rs (L, sl M a i.toNatClampNeg x) q ls st) : X F own b ret mL nm d rc rs (L, M) pc ls (.long x :: .int i :: .ref a :: st) := by
  subst hp
  intro g p l e R s m args below meth cc H locs LS cells slots C hR hS hL h1 h2
  have hK := C.2.2.2.2.2.2.2.2.1.1
  have hA := Rep.ar hR ha
  rw [arr_l] at hA
  refine W.last C.1 C.2.1 hA ((hK.2 4 _ (tysL_at (by decide))).1 n (fun j => .long (M.2.2 a j))) (fun z => by cases z) (by show ¬ (i < 0 ∨ (arrV _ _ _).slots.size ≤ _); rw [arrV_size]; exact hin) rfl rfl hd fun H1 e1 z oq => ?_
  refine k g p l e R s m args below meth cc H1 _ LS cells slots C (Rep.upd (h' := (L, sl M a i.toNatClampNeg x)) hR rfl rfl ha.1 z oq (fun _ hz => cell_sl hz) ?_) (hS.put z oq (Nat.le_add_right _ _)) hL h1 h2
  rw [cellE_ar (h := (L, sl M a i.toNatClampNeg x)) ha]
  show H1[g.1 + a]? = some (vp_cell (g.2.2.2.1 4) (n, arrc g 4 (M.1 a) (M.2.1 a) ((sl M a i.toNatClampNeg x).2.2 a) (L.2.2 a)))
  rw [e1, arr_l, vp_cell_l, vp_cell_l, row_sl_self, updL_ext, arrV_store]
  
theorem X_aastF (q : Nat) {a n t v c : Nat} {i : Int32} (h5 : 5 ≤ t) (h7 : t < 7) (ha : AR L a t n) (hin : vp_in i n) (ho : OB L v c) (hc : c < 20) (htc : ∃ T N, vwCl[c]? = some (match AT t with | .object s => s | _ => "", T, N)) (hd : decode b pc = .ok (.aastore, 1)) (hp : pc + 1 = q)
    (k : X F own b ret mL nm d rc rs ((sr L a i.toNatClampNeg (some v)), M) q ls st) : X F own b ret mL nm d rc rs (L, M) pc ls (.ref v :: .int i :: .ref a :: st) := by
  subst hp
  intro g p l e R s m args below meth cc H locs LS cells slots C hR hS hL h1 h2
  have hK := C.2.2.2.2.2.2.2.2.1.1
  have hA := Rep.ar hR ha
  rw [arr_f h5 h7] at hA
  have hlt : i.toNatClampNeg < n := Nat.not_le.mp fun z => hin (Or.inr z)
  have h0 : ¬ i < 0 := fun z => hin (Or.inl z)
  obtain ⟨T, N, hcl⟩ := htc
  obtain ⟨C0, hC0⟩ : ∃ C0, AT t = .object C0 := by rcases (show t = 5 ∨ t = 6 by omega) with rfl | rfl <;> exact ⟨_, rfl⟩
  rw [hC0] at hcl
  have hv0 := Rep.at hR ho.1 (tagO ho)
  rw [cellE_ob (h := (L, M)) ho hc] at hv0
  obtain ⟨r', hr', cellV, g1, g2, g3, -⟩ := hv0
  have hcls := (hK.1 c _ hcl).2
  have hra := (hK.2 t _ (tysL_at (by omega))).2
  rw [hC0] at hra
  obtain ⟨kA, comp, k1, k2, k3, -⟩ := hra
  have hcomp : comp = (eD g).1 c := Option.some.inj (k3.symm.trans hcls.1)
  subst hcomp
  obtain ⟨kC, hkC, -⟩ := id hcls.2
  refine W.aast C.1 C.2.1 hA (fun z h => by cases h) (fun h => by cases h) k1 k2 rfl hkC ⟨h0, by show _ < (arrV _ _ _).slots.size; rw [arrV_size]; exact hlt⟩ g1 (fun z h => by rw [g3] at h; cases h) (by rw [g2]; exact hkC) (by rw [g2]; exact va_assign hcls) rfl rfl hd fun H1 e1 z oq => ?_
  refine k g p l e R s m args below meth cc H1 _ LS cells slots C (Rep.upd (h' := ((sr L a i.toNatClampNeg (some v)), M)) hR rfl rfl ha.1 z oq (fun _ hz => cell_sr hz) ?_) (hS.put z oq (Nat.le_add_right _ _)) hL h1 h2
  rw [cellE_ar (h := ((sr L a i.toNatClampNeg (some v)), M)) (n := n) (t := t) ⟨ha.1, ha.2⟩]
  show H1[g.1 + a]? = some (vp_cell (g.2.2.2.1 t) (n, arrc g t (M.1 a) (M.2.1 a) (M.2.2 a) ((sr L a i.toNatClampNeg (some v)).2.2 a)))
  rw [e1, arr_f h5 h7, vp_cell_q, vp_cell_q, row_sr_self, updQ_ext, arrV_store]
  rfl
theorem X_aastQ (q : Nat) {a n v c : Nat} {i : Int32} (ha : AR L a 7 n) (hin : vp_in i n) (ho : OB L v c) (hc : c < 20) (htc : ∃ T N, vwCl[c]? = some (match AT 7 with | .object s => s | _ => "", T, N)) (hd : decode b pc = .ok (.aastore, 1)) (hp : pc + 1 = q)
    (k : X F own b ret mL nm d rc rs (L, (sq M a i.toNatClampNeg (some v))) q ls st) : X F own b ret mL nm d rc rs (L, M) pc ls (.ref v :: .int i :: .ref a :: st) := by
  subst hp
  intro g p l e R s m args below meth cc H locs LS cells slots C hR hS hL h1 h2
  have hK := C.2.2.2.2.2.2.2.2.1.1
  have hA := Rep.ar hR ha
  rw [arr_m] at hA
  have hlt : i.toNatClampNeg < n := Nat.not_le.mp fun z => hin (Or.inr z)
  have h0 : ¬ i < 0 := fun z => hin (Or.inl z)
  obtain ⟨T, N, hcl⟩ := htc
  obtain ⟨C0, hC0⟩ : ∃ C0, AT 7 = .object C0 := by exact ⟨_, rfl⟩
  rw [hC0] at hcl
  have hv0 := Rep.at hR ho.1 (tagO ho)
  rw [cellE_ob (h := (L, M)) ho hc] at hv0
  obtain ⟨r', hr', cellV, g1, g2, g3, -⟩ := hv0
  have hcls := (hK.1 c _ hcl).2
  have hra := (hK.2 7 _ (tysL_at (by omega))).2
  rw [hC0] at hra
  obtain ⟨kA, comp, k1, k2, k3, -⟩ := hra
  have hcomp : comp = (eD g).1 c := Option.some.inj (k3.symm.trans hcls.1)
  subst hcomp
  obtain ⟨kC, hkC, -⟩ := id hcls.2
  refine W.aast C.1 C.2.1 hA (fun z h => by cases h) (fun h => by cases h) k1 k2 rfl hkC ⟨h0, by show _ < (arrV _ _ _).slots.size; rw [arrV_size]; exact hlt⟩ g1 (fun z h => by rw [g3] at h; cases h) (by rw [g2]; exact hkC) (by rw [g2]; exact va_assign hcls) rfl rfl hd fun H1 e1 z oq => ?_
  refine k g p l e R s m args below meth cc H1 _ LS cells slots C (Rep.upd (h' := (L, (sq M a i.toNatClampNeg (some v)))) hR rfl rfl ha.1 z oq (fun _ hz => cell_sq hz) ?_) (hS.put z oq (Nat.le_add_right _ _)) hL h1 h2
  rw [cellE_ar (h := (L, (sq M a i.toNatClampNeg (some v)))) (n := n) (t := 7) ⟨ha.1, ha.2⟩]
  show H1[g.1 + a]? = some (vp_cell (g.2.2.2.1 7) (n, arrc g 7 (M.1 a) ((sq M a i.toNatClampNeg (some v)).2.1 a) (M.2.2 a) (L.2.2 a)))
  rw [e1, arr_m, vp_cell_q, vp_cell_q, row_sq_self, updQ_ext, arrV_store]
  rfl
theorem X_aastN (q : Nat) {a n : Nat} {i : Int32} (ha : AR L a 7 n) (hin : vp_in i n) (hd : decode b pc = .ok (.aastore, 1)) (hp : pc + 1 = q)
    (k : X F own b ret mL nm d rc rs (L, sq M a i.toNatClampNeg none) q ls st) : X F own b ret mL nm d rc rs (L, M) pc ls (.null :: .int i :: .ref a :: st) := by
  subst hp
  intro g p l e R s m args below meth cc H locs LS cells slots C hR hS hL h1 h2
  have hK := C.2.2.2.2.2.2.2.2.1.1
  have hA := Rep.ar hR ha
  rw [arr_m] at hA
  refine va_WaastN (C := RX4) C.1 C.2.1 hA ((hK.2 7 _ (tysL_at (by decide))).1 n (fun j => va_rf (oad g (M.2.1 a j)))) (fun z => by cases z) (by show ¬ (i < 0 ∨ (arrV _ _ _).slots.size ≤ _); rw [arrV_size]; exact hin) rfl rfl hd fun H1 e1 z oq => ?_
  refine k g p l e R s m args below meth cc H1 _ LS cells slots C (Rep.upd (h' := (L, sq M a i.toNatClampNeg none)) hR rfl rfl ha.1 z oq (fun _ hz => cell_sq hz) ?_) (hS.put z oq (Nat.le_add_right _ _)) hL h1 h2
  rw [cellE_ar (h := (L, sq M a i.toNatClampNeg none)) ha]
  show H1[g.1 + a]? = some (vp_cell (g.2.2.2.1 7) (n, arrc g 7 (M.1 a) ((sq M a i.toNatClampNeg none).2.1 a) (M.2.2 a) (L.2.2 a)))
  rw [e1, arr_m, vp_cell_q, vp_cell_q, row_sq_self, updQ_ext, arrV_store]
  rfl
theorem X_alen (q : Nat) {a t n : Nat} (ht : t < 8) (ha : AR L a t n) (hd : decode b pc = .ok (.arraylength, 1)) (hp : pc + 1 = q)
    (k : X F own b ret mL nm d rc rs (L, M) q ls (.int (nI n) :: st)) : X F own b ret mL nm d rc rs (L, M) pc ls (.ref a :: st) := by
  subst hp
  intro g p l e R s m args below meth cc H locs LS cells slots C hR hS hL h1 h2
  have hK := C.2.2.2.2.2.2.2.2.1.1
  have hP := Rep.one hR (a := a) ha.1 (tagA ha)
  rw [cellE_ar (h := (L, M)) ha] at hP
  exact va_alen C.1 C.2.1 hK hP 0 t rfl (tysL_at ht) rfl hd (k g p l e R s m args below meth cc H locs LS cells slots C hR hS hL h1 h2)
theorem cellR_arr {g : Ev} {t n : Nat} : cellR g (20 + t, n) (fun _ => 0) (fun _ => none) (fun _ => 0) (fun _ => none) = .inl (g.2.2.2.1 t, (n, arrc g t (fun _ => 0) (fun _ => none) (fun _ => 0) (fun _ => none))) := by
  unfold cellR; rw [if_neg (by show ¬ 20 + t < 20; omega)]; show Sum.inl (g.2.2.2.1 (20 + t - 20), _) = _; rw [Nat.add_sub_cancel_left]
theorem X_newa (q : Nat) {atype : ArrayType} {t n : Nat} {i : Int32} (ht5 : t < 5) (hat : newarray.typeOf atype = AT t) (hw : Cond.arrayClass (AT t) ∈ GW) (hi : ¬ i < 0) (hn : i.toNatClampNeg = n) (hb0 : n ≤ 50000) (hc : 1 ≤ rc) (hs : n ≤ rs) (hd : decode b pc = .ok (.newarray atype, 2)) (hp : pc + 2 = q)
    (k : X F own b ret mL nm d (rc - 1) (rs - n) (alc (L, M) (20 + t, n)) q ls (.ref L.1 :: st)) : X F own b ret mL nm d rc rs (L, M) pc ls (.int i :: st) := by
  subst hp
  intro g p l e R s m args below meth cc H locs LS cells slots C hR hS hL h1 h2
  have hK := C.2.2.2.2.2.2.2.2.1.1
  have hcb : componentBytes (AT t) ≤ 8 := by
    rcases (show t = 0 ∨ t = 1 ∨ t = 2 ∨ t = 3 ∨ t = 4 by omega) with rfl | rfl | rfl | rfl | rfl <;> decide
  refine va_newaK (atype := atype) C.1 C.2.1 (by rw [hat]; exact C.2.2.2.2.1 _ hw) rfl hd rfl hi hn (by rw [hat]; exact Nat.le_trans (Nat.mul_le_mul hb0 hcb) (by decide)) (by omega) (by omega) rfl fun H1 cA e1 z1 o1 hAr hNm => ?_
  rw [hat] at e1 hNm
  have hra := (hK.2 t _ (tysL_at (by omega))).2
  have hcA : cA = g.2.2.2.1 t := by
    have h5 : s.vm.findClass ("[" ++ (AT t).toString) = some (g.2.2.2.1 t) := by
      rcases (show t = 0 ∨ t = 1 ∨ t = 2 ∨ t = 3 ∨ t = 4 by omega) with rfl | rfl | rfl | rfl | rfl <;> exact hra
    exact Option.some.inj (hNm.symm.trans h5)
  subst hcA
  have kk := k g p l e R s m args below meth cc H1 locs LS (cells + 1) (slots + n) C (Rep.push (h' := alc (L, M) (20 + t, n)) hR rfl (fun _ hz => if_neg (Nat.ne_of_lt hz)) z1 o1 (fun _ hz => cell_alc hz) ?_) ⟨Nat.le_trans hS.1 (by omega), fun x h5 h6 => (o1 x (Nat.lt_of_lt_of_le h5 hS.1)).trans (hS.2.1 x h5 h6), hS.2.2⟩ hL (by omega) (by omega)
  · have hsz : Value.ref H.size = cv g (.ref L.1) := by show Value.ref H.size = .ref (g.1 + L.1); rw [hR.1]
    rw [List.map_cons, ← hsz] at kk
    exact kk
  · have hce : cellE g (alc (L, M) (20 + t, n)) L.1 = .inl (g.2.2.2.1 t, (n, arrc g t (fun _ => 0) (fun _ => none) (fun _ => 0) (fun _ => none))) := by
      rw [cell_alc_self (h := (L, M)), cellR_arr]
    rw [hce]
    show H1[H.size]? = some (vp_cell _ _)
    rw [e1]
    rcases (show t = 0 ∨ t = 1 ∨ t = 2 ∨ t = 3 ∨ t = 4 by omega) with rfl | rfl | rfl | rfl | rfl <;> rfl
theorem X_newq (q : Nat) {t n idx : Nat} {i : Int32} (h5 : 5 ≤ t) (h8 : t < 8) (hw : ∃ Cn, AT t = .object Cn ∧ Cond.classLink own idx Cn ∈ GW) (hi : ¬ i < 0) (hn : i.toNatClampNeg = n) (hb0 : n ≤ 50000) (hc : 1 ≤ rc) (hs : n ≤ rs) (hd : decode b pc = .ok (.anewarray idx, 3)) (hp : pc + 3 = q)
    (k : X F own b ret mL nm d (rc - 1) (rs - n) (alc (L, M) (20 + t, n)) q ls (.ref L.1 :: st)) : X F own b ret mL nm d rc rs (L, M) pc ls (.int i :: st) := by
  subst hp
  subst hn
  intro g p l e R s m args below meth cc H locs LS cells slots C hR hS hL h1 h2
  have hK := C.2.2.2.2.2.2.2.2.1.1
  obtain ⟨-, -, -, hO3, hO9, hO4, -⟩ := id C.2.2.2.2.2.2.2.2.1
  obtain ⟨Cn, hCn, hw⟩ := hw
  have hover : va_AO Cn s := by
    rcases (show t = 5 ∨ t = 6 ∨ t = 7 by omega) with rfl | rfl | rfl
    · cases hCn; exact hO3
    · cases hCn; exact hO9
    · cases hCn; exact hO4
  refine W.anew C.1 C.2.1 C.2.2.2.1 (C.2.2.2.2.1 _ hw) (va_AO.use hover) rfl hd rfl hi (by omega) (by omega) (by omega) fun cA kA comp f1 f2 f3 f4 => ?_
  generalize hH1 : H.push ({ cls := cA, slots := Array.replicate i.toNatClampNeg .null, vm := .none } : Cell) = H1
  have z1 : H1.size = H.size + 1 := by rw [← hH1, Array.size_push]
  have e1 : H1[H.size]? = some (arrV cA i.toNatClampNeg (fun _ => .null)) := by rw [← hH1, Array.getElem?_push_size, ← arrV_new]
  have o1 : ∀ q : Nat, q < H.size → H1[q]? = H[q]? := fun q hq => by rw [← hH1, Array.getElem?_push, if_neg (Nat.ne_of_lt hq)]
  have hra := (hK.2 t _ (tysL_at h8)).2
  rw [hCn] at hra
  obtain ⟨kA2, comp2, -, -, -, hfa⟩ := hra
  have hcA : cA = g.2.2.2.1 t := Option.some.inj (f1.symm.trans hfa)
  subst hcA
  have kk := k g p l e R s m args below meth cc H1 locs LS (cells + 1) (slots + i.toNatClampNeg) C (Rep.push (h' := alc (L, M) (20 + t, i.toNatClampNeg)) hR rfl (fun _ hz => if_neg (Nat.ne_of_lt hz)) z1 o1 (fun _ hz => cell_alc hz) ?_) ⟨Nat.le_trans hS.1 (by omega), fun x h5 h6 => (o1 x (Nat.lt_of_lt_of_le h5 hS.1)).trans (hS.2.1 x h5 h6), hS.2.2⟩ hL (by omega) (by omega)
  · have hsz : Value.ref H.size = cv g (.ref L.1) := by show Value.ref H.size = .ref (g.1 + L.1); rw [hR.1]
    rw [List.map_cons, ← hsz] at kk
    exact kk
  · have hce : cellE g (alc (L, M) (20 + t, i.toNatClampNeg)) L.1 = .inl (g.2.2.2.1 t, (i.toNatClampNeg, arrc g t (fun _ => 0) (fun _ => none) (fun _ => 0) (fun _ => none))) := by
      rw [cell_alc_self (h := (L, M)), cellR_arr]
    rw [hce]
    show H1[H.size]? = some (vp_cell _ _)
    rw [e1]
    rcases (show t = 5 ∨ t = 6 ∨ t = 7 by omega) with rfl | rfl | rfl <;> rfl
theorem slot_new {g : Ev} {c j N : Nat} {C : String} {T : u_T} {ty : Nat → FieldType} (hC : CB c C T N ty) (hj : j < N) : defaultValue (ty j) = slotv g c (fun _ => 0) (fun _ => none) (fun _ => 0) (fun _ => none) j := by
  have hs := SO_lt hC hj
  obtain ⟨d0, d1, d2, d3⟩ := hC.2.2.2.2.2.2.2.2.1 j hj
  rcases (show SO c j = 0 ∨ SO c j = 1 ∨ SO c j = 2 ∨ SO c j = 3 by omega) with h | h | h | h
  · rw [slot_0 h, d0 h]
  · rw [slot_1 h, d1 h]; rfl
  · rw [slot_2 h, d2 h]
  · rw [slot_3 h, d3 h]; rfl
theorem X_new (q : Nat) {c idx N : Nat} {Cn : String} {T : u_T} {ty : Nat → FieldType} (hC : CB c Cn T N ty) (hw : Cond.classLink own idx Cn ∈ GW) (hc : 1 ≤ rc) (hs : N ≤ rs) (hd : decode b pc = .ok (.new idx, 3)) (hp : pc + 3 = q)
    (k : X F own b ret mL nm d (rc - 1) (rs - N) (alc (L, M) (c, 0)) q ls (.ref L.1 :: st)) : X F own b ret mL nm d rc rs (L, M) pc ls st := by
  subst hp
  intro g p l e R s m args below meth cc H locs LS cells slots C hR hS hL h1 h2
  have hK := C.2.2.2.2.2.2.2.2.1.1
  have hts := C.2.2.2.2.1
  have hKn := hK.1 c _ hC.1
  refine W.newcK C.1 C.2.1 C.2.2.2.1 (hts _ hw) (hts _ hC.2.2.2.2.2.2.1) (hts _ hC.2.2.2.2.2.2.2.1) rfl hd (by omega) (by omega) hKn.2.1 rfl fun H1 kC hkC e1 z1 o1 => ?_
  have kk := k g p l e R s m args below meth cc H1 locs LS (cells + 1) (slots + N) C (Rep.push (h' := alc (L, M) (c, 0)) hR rfl (fun _ hz => if_neg (Nat.ne_of_lt hz)) z1 o1 (fun _ hz => cell_alc hz) ?_) ⟨Nat.le_trans hS.1 (by omega), fun x h5 h6 => (o1 x (Nat.lt_of_lt_of_le h5 hS.1)).trans (hS.2.1 x h5 h6), hS.2.2⟩ hL (by omega) (by omega)
  · have hsz : Value.ref H.size = cv g (.ref L.1) := by show Value.ref H.size = .ref (g.1 + L.1); rw [hR.1]
    rw [List.map_cons, ← hsz] at kk
    exact kk
  · have hce : cellE g (alc (L, M) (c, 0)) L.1 = .inr (c, (List.range (NF c)).map (slotv g c (fun _ => 0) (fun _ => none) (fun _ => 0) (fun _ => none))) := by
      rw [cell_alc_self (h := (L, M))]; unfold cellR; rw [if_pos hC.2.2.2.2.2.1]
    rw [hce]
    refine ⟨_, hC.1, (u_born ty hts hC.2.1 hKn hkC e1 hC.2.2.1).to fun j hj => ?_⟩
    show defaultValue (ty j) = vp_V _ j
    rw [slot_new (g := g) hC hj]
    show _ = (List.getD _ j Value.null)
    rw [List.getD_eq_getElem?_getD, rng_at (by rw [hC.2.2.2.2.1]; exact hj)]
    rfl
end XA
