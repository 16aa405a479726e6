-- LEVEL 1: the machine seen as one heap of typed rows. Part 1: the words, the picture of the heap, what the tables give.
def GW : List Cond := lw_tbl.filter goodWord
theorem gw_tbl (i : Nat) {w : Cond} (h : tables_1[i]? = some w) (hg : goodWord w = true) : w ∈ GW :=
  List.mem_filter.mpr ⟨List.mem_append_right _ (List.mem_of_getElem? h), hg⟩
theorem gw_sel (i : Nat) {q : MethodName × Nat} (h : lw_privs[i]? = some q) (hg : goodWord (Cond.selects q.1.cls q.1 q.1) = true) : Cond.selects q.1.cls q.1 q.1 ∈ GW :=
  List.mem_filter.mpr ⟨List.mem_append_left _ (List.mem_map.mpr ⟨q, List.mem_of_getElem? h, rfl⟩), hg⟩
theorem gw_good {w : Cond} (h : w ∈ GW) : goodWord w = true := (List.mem_filter.mp h).2
theorem gw_tb {w : Cond} (h : w ∈ GW) : w ∈ lw_tbl := (List.mem_filter.mp h).1
theorem gw_in {big ws : List Cond} (h : ∀ w ∈ ws, w ∈ GW) (hb : ∀ w ∈ GW, w ∈ big) : GoodIn big ws := fun w hw => ⟨hb w (h w hw), good_of_word (gw_good (h w hw))⟩

abbrev Mem : Type := (Nat → Nat → Int32) × (Nat → Nat → Option Nat) × (Nat → Nat → Int64)
abbrev Lay : Type := Nat × (Nat → Nat × Nat) × (Nat → Nat → Option Nat)
abbrev Hp : Type := Lay × Mem
def mi (M : Mem) (a k : Nat) : Int32 := M.1 a k
def mp (M : Mem) (a k : Nat) : Option Nat := M.2.1 a k
def ml (M : Mem) (a k : Nat) : Int64 := M.2.2 a k
def si (M : Mem) (a k : Nat) (x : Int32) : Mem := (fun b j => if b = a ∧ j = k then x else M.1 b j, M.2.1, M.2.2)
def sq (M : Mem) (a k : Nat) (x : Option Nat) : Mem := (M.1, fun b j => if b = a ∧ j = k then x else M.2.1 b j, M.2.2)
def sl (M : Mem) (a k : Nat) (x : Int64) : Mem := (M.1, M.2.1, fun b j => if b = a ∧ j = k then x else M.2.2 b j)
def lr (L : Lay) (a k : Nat) : Option Nat := L.2.2 a k
def OB (L : Lay) (a c : Nat) : Prop := a < L.1 ∧ L.2.1 a = (c, 0)
def AR (L : Lay) (a t n : Nat) : Prop := a < L.1 ∧ L.2.1 a = (20 + t, n)
/-- a new cell: its tag, its rows all 0 and null -/
def alc (h : Hp) (tg : Nat × Nat) : Hp :=
  ((h.1.1 + 1, (fun k => if k = h.1.1 then tg else h.1.2.1 k), (fun k => if k = h.1.1 then fun _ => none else h.1.2.2 k)),
   (fun k => if k = h.1.1 then fun _ => 0 else h.2.1 k), (fun k => if k = h.1.1 then fun _ => none else h.2.2.1 k), (fun k => if k = h.1.1 then fun _ => 0 else h.2.2.2 k))
/-- a fixed reference is written (in constructors only) -/
def sr (L : Lay) (a k : Nat) (x : Option Nat) : Lay := (L.1, L.2.1, fun b j => if b = a ∧ j = k then x else L.2.2 b j)

/-- fields of a class: 0 int, 1 fixed reference, 2 long, 3 reference that changes -/
def SOL : List (List Nat) := [[0, 0, 0, 0, 0], [0, 0], [1, 1, 1, 1], [0, 0, 0, 0, 0, 0, 0, 0, 0, 0, 0, 0, 0, 0], [3, 3, 3, 3, 0, 0, 0], [1, 0, 0, 0, 0, 0, 0, 1, 0, 1, 0, 0, 0, 0], [1, 1], [0, 0, 0, 1, 1, 1, 1], [0, 1, 1, 1, 1], [0, 0, 0, 0, 0, 0, 1], [0, 1, 0, 1, 0, 0, 0, 0, 1, 3, 3, 3, 3, 0, 0, 1, 1], [1, 1, 1, 1, 1, 1, 1, 0, 1],
  [0, 1, 1, 1, 1, 1, 1, 1, 1, 1, 1, 1, 1, 1, 1, 1, 1, 1, 1, 1, 1, 1, 1, 1, 1, 1, 1, 1, 0, 1, 1, 1, 1, 1, 0, 1, 1, 0, 1, 1, 0, 0, 0, 1, 0, 0, 0, 0, 2, 0, 0, 1, 1, 1, 1, 1, 1, 0, 1, 1, 1, 1, 1, 1, 1, 1, 1, 1, 0, 0, 1, 1, 1, 0, 1, 1, 1, 1, 1, 1, 0, 1, 1, 1]]
def SO (c j : Nat) : Nat := (SOL.getD c []).getD j 0
def NF (c : Nat) : Nat := (SOL.getD c []).length
abbrev Ev : Type := Nat × (Nat → ClassId) × (Nat → Nat → Nat) × (Nat → ClassId) × (Nat → Nat) × Value
abbrev eA (g : Ev) : Nat → Prop := fun q => g.1 ≤ q
abbrev eD (g : Ev) : va_G := (g.2.1, g.2.2.1)
def cv (g : Ev) : Value → Value
  | .ref k => .ref (g.1 + k)
  | .float u => if u.toNat = 5 then g.2.2.2.2.2 else .ref (g.2.2.2.2.1 u.toNat)
  | v => v
abbrev junk : Value := .double 0
def oad (g : Ev) (o : Option Nat) : Option Nat := o.map (fun k => g.1 + k)
def slotv (g : Ev) (c : Nat) (iv : Nat → Int32) (pv : Nat → Option Nat) (lv : Nat → Int64) (rr : Nat → Option Nat) (j : Nat) : Value :=
  match SO c j with
  | 0 => .int (iv j)
  | 1 => va_rf (oad g (rr j))
  | 2 => .long (lv j)
  | _ => va_rf (oad g (pv j))
def arrc (g : Ev) (t : Nat) (iv : Nat → Int32) (pv : Nat → Option Nat) (lv : Nat → Int64) (rr : Nat → Option Nat) : (Nat → Int32) ⊕ (Nat → Int64) ⊕ (Nat → UInt32) ⊕ (Nat → UInt64) ⊕ (Nat → Option Nat) :=
  if t < 4 then .inl iv else if t = 4 then .inr (.inl lv) else if t < 7 then .inr (.inr (.inr (.inr (fun j => oad g (rr j))))) else .inr (.inr (.inr (.inr (fun j => oad g (pv j)))))
def cellR (g : Ev) (tg : Nat × Nat) (iv : Nat → Int32) (pv : Nat → Option Nat) (lv : Nat → Int64) (rr : Nat → Option Nat) : va_E :=
  if tg.1 < 20 then .inr (tg.1, (List.range (NF tg.1)).map (slotv g tg.1 iv pv lv rr)) else .inl (g.2.2.2.1 (tg.1 - 20), (tg.2, arrc g (tg.1 - 20) iv pv lv rr))
def cellE (g : Ev) (h : Hp) (a : Nat) : va_E := cellR g (h.1.2.1 a) (h.2.1 a) (h.2.2.1 a) (h.2.2.2 a) (h.1.2.2 a)
def Rep (g : Ev) (h : Hp) (H : Heap) : Prop := H.size = g.1 + h.1.1 ∧ ∀ a : Nat, a < h.1.1 → h.1.2.1 a = (0, 1) ∨ va_at (eD g) vwCl (g.1 + a, cellE g h a) H
theorem tagO {L : Lay} {a c : Nat} (h : OB L a c) : ¬ L.2.1 a = (0, 1) := fun q => absurd (congrArg Prod.snd (h.2.symm.trans q)) (show ¬ (0 : Nat) = 1 by decide)
theorem tagA {L : Lay} {a t n : Nat} (h : AR L a t n) : ¬ L.2.1 a = (0, 1) := fun q => absurd (congrArg Prod.fst (h.2.symm.trans q)) (show ¬ 20 + t = 0 by omega)
theorem Rep.at {g : Ev} {h : Hp} {H : Heap} (hR : Rep g h H) {a : Nat} (ha : a < h.1.1) (hn : ¬ h.1.2.1 a = (0, 1)) : va_at (eD g) vwCl (g.1 + a, cellE g h a) H := (hR.2 a ha).resolve_left hn
theorem Rep.one {g : Ev} {h : Hp} {H : Heap} (hR : Rep g h H) {a : Nat} (ha : a < h.1.1) (hn : ¬ h.1.2.1 a = (0, 1)) : va_P (eD g) vwCl [(g.1 + a, cellE g h a)] H := by
  intro k q hk
  cases k with
  | zero => cases hk; exact Rep.at hR ha hn
  | succ k => cases hk
theorem D_one {A : Nat → Prop} {a : Nat} {e : va_E} (h : A a) : va_D A [(a, e)] := by
  refine ⟨fun i j p q hi hj _ => ?_, fun k q hk => ?_⟩
  · have h1 := (List.getElem?_eq_some_iff.mp hi).1
    have h2 := (List.getElem?_eq_some_iff.mp hj).1
    simp only [List.length_singleton] at h1 h2
    omega
  · have h1 := (List.getElem?_eq_some_iff.mp hk).1
    simp only [List.length_singleton] at h1
    obtain rfl : k = 0 := by omega
    cases hk; exact h
theorem cellE_ob {g : Ev} {h : Hp} {a c : Nat} (ho : OB h.1 a c) (hc : c < 20) : cellE g h a = .inr (c, (List.range (NF c)).map (slotv g c (h.2.1 a) (h.2.2.1 a) (h.2.2.2 a) (h.1.2.2 a))) := by
  unfold cellE cellR; rw [ho.2]; exact if_pos hc
theorem cellE_ar {g : Ev} {h : Hp} {a t n : Nat} (ho : AR h.1 a t n) : cellE g h a = .inl (g.2.2.2.1 t, (n, arrc g t (h.2.1 a) (h.2.2.1 a) (h.2.2.2 a) (h.1.2.2 a))) := by
  unfold cellE cellR; rw [ho.2, if_neg (by show ¬ (20 + t < 20); omega)]
  show Sum.inl (g.2.2.2.1 (20 + t - 20), (n, arrc g (20 + t - 20) _ _ _ _)) = _
  rw [Nat.add_sub_cancel_left]
theorem Rep.upd {g : Ev} {h h' : Hp} {H H' : Heap} (hR : Rep g h H) (hL : h'.1.1 = h.1.1) (hT : h'.1.2.1 = h.1.2.1) {a : Nat} (ha : a < h.1.1) (z : H'.size = H.size) (o : ∀ q : Nat, q ≠ g.1 + a → H'[q]? = H[q]?)
    (hrow : ∀ b, b ≠ a → cellE g h' b = cellE g h b) (he : va_at (eD g) vwCl (g.1 + a, cellE g h' a) H') : Rep g h' H' := by
  refine ⟨by rw [z, hR.1, hL], fun b hb => ?_⟩
  by_cases hba : b = a
  · subst hba; exact Or.inr he
  · rw [hrow b hba, hT]
    exact (hR.2 b (by omega)).imp id (fun q => q.kept (o _ (by show g.1 + b ≠ g.1 + a; omega)))
theorem Rep.push {g : Ev} {h h' : Hp} {H H' : Heap} (hR : Rep g h H) (hL : h'.1.1 = h.1.1 + 1) (hT : ∀ b, b < h.1.1 → h'.1.2.1 b = h.1.2.1 b) (z : H'.size = H.size + 1) (o : ∀ q : Nat, q < H.size → H'[q]? = H[q]?)
    (hrow : ∀ b, b < h.1.1 → cellE g h' b = cellE g h b) (he : va_at (eD g) vwCl (H.size, cellE g h' h.1.1) H') : Rep g h' H' := by
  refine ⟨by rw [z, hR.1, hL]; omega, fun b hb => ?_⟩
  by_cases hba : b = h.1.1
  · subst hba; rw [hR.1] at he; exact Or.inr he
  · rw [hrow b (by omega), hT b (by omega)]
    exact (hR.2 b (by omega)).imp id (fun q => q.kept (o _ (by show g.1 + b < H.size; rw [hR.1]; omega)))
theorem row_si {M : Mem} {a k b : Nat} {x : Int32} (hb : b ≠ a) : (si M a k x).1 b = M.1 b := by
  funext j; show (if b = a ∧ j = k then x else M.1 b j) = _; rw [if_neg (fun q => hb q.1)]
theorem row_sq {M : Mem} {a k b : Nat} {x : Option Nat} (hb : b ≠ a) : (sq M a k x).2.1 b = M.2.1 b := by
  funext j; show (if b = a ∧ j = k then x else M.2.1 b j) = _; rw [if_neg (fun q => hb q.1)]
theorem row_sl {M : Mem} {a k b : Nat} {x : Int64} (hb : b ≠ a) : (sl M a k x).2.2 b = M.2.2 b := by
  funext j; show (if b = a ∧ j = k then x else M.2.2 b j) = _; rw [if_neg (fun q => hb q.1)]
theorem row_sr {L : Lay} {a k b : Nat} {x : Option Nat} (hb : b ≠ a) : (sr L a k x).2.2 b = L.2.2 b := by
  funext j; show (if b = a ∧ j = k then x else L.2.2 b j) = _; rw [if_neg (fun q => hb q.1)]
theorem row_si_self {M : Mem} {a k : Nat} {x : Int32} : (si M a k x).1 a = upd (M.1 a) k x := by
  funext j; show (if a = a ∧ j = k then x else M.1 a j) = if j = k then x else M.1 a j
  by_cases hj : j = k
  · rw [if_pos ⟨rfl, hj⟩, if_pos hj]
  · rw [if_neg (fun q => hj q.2), if_neg hj]
theorem row_sl_self {M : Mem} {a k : Nat} {x : Int64} : (sl M a k x).2.2 a = vp_updL (M.2.2 a) k x := by
  funext j; show (if a = a ∧ j = k then x else M.2.2 a j) = if j = k then x else M.2.2 a j
  by_cases hj : j = k
  · rw [if_pos ⟨rfl, hj⟩, if_pos hj]
  · rw [if_neg (fun q => hj q.2), if_neg hj]
theorem row_sq_self {M : Mem} {a k : Nat} {x : Option Nat} : (sq M a k x).2.1 a = va_up (M.2.1 a) k x := by
  funext j; show (if a = a ∧ j = k then x else M.2.1 a j) = if j = k then x else M.2.1 a j
  by_cases hj : j = k
  · rw [if_pos ⟨rfl, hj⟩, if_pos hj]
  · rw [if_neg (fun q => hj q.2), if_neg hj]
theorem row_sr_self {L : Lay} {a k : Nat} {x : Option Nat} : (sr L a k x).2.2 a = va_up (L.2.2 a) k x := by
  funext j; show (if a = a ∧ j = k then x else L.2.2 a j) = if j = k then x else L.2.2 a j
  by_cases hj : j = k
  · rw [if_pos ⟨rfl, hj⟩, if_pos hj]
  · rw [if_neg (fun q => hj q.2), if_neg hj]
theorem cell_si {g : Ev} {L : Lay} {M : Mem} {a k b : Nat} {x : Int32} (hb : b ≠ a) : cellE g (L, si M a k x) b = cellE g (L, M) b := by
  show cellR g (L.2.1 b) ((si M a k x).1 b) (M.2.1 b) (M.2.2 b) (L.2.2 b) = _
  rw [row_si hb]; rfl
theorem cell_sq {g : Ev} {L : Lay} {M : Mem} {a k b : Nat} {x : Option Nat} (hb : b ≠ a) : cellE g (L, sq M a k x) b = cellE g (L, M) b := by
  show cellR g (L.2.1 b) (M.1 b) ((sq M a k x).2.1 b) (M.2.2 b) (L.2.2 b) = _
  rw [row_sq hb]; rfl
theorem cell_sl {g : Ev} {L : Lay} {M : Mem} {a k b : Nat} {x : Int64} (hb : b ≠ a) : cellE g (L, sl M a k x) b = cellE g (L, M) b := by
  show cellR g (L.2.1 b) (M.1 b) (M.2.1 b) ((sl M a k x).2.2 b) (L.2.2 b) = _
  rw [row_sl hb]; rfl
theorem cell_sr {g : Ev} {L : Lay} {M : Mem} {a k b : Nat} {x : Option Nat} (hb : b ≠ a) : cellE g (sr L a k x, M) b = cellE g (L, M) b := by
  show cellR g (L.2.1 b) (M.1 b) (M.2.1 b) (M.2.2 b) ((sr L a k x).2.2 b) = _
  rw [row_sr hb]; rfl
theorem cell_alc {g : Ev} {h : Hp} {tg : Nat × Nat} {b : Nat} (hb : b < h.1.1) : cellE g (alc h tg) b = cellE g h b := by
  have hne : ¬ b = h.1.1 := Nat.ne_of_lt hb
  simp only [cellE, alc, if_neg hne]
theorem cell_alc_self {g : Ev} {h : Hp} {tg : Nat × Nat} : cellE g (alc h tg) h.1.1 = cellR g tg (fun _ => 0) (fun _ => none) (fun _ => 0) (fun _ => none) := by
  simp only [cellE, alc, if_true]
/-- array types -/
def AT : Nat → FieldType
  | 0 => .int
  | 1 => .boolean
  | 2 => .byte
  | 3 => .char
  | 4 => .long
  | 5 => .object RX3
  | 6 => .object RX9
  | _ => .object RX4
def tysL (g : Ev) : List (ClassId × FieldType) := (List.range 8).map (fun t => (g.2.2.2.1 t, AT t))
theorem tysL_at {g : Ev} {t : Nat} (ht : t < 8) : (tysL g)[t]? = some (g.2.2.2.1 t, AT t) := by
  unfold tysL; rw [List.getElem?_map, List.getElem?_range ht]; rfl
/-- links to private constructors of nest mates -/
def NWL : List (String × Nat × MethodName × String) := [("CoalVend$World", 29, ⟨"CoalVend$City", "<init>", "()V"⟩, "CoalVend"), ("CoalVend$World", 51, ⟨"CoalVend$Reckoner", "<init>", "()V"⟩, "CoalVend"), ("CoalVend$World", 60, ⟨"CoalVend$Owner", "<init>", "()V"⟩, "CoalVend"), ("CoalVend$World", 61, ⟨"CoalVend$Ship", "<init>", "()V"⟩, "CoalVend"), ("CoalVend", 21, ⟨"CoalVend$Reader", "<init>", "()V"⟩, "CoalVend"), ("CoalVend", 28, ⟨"CoalVend$Months", "<init>", "()V"⟩, "CoalVend"), ("CoalVend", 35, ⟨"CoalVend$Reports", "<init>", "()V"⟩, "CoalVend"), ("CoalVend", 42, ⟨"CoalVend$Sales", "<init>", "()V"⟩, "CoalVend"), ("CoalVend$Reader", 33, ⟨"CoalVend$Pact", "<init>", "()V"⟩, "CoalVend")]
abbrev NSE : String := "java/util/NoSuchElementException"
/-- the constructors with a text behind NSE's -/
def DCL : List String := ["java/lang/RuntimeException", "java/lang/Exception", Bundle.tN]
def CPL : List (String × String) := [(NSE, NSE), ("[I", "java/lang/Cloneable")]
def tx0 : String := "()<=+-*/;"
def tx1 : String := "weight  issue   fine    fall    rests   bar     when    void    duty    and     or      not     owner   might   quality digs    stock   vended  allottedover    price   city    want    ships   hungry  month   breakers"
def sby : List (List Int32) := [[40, 41, 60, 61, 43, 45, 42, 47, 59], [119, 101, 105, 103, 104, 116, 32, 32, 105, 115, 115, 117, 101, 32, 32, 32, 102, 105, 110, 101, 32, 32, 32, 32, 102, 97, 108, 108, 32, 32, 32, 32, 114, 101, 115, 116, 115, 32, 32, 32, 98, 97, 114, 32, 32, 32, 32, 32, 119, 104, 101, 110, 32, 32, 32, 32, 118, 111, 105, 100, 32, 32, 32, 32, 100, 117, 116, 121, 32, 32, 32, 32, 97, 110, 100, 32, 32, 32, 32, 32, 111, 114, 32, 32, 32, 32, 32, 32, 110, 111, 116, 32, 32, 32, 32, 32, 111, 119, 110, 101, 114, 32, 32, 32, 109, 105, 103, 104, 116, 32, 32, 32, 113, 117, 97, 108, 105, 116, 121, 32, 100, 105, 103, 115, 32, 32, 32, 32, 115, 116, 111, 99, 107, 32, 32, 32, 118, 101, 110, 100, 101, 100, 32, 32, 97, 108, 108, 111, 116, 116, 101, 100, 111, 118, 101, 114, 32, 32, 32, 32, 112, 114, 105, 99, 101, 32, 32, 32, 99, 105, 116, 121, 32, 32, 32, 32, 119, 97, 110, 116, 32, 32, 32, 32, 115, 104, 105, 112, 115, 32, 32, 32, 104, 117, 110, 103, 114, 121, 32, 32, 109, 111, 110, 116, 104, 32, 32, 32, 98, 114, 101, 97, 107, 101, 114, 115]]
def sln : List Nat := [9, 216]
/-- what a state gives beside the good words: the classes, the private constructors, the arrays, the text constants, what a throw needs -/
def KX (g : Ev) (U : State) : Prop :=
  va_K (eD g) vwCl (tysL g) U ∧ (∀ q ∈ NWL, va_Nw (.methodLinkNest q.1 q.2.1 q.2.2.1 q.2.2.2) U) ∧ (∀ q ∈ CPL, va_Nw (.castable q.1 q.2) U) ∧ va_AO RX3 U ∧ va_AO RX9 U ∧ va_AO RX4 U ∧
  vk_S 2 sln sby (fun i => g.2.2.2.2.1 (1 + i)) (fun i => g.2.2.2.2.1 (3 + i)) (eA g) U U.heap ∧ vk_R RX5 163 tx0 (g.2.2.2.2.1 1) U ∧ vk_R RX5 173 tx1 (g.2.2.2.2.1 2) U ∧
  vk_R RX11 236 "no such set, owner or n" (g.2.2.2.2.1 6) U ∧ vk_R RX11 251 "no such issue" (g.2.2.2.2.1 7) U ∧ vk_R RX11 263 "no such owner or what" (g.2.2.2.2.1 8) U ∧
  va_Z RJ0 "COMPACT_STRINGS" "Z" (.int 1) (eA g) U U.heap ∧ va_Z RJ3 "SIOOBE_FORMATTER" "Ljava/util/function/BiFunction;" g.2.2.2.2.2 (eA g) U U.heap ∧ (g.2.2.2.2.2 = .null ∨ ∃ a, g.2.2.2.2.2 = .ref a) ∧
  vx_Zq Bundle.tN "UNASSIGNED_STACK" Bundle.steD (eA g) U U.heap ∧ vx_Zq Bundle.tN "SUPPRESSED_SENTINEL" Bundle.listD (eA g) U U.heap ∧ ∀ q ∈ DCL, va_Nw (.declares (Bundle.initS q)) U
theorem KX.moved {g : Ev} {s U : State} (hW : s.WarmedH U.vm) (hH : ∀ a : Nat, a < s.heap.size → ¬ eA g a → U.heap[a]? = s.heap[a]?) (h : KX g s) : KX g U := by
  obtain ⟨h1, h2, h3, h4, h5, h6, h7, h8, h9, ha, hb, hc, hd, he, hf, hg, hh, hj⟩ := h
  exact ⟨va_K.moved hW.alike h1, fun q hq => va_Nw.warmM hW (h2 q hq), fun q hq => va_Nw.warmC hW (h3 q hq), va_AO.moved hW.alike h4, va_AO.moved hW.alike h5, va_AO.moved hW.alike h6,
    vk_S.moved hW.alike (vk_S.kept h7 hH), vk_R.warm hW h8, vk_R.warm hW h9, vk_R.warm hW ha, vk_R.warm hW hb, vk_R.warm hW hc, va_Z.moved hW.alike (va_Z.kept hd hH), va_Z.moved hW.alike (va_Z.kept he hH), hf,
    vx_Zq.moved hW.alike (vx_Zq.kept hg hH), vx_Zq.moved hW.alike (vx_Zq.kept hh hH), fun q hq => va_Nw.warmD hW (hj q hq)⟩
