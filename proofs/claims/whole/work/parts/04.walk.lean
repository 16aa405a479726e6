-- LEVEL 1, part 2: a walk over the picture (X), contracts over it (MX), the rules of the instructions
def CB (c : Nat) (C : String) (T : u_T) (N : Nat) (ty : Nat → FieldType) : Prop :=
  vwCl[c]? = some (C, T, N) ∧ (∀ w ∈ u_ws C T N, w ∈ GW) ∧ (∀ k, k < N → parseFieldDescriptor (T k).2.2.1 = some (ty k)) ∧ (∀ a, a < N → ∀ b, b < N → a ≠ b → (T a).2.1 ≠ (T b).2.1) ∧
  NF c = N ∧ c < 20 ∧ Cond.instantiable C N ∈ GW ∧ Cond.initialized C ∈ GW ∧ (∀ j, j < N → (SO c j = 0 → defaultValue (ty j) = .int 0) ∧ (SO c j = 1 → defaultValue (ty j) = .null) ∧ (SO c j = 2 → defaultValue (ty j) = .long 0) ∧ (SO c j = 3 → defaultValue (ty j) = .null)) ∧ (∀ j, j < N → SO c j < 4)
def FL (own : String) (idx c j : Nat) (ty : FieldType) (fin : Bool) : Prop :=
  ∃ (C : String) (T : u_T) (N : Nat) (tyf : Nat → FieldType), CB c C T N tyf ∧ j < N ∧ tyf j = ty ∧ (T j).2.2.2 = fin ∧ (T j).1 = C ∧ Cond.fieldLink own idx (T j).1 (T j).2.1 (T j).2.2.1 ∈ GW
/-- locals: what is listed is held; junk says nothing -/
def LRl (g : Ev) (mL : Nat) (ls : List Value) (LS : Array Slot) : Prop :=
  LS.size = mL ∧ lv_wf LS ∧ ls.length ≤ mL ∧ ∀ (i : Nat) (v : Value), ls[i]? = some v → v ≠ junk → LS[i]? = some (.val (cv g v))
def XC (g : Ev) (own : String) (b : ByteArray) (ret : Option FieldType) (mL : Nat) (nm : String) (d : Nat) (p : Program) (R : Room) (s : State) (m : MethodId) (args : Array Value) (meth : Method) (c : Code) : Prop :=
  p.tables.exec = Jvm.exec ∧ c.code = b ∧ c.maxLocals = mL ∧ s.vm.findClass own = some m.cls ∧ (∀ w ∈ GW, w.before args s = true) ∧ meth.sig.returnType = ret ∧ meth.locks = false ∧ meth.name = nm ∧ KX g s ∧ d ≤ R.frames ∧ 45 * d ≤ R.locals
abbrev Fin9 : Type := Ev → Launch → State → Array Value → List Frame → Room → State → Prop
def X (F : Fin9) (own : String) (b : ByteArray) (ret : Option FieldType) (mL : Nat) (nm : String) (d rc rs : Nat) (h : Hp) (pc : Nat) (ls st : List Value) : Prop :=
  ∀ (g : Ev) (p : Program) (l : Launch) (e : Env) (R : Room) (s : State) (m : MethodId) (args : Array Value) (below : List Frame) (meth : Method) (c : Code) (H : Heap) (locs : List Loc) (LS : Array Slot) (cells slots : Nat),
    XC g own b ret mL nm d p R s m args meth c → Rep g h H → va_S (eA g) s.heap H locs → LRl g mL ls LS → cells + rc ≤ R.cells → slots + rs ≤ R.slots →
    W p l e R s m args below meth c H locs cells slots (F g l s args below R) (F0 m pc LS (st.map (cv g)))
def QcX (g : Ev) (Q : Option Value → Hp → Prop) : Array Value → State → Outcome → State → Prop := fun _ st o t =>
  (∃ (r : Option Value) (h : Hp), o = .returned (r.map (cv g)) ∧ Rep g h t.heap ∧ Q r h) ∧ va_F (eA g) st t
def FM (Q : Option Value → Hp → Prop) : Fin9 := fun g _ s args below R => MQ below (QcX g Q) args s R.cells R.slots (eA g)
def PcX (g : Ev) (as : List Value) (h : Hp) : Array Value → State → Prop := fun v U => v = (as.map (cv g)).toArray ∧ Rep g h U.heap ∧ KX g U
abbrev rmX (d rc rs : Nat) : Room := { frames := d, cells := rc, slots := rs, locals := 45 * d }
abbrev wsX (y : MethodName) (b : ByteArray) (mL : Nat) (ret : Option FieldType) : List Cond := Cond.code y b mL ret :: GW
def MX (y : MethodName) (b : ByteArray) (ret : Option FieldType) (mL d rc rs : Nat) (as : List Value) (h : Hp) (Q : Option Value → Hp → Prop) : Prop :=
  ∀ (l : Launch) (g : Ev), Met l y (wsX y b mL ret) (rmX d rc rs) (PcX g as h) (QcX g Q) rc rs (eA g)
theorem MX.mono {y : MethodName} {b : ByteArray} {ret : Option FieldType} {mL d rc rs : Nat} {as : List Value} {h : Hp} {Q Q' : Option Value → Hp → Prop} (H : MX y b ret mL d rc rs as h Q) (hq : ∀ r h', Q r h' → Q' r h') : MX y b ret mL d rc rs as h Q' := by
  intro l g p e ha hc hk s m args below hf happ hpre hcl
  obtain ⟨k, o, h1, h2, h3, hQ⟩ := H l g p e ha hc hk s m args below hf happ hpre hcl
  obtain ⟨⟨⟨r, h', e1, e2, e3⟩, e4⟩, e5⟩ := hQ
  exact ⟨k, o, h1, h2, h3, ⟨⟨⟨r, h', e1, e2, hq _ _ e3⟩, e4⟩, e5⟩⟩
/-- the locals at a method's entry -/
def entL : List Value → List Value
  | [] => []
  | v :: vs => if v.category = 2 then v :: junk :: entL vs else v :: entL vs
theorem cv_cat {g : Ev} {v : Value} (h : v ≠ junk) (hf : ∀ u, v = .float u → u.toNat = 5 → (g.2.2.2.2.2).category = 1) : (cv g v).category = v.category := by
  cases v with
  | float u =>
    show (if u.toNat = 5 then g.2.2.2.2.2 else Value.ref (g.2.2.2.2.1 u.toNat)).category = 1
    by_cases hu : u.toNat = 5
    · rw [if_pos hu]; exact hf u rfl hu
    · rw [if_neg hu]; rfl
  | _ => rfl
theorem ent_args {g : Ev} (hg : (g.2.2.2.2.2).category = 1) : ∀ (vs : List Value) (n i : Nat) (v : Value), (entL vs)[i]? = some v → v ≠ junk → (n + i, cv g v) ∈ lv_args n (vs.map (cv g)) := by
  intro vs
  induction vs with
  | nil => intro n i v h; cases h
  | cons w vs ih =>
    intro n i v h hv
    have hcat : w ≠ junk → (cv g w).category = w.category := fun hw => cv_cat hw (fun _ _ _ => hg)
    show _ ∈ (n, cv g w) :: lv_args (if (cv g w).category = 2 then n + 2 else n + 1) (vs.map (cv g))
    unfold entL at h
    by_cases hw : w = junk
    · subst hw
      rw [if_pos (show junk.category = 2 from rfl)] at h
      rw [if_pos (show (cv g junk).category = 2 from rfl)]
      match i, h with
      | 0, h => cases h; exact absurd rfl hv
      | 1, h => cases h; exact absurd rfl hv
      | i + 2, h =>
        have := ih (n + 2) i v h hv
        rw [show n + 2 + i = n + (i + 2) by omega] at this
        exact List.mem_cons_of_mem _ this
    · rw [hcat hw]
      by_cases hc : w.category = 2
      · rw [if_pos hc] at h ⊢
        match i, h with
        | 0, h => cases h; exact List.mem_cons_self
        | 1, h => cases h; exact absurd rfl hv
        | i + 2, h =>
          have := ih (n + 2) i v h hv
          rw [show n + 2 + i = n + (i + 2) by omega] at this
          exact List.mem_cons_of_mem _ this
      · rw [if_neg hc] at h ⊢
        match i, h with
        | 0, h => cases h; exact List.mem_cons_self
        | i + 1, h =>
          have := ih (n + 1) i v h hv
          rw [show n + 1 + i = n + (i + 1) by omega] at this
          exact List.mem_cons_of_mem _ this
/-- fewer listed locals -/
def WK : List Value → List Value → Prop
  | [], _ => True
  | a :: l, [] => a = junk ∧ WK l []
  | a :: l, b :: k => (a = b ∨ a = junk) ∧ WK l k
theorem WK.get : ∀ {l k : List Value}, WK l k → ∀ (i : Nat) (v : Value), l[i]? = some v → v ≠ junk → k[i]? = some v := by
  intro l
  induction l with
  | nil => intro k _ i v h; cases h
  | cons a l ih =>
    intro k hW i v h hv
    cases k with
    | nil =>
      cases i with
      | zero => cases h; exact absurd hW.1 hv
      | succ i => have := ih hW.2 i v h hv; cases this
    | cons b k =>
      cases i with
      | zero =>
        cases h
        rcases hW.1 with e | e
        · rw [e]; rfl
        · exact absurd e hv
      | succ i => exact ih hW.2 i v h hv
theorem WK.s {a : Value} {l k : List Value} (h : WK l k) : WK (a :: l) (a :: k) := ⟨Or.inl rfl, h⟩
theorem WK.j {a : Value} {l k : List Value} (h : WK l k) : WK (junk :: l) (a :: k) := ⟨Or.inr rfl, h⟩
theorem WK.n {k : List Value} : WK [] k := trivial
section XR
variable {F : Fin9} {own : String} {b : ByteArray} {ret : Option FieldType} {mL : Nat} {nm : String} {d rc rs : Nat} {h : Hp} {pc : Nat} {ls st : List Value}
theorem X_weak {ls' : List Value} (hw : WK ls' ls) (hl : ls'.length ≤ mL) (k : X F own b ret mL nm d rc rs h pc ls' st) : X F own b ret mL nm d rc rs h pc ls st :=
  fun g p l e R s m args below meth c H locs LS cells slots C hR hS hL h1 h2 => k g p l e R s m args below meth c H locs LS cells slots C hR hS ⟨hL.1, hL.2.1, hl, fun i v hi hv => hL.2.2.2 i v (hw.get i v hi hv) hv⟩ h1 h2
theorem X_nmI {x : Int32} (k : ∀ y : Int32, y = x → X F own b ret mL nm d rc rs h pc ls (.int y :: st)) : X F own b ret mL nm d rc rs h pc ls (.int x :: st) := k x rfl
theorem X_nmL {x : Int64} (k : ∀ y : Int64, y = x → X F own b ret mL nm d rc rs h pc ls (.long y :: st)) : X F own b ret mL nm d rc rs h pc ls (.long x :: st) := k x rfl
theorem X_nmM {L : Lay} {M : Mem} (k : ∀ N : Mem, N = M → X F own b ret mL nm d rc rs (L, N) pc ls st) : X F own b ret mL nm d rc rs (L, M) pc ls st := k M rfl
/-- the locals as the kit lists them -/
def lst (g : Ev) (ls : List Value) : List (Nat × Value) := (List.range ls.length).filterMap (fun i => match ls[i]? with | some v => if v = junk then none else some (i, cv g v) | none => none)
theorem lst_has {g : Ev} {ls : List Value} {LS : Array Slot} (hL : LRl g mL ls LS) : lv_has LS mL (lst g ls) := by
  refine ⟨hL.1, hL.2.1, fun q hq => ?_⟩
  obtain ⟨i, -, hi⟩ := List.mem_filterMap.mp hq
  cases hv : ls[i]? with
  | none => rw [hv] at hi; cases hi
  | some v =>
    rw [hv] at hi
    by_cases hj : v = junk
    · simp only [if_pos hj] at hi; cases hi
    · simp only [if_neg hj] at hi; cases hi; exact hL.2.2.2 i v hv hj
theorem lst_mem {g : Ev} {ls : List Value} {i : Nat} {v : Value} (hi : ls[i]? = some v) (hv : v ≠ junk) : (i, cv g v) ∈ lst g ls := by
  refine List.mem_filterMap.mpr ⟨i, List.mem_range.mpr (List.getElem?_eq_some_iff.mp hi).1, ?_⟩
  rw [hi]; exact if_neg hv
theorem lst_st1 {g : Ev} {ls ls' : List Value} {LS LS' : Array Slot} {i : Nat} {v : Value} (hL : LRl g mL ls LS) (hi : i < mL) (hls : i < ls.length) (e : ls.set i v = ls') (hg : (g.2.2.2.2.2).category = 1)
    (hp : i = 0 ∨ ls[i - 1]? = some junk ∨ ∃ w, ls[i - 1]? = some w ∧ w.category = 1) (h : lv_has LS' mL ((i, cv g v) :: (lst g ls).filter (fun q => !(q.1 == i) && !(q.1 + 1 == i && q.2.category == 2)))) : LRl g mL ls' LS' := by
  subst e
  refine ⟨h.1, h.2.1, by rw [List.length_set]; exact hL.2.2.1, fun j w hj hw => ?_⟩
  by_cases hij : i = j
  · subst hij
    rw [List.getElem?_set_self (by omega)] at hj
    cases hj
    exact h.2.2 _ List.mem_cons_self
  · rw [List.getElem?_set_ne hij] at hj
    refine h.2.2 _ (List.mem_cons_of_mem _ (List.mem_filter.mpr ⟨lst_mem (g := g) hj hw, ?_⟩))
    have h1 : (j == i) = false := by simp; omega
    rw [Bool.and_eq_true]
    refine ⟨by show (!(j == i)) = true; rw [h1]; rfl, ?_⟩
    show (!((j + 1 == i) && ((cv g w).category == 2))) = true
    by_cases h2 : j + 1 = i
    · have hcat : (cv g w).category = w.category := cv_cat hw (fun _ _ _ => hg)
      have hw1 : w.category = 1 := by
        rcases hp with hp | hp | ⟨w', hp, hc⟩
        · omega
        · rw [show i - 1 = j by omega, hj] at hp; cases hp; exact absurd rfl hw
        · rw [show i - 1 = j by omega, hj] at hp; cases hp; exact hc
      rw [hcat, hw1]; simp
    · have : (j + 1 == i) = false := by simp; omega
      rw [this]; rfl
theorem KX.sio {g : Ev} {U : State} (h : KX g U) : (g.2.2.2.2.2).category = 1 := by
  obtain ⟨h1, h2, h3, h4, h5, h6, h7, h8, h9, ha, hb, hc, hd, he, hf, hg⟩ := h
  rcases hf with hf | ⟨a, hf⟩ <;> rw [hf] <;> rfl
theorem X_iconst (q : Nat) {n : Int} {v : Int32} (hd : decode b pc = .ok (.iconst n, 1)) (hp : pc + 1 = q) (hv : Int32.ofInt n = v) (k : X F own b ret mL nm d rc rs h q ls (.int v :: st)) : X F own b ret mL nm d rc rs h pc ls (st) := by
  subst hp
  exact fun g p l e R s m args below meth c H locs LS cells slots C hR hS hL h1 h2 => lv_iconst C.1 C.2.1 hd hv (k g p l e R s m args below meth c H locs LS cells slots C hR hS hL h1 h2)
theorem X_bipush (q : Nat) {n : Int} {v : Int32} (hd : decode b pc = .ok (.bipush n, 2)) (hp : pc + 2 = q) (hv : (Int8.ofInt n).toInt32 = v) (k : X F own b ret mL nm d rc rs h q ls (.int v :: st)) : X F own b ret mL nm d rc rs h pc ls (st) := by
  subst hp
  exact fun g p l e R s m args below meth c H locs LS cells slots C hR hS hL h1 h2 => lv_bipush C.1 C.2.1 hd hv (k g p l e R s m args below meth c H locs LS cells slots C hR hS hL h1 h2)
theorem X_sipush (q : Nat) {n : Int} {v : Int32} (hd : decode b pc = .ok (.sipush n, 3)) (hp : pc + 3 = q) (hv : (Int16.ofInt n).toInt32 = v) (k : X F own b ret mL nm d rc rs h q ls (.int v :: st)) : X F own b ret mL nm d rc rs h pc ls (st) := by
  subst hp
  exact fun g p l e R s m args below meth c H locs LS cells slots C hR hS hL h1 h2 => lv_sipush C.1 C.2.1 hd hv (k g p l e R s m args below meth c H locs LS cells slots C hR hS hL h1 h2)
theorem X_lconst (q : Nat) {n : Fin 2} {v : Int64} (hd : decode b pc = .ok (.lconst n, 1)) (hp : pc + 1 = q) (hv : Int64.ofNat (n : Nat) = v) (k : X F own b ret mL nm d rc rs h q ls (.long v :: st)) : X F own b ret mL nm d rc rs h pc ls (st) := by
  subst hp
  exact fun g p l e R s m args below meth c H locs LS cells slots C hR hS hL h1 h2 => lv_lconst C.1 C.2.1 hd hv (k g p l e R s m args below meth c H locs LS cells slots C hR hS hL h1 h2)
theorem X_null (q : Nat)  (hd : decode b pc = .ok (.aconst_null, 1)) (hp : pc + 1 = q)  (k : X F own b ret mL nm d rc rs h q ls (.null :: st)) : X F own b ret mL nm d rc rs h pc ls (st) := by
  subst hp
  exact fun g p l e R s m args below meth c H locs LS cells slots C hR hS hL h1 h2 => lv_null C.1 C.2.1 hd (k g p l e R s m args below meth c H locs LS cells slots C hR hS hL h1 h2)
theorem X_iload_n (q : Nat) {n : Fin 4} {x : Int32} (hd : decode b pc = .ok (.iload_n n, 1)) (hp : pc + 1 = q) (hv : ls[(n : Nat)]? = some (.int x)) (k : X F own b ret mL nm d rc rs h q ls (.int x :: st)) : X F own b ret mL nm d rc rs h pc ls (st) := by
  subst hp
  exact fun g p l e R s m args below meth c H locs LS cells slots C hR hS hL h1 h2 => lv_iload_n C.1 C.2.1 hd rfl (hL.2.2.2 _ _ hv (by intro z; cases z)) (k g p l e R s m args below meth c H locs LS cells slots C hR hS hL h1 h2)
theorem X_iload (q : Nat) {n : Nat} {x : Int32} (hd : decode b pc = .ok (.iload n, 2)) (hp : pc + 2 = q) (hv : ls[n]? = some (.int x)) (k : X F own b ret mL nm d rc rs h q ls (.int x :: st)) : X F own b ret mL nm d rc rs h pc ls (st) := by
  subst hp
  exact fun g p l e R s m args below meth c H locs LS cells slots C hR hS hL h1 h2 => lv_iload C.1 C.2.1 hd (hL.2.2.2 _ _ hv (by intro z; cases z)) (k g p l e R s m args below meth c H locs LS cells slots C hR hS hL h1 h2)
theorem X_lload_n (q : Nat) {n : Fin 4} {x : Int64} (hd : decode b pc = .ok (.lload_n n, 1)) (hp : pc + 1 = q) (hv : ls[(n : Nat)]? = some (.long x)) (k : X F own b ret mL nm d rc rs h q ls (.long x :: st)) : X F own b ret mL nm d rc rs h pc ls (st) := by
  subst hp
  exact fun g p l e R s m args below meth c H locs LS cells slots C hR hS hL h1 h2 => lv_lload_n C.1 C.2.1 hd rfl (hL.2.2.2 _ _ hv (by intro z; cases z)) (k g p l e R s m args below meth c H locs LS cells slots C hR hS hL h1 h2)
theorem X_lload (q : Nat) {n : Nat} {x : Int64} (hd : decode b pc = .ok (.lload n, 2)) (hp : pc + 2 = q) (hv : ls[n]? = some (.long x)) (k : X F own b ret mL nm d rc rs h q ls (.long x :: st)) : X F own b ret mL nm d rc rs h pc ls (st) := by
  subst hp
  exact fun g p l e R s m args below meth c H locs LS cells slots C hR hS hL h1 h2 => lv_lload C.1 C.2.1 hd (hL.2.2.2 _ _ hv (by intro z; cases z)) (k g p l e R s m args below meth c H locs LS cells slots C hR hS hL h1 h2)
theorem X_aload_n (q : Nat) {n : Fin 4} {x : Nat} (hd : decode b pc = .ok (.aload_n n, 1)) (hp : pc + 1 = q) (hv : ls[(n : Nat)]? = some (.ref x)) (k : X F own b ret mL nm d rc rs h q ls (.ref x :: st)) : X F own b ret mL nm d rc rs h pc ls (st) := by
  subst hp
  exact fun g p l e R s m args below meth c H locs LS cells slots C hR hS hL h1 h2 => lv_aload_n C.1 C.2.1 hd rfl (hL.2.2.2 _ _ hv (by intro z; cases z)) (k g p l e R s m args below meth c H locs LS cells slots C hR hS hL h1 h2)
theorem X_aload (q : Nat) {n : Nat} {x : Nat} (hd : decode b pc = .ok (.aload n, 2)) (hp : pc + 2 = q) (hv : ls[n]? = some (.ref x)) (k : X F own b ret mL nm d rc rs h q ls (.ref x :: st)) : X F own b ret mL nm d rc rs h pc ls (st) := by
  subst hp
  exact fun g p l e R s m args below meth c H locs LS cells slots C hR hS hL h1 h2 => lv_aload C.1 C.2.1 hd (hL.2.2.2 _ _ hv (by intro z; cases z)) (k g p l e R s m args below meth c H locs LS cells slots C hR hS hL h1 h2)
theorem X_aloadS_n (q : Nat) {n : Fin 4} {x : UInt32} (hd : decode b pc = .ok (.aload_n n, 1)) (hp : pc + 1 = q) (hx : ¬ x.toNat = 5) (hv : ls[(n : Nat)]? = some (.float x)) (k : X F own b ret mL nm d rc rs h q ls (.float x :: st)) : X F own b ret mL nm d rc rs h pc ls (st) := by
  subst hp
  intro g p l e R s m args below meth c H locs LS cells slots C hR hS hL h1 h2
  have kk := k g p l e R s m args below meth c H locs LS cells slots C hR hS hL h1 h2
  rw [show ((Value.float x :: st).map (cv g)) = .ref (g.2.2.2.2.1 x.toNat) :: st.map (cv g) by show cv g (.float x) :: _ = _; rw [show cv g (.float x) = .ref (g.2.2.2.2.1 x.toNat) from if_neg hx]] at kk
  exact lv_aload_n C.1 C.2.1 hd rfl (by have hq := hL.2.2.2 _ _ hv (by intro z; cases z); rw [show cv g (.float x) = .ref (g.2.2.2.2.1 x.toNat) from if_neg hx] at hq; exact hq) kk
theorem X_aloadQ_n (q : Nat) {n : Fin 4} {o : Option Nat} (hd : decode b pc = .ok (.aload_n n, 1)) (hp : pc + 1 = q) (hv : ls[(n : Nat)]? = some (va_rf o)) (k : X F own b ret mL nm d rc rs h q ls (va_rf o :: st)) : X F own b ret mL nm d rc rs h pc ls st := by
  subst hp
  cases o with
  | none => exact fun g p l e R s m args below meth c H locs LS cells slots C hR hS hL h1 h2 => lv_aload_nN C.1 C.2.1 hd rfl (hL.2.2.2 _ _ hv (by intro z; cases z)) (k g p l e R s m args below meth c H locs LS cells slots C hR hS hL h1 h2)
  | some x => exact fun g p l e R s m args below meth c H locs LS cells slots C hR hS hL h1 h2 => lv_aload_n C.1 C.2.1 hd rfl (hL.2.2.2 _ _ hv (by intro z; cases z)) (k g p l e R s m args below meth c H locs LS cells slots C hR hS hL h1 h2)
theorem X_aloadQ (q : Nat) {n : Nat} {o : Option Nat} (hd : decode b pc = .ok (.aload n, 2)) (hp : pc + 2 = q) (hv : ls[n]? = some (va_rf o)) (k : X F own b ret mL nm d rc rs h q ls (va_rf o :: st)) : X F own b ret mL nm d rc rs h pc ls st := by
  subst hp
  cases o with
  | none => exact fun g p l e R s m args below meth c H locs LS cells slots C hR hS hL h1 h2 => lv_aloadN C.1 C.2.1 hd (hL.2.2.2 _ _ hv (by intro z; cases z)) (k g p l e R s m args below meth c H locs LS cells slots C hR hS hL h1 h2)
  | some x => exact fun g p l e R s m args below meth c H locs LS cells slots C hR hS hL h1 h2 => lv_aload C.1 C.2.1 hd (hL.2.2.2 _ _ hv (by intro z; cases z)) (k g p l e R s m args below meth c H locs LS cells slots C hR hS hL h1 h2)
theorem X_istore_n (q : Nat) {n : Fin 4} {i : Nat} {x : Int32} {ls' : List Value} (hd : decode b pc = .ok (.istore_n n, 1)) (hi : (n : Nat) = i) (hp : pc + 1 = q) (hn : i < ls.length) (e : ls.set i (.int x) = ls') (hz : i = 0 ∨ ls[i - 1]? = some junk ∨ ∃ w, ls[i - 1]? = some w ∧ w.category = 1) (k : X F own b ret mL nm d rc rs h q ls' st) : X F own b ret mL nm d rc rs h pc ls (.int x :: st) := by
  subst hp
  intro g p l e9 R s m args below meth c H locs LS cells slots C hR hS hL h1 h2
  have hi' : i < mL := Nat.lt_of_lt_of_le hn hL.2.2.1
  exact lv_istore_n C.1 C.2.1 hd hi (lst_has hL) hi' rfl (fun LS' hL' => k g p l e9 R s m args below meth c H locs LS' cells slots C hR hS (lst_st1 hL hi' hn e (KX.sio C.2.2.2.2.2.2.2.2.1) hz hL') h1 h2)
theorem X_istore (q : Nat) {i : Nat} {x : Int32} {ls' : List Value} (hd : decode b pc = .ok (.istore i, 2)) (hp : pc + 2 = q) (hn : i < ls.length) (e : ls.set i (.int x) = ls') (hz : i = 0 ∨ ls[i - 1]? = some junk ∨ ∃ w, ls[i - 1]? = some w ∧ w.category = 1) (k : X F own b ret mL nm d rc rs h q ls' st) : X F own b ret mL nm d rc rs h pc ls (.int x :: st) := by
  subst hp
  intro g p l e9 R s m args below meth c H locs LS cells slots C hR hS hL h1 h2
  have hi' : i < mL := Nat.lt_of_lt_of_le hn hL.2.2.1
  exact lv_istore C.1 C.2.1 hd (lst_has hL) hi' rfl (fun LS' hL' => k g p l e9 R s m args below meth c H locs LS' cells slots C hR hS (lst_st1 hL hi' hn e (KX.sio C.2.2.2.2.2.2.2.2.1) hz hL') h1 h2)
theorem X_astore_n (q : Nat) {n : Fin 4} {i : Nat} {x : Nat} {ls' : List Value} (hd : decode b pc = .ok (.astore_n n, 1)) (hi : (n : Nat) = i) (hp : pc + 1 = q) (hn : i < ls.length) (e : ls.set i (.ref x) = ls') (hz : i = 0 ∨ ls[i - 1]? = some junk ∨ ∃ w, ls[i - 1]? = some w ∧ w.category = 1) (k : X F own b ret mL nm d rc rs h q ls' st) : X F own b ret mL nm d rc rs h pc ls (.ref x :: st) := by
  subst hp
  intro g p l e9 R s m args below meth c H locs LS cells slots C hR hS hL h1 h2
  have hi' : i < mL := Nat.lt_of_lt_of_le hn hL.2.2.1
  exact lv_astore_n C.1 C.2.1 hd hi (lst_has hL) hi' rfl (fun LS' hL' => k g p l e9 R s m args below meth c H locs LS' cells slots C hR hS (lst_st1 hL hi' hn e (KX.sio C.2.2.2.2.2.2.2.2.1) hz hL') h1 h2)
theorem X_astore (q : Nat) {i : Nat} {x : Nat} {ls' : List Value} (hd : decode b pc = .ok (.astore i, 2)) (hp : pc + 2 = q) (hn : i < ls.length) (e : ls.set i (.ref x) = ls') (hz : i = 0 ∨ ls[i - 1]? = some junk ∨ ∃ w, ls[i - 1]? = some w ∧ w.category = 1) (k : X F own b ret mL nm d rc rs h q ls' st) : X F own b ret mL nm d rc rs h pc ls (.ref x :: st) := by
  subst hp
  intro g p l e9 R s m args below meth c H locs LS cells slots C hR hS hL h1 h2
  have hi' : i < mL := Nat.lt_of_lt_of_le hn hL.2.2.1
  exact lv_astore C.1 C.2.1 hd (lst_has hL) hi' rfl (fun LS' hL' => k g p l e9 R s m args below meth c H locs LS' cells slots C hR hS (lst_st1 hL hi' hn e (KX.sio C.2.2.2.2.2.2.2.2.1) hz hL') h1 h2)
theorem X_astoreN_n (q : Nat) {n : Fin 4} {i : Nat} {ls' : List Value} (hd : decode b pc = .ok (.astore_n n, 1)) (hi : (n : Nat) = i) (hp : pc + 1 = q) (hn : i < ls.length) (e : ls.set i (.null) = ls') (hz : i = 0 ∨ ls[i - 1]? = some junk ∨ ∃ w, ls[i - 1]? = some w ∧ w.category = 1) (k : X F own b ret mL nm d rc rs h q ls' st) : X F own b ret mL nm d rc rs h pc ls (.null :: st) := by
  subst hp
  intro g p l e9 R s m args below meth c H locs LS cells slots C hR hS hL h1 h2
  have hi' : i < mL := Nat.lt_of_lt_of_le hn hL.2.2.1
  exact lv_astore_nN C.1 C.2.1 hd hi (lst_has hL) hi' rfl (fun LS' hL' => k g p l e9 R s m args below meth c H locs LS' cells slots C hR hS (lst_st1 hL hi' hn e (KX.sio C.2.2.2.2.2.2.2.2.1) hz hL') h1 h2)
theorem X_astoreN (q : Nat) {i : Nat} {ls' : List Value} (hd : decode b pc = .ok (.astore i, 2)) (hp : pc + 2 = q) (hn : i < ls.length) (e : ls.set i (.null) = ls') (hz : i = 0 ∨ ls[i - 1]? = some junk ∨ ∃ w, ls[i - 1]? = some w ∧ w.category = 1) (k : X F own b ret mL nm d rc rs h q ls' st) : X F own b ret mL nm d rc rs h pc ls (.null :: st) := by
  subst hp
  intro g p l e9 R s m args below meth c H locs LS cells slots C hR hS hL h1 h2
  have hi' : i < mL := Nat.lt_of_lt_of_le hn hL.2.2.1
  exact lv_astoreN C.1 C.2.1 hd (lst_has hL) hi' rfl (fun LS' hL' => k g p l e9 R s m args below meth c H locs LS' cells slots C hR hS (lst_st1 hL hi' hn e (KX.sio C.2.2.2.2.2.2.2.2.1) hz hL') h1 h2)
theorem X_astoreQ_n (q : Nat) {n : Fin 4} {i : Nat} {o : Option Nat} {ls' : List Value} (hd : decode b pc = .ok (.astore_n n, 1)) (hi : (n : Nat) = i) (hp : pc + 1 = q) (hn : i < ls.length) (e : ls.set i (va_rf o) = ls') (hz : i = 0 ∨ ls[i - 1]? = some junk ∨ ∃ w, ls[i - 1]? = some w ∧ w.category = 1) (k : X F own b ret mL nm d rc rs h q ls' st) : X F own b ret mL nm d rc rs h pc ls (va_rf o :: st) := by
  cases o with
  | none => exact X_astoreN_n q hd hi hp hn e hz k
  | some x => exact X_astore_n q hd hi hp hn e hz k
theorem X_astoreQ (q : Nat) {i : Nat} {o : Option Nat} {ls' : List Value} (hd : decode b pc = .ok (.astore i, 2)) (hp : pc + 2 = q) (hn : i < ls.length) (e : ls.set i (va_rf o) = ls') (hz : i = 0 ∨ ls[i - 1]? = some junk ∨ ∃ w, ls[i - 1]? = some w ∧ w.category = 1) (k : X F own b ret mL nm d rc rs h q ls' st) : X F own b ret mL nm d rc rs h pc ls (va_rf o :: st) := by
  cases o with
  | none => exact X_astoreN q hd hp hn e hz k
  | some x => exact X_astore q hd hp hn e hz k
theorem lst_st2 {g : Ev} {ls ls' : List Value} {LS LS' : Array Slot} {i : Nat} {v : Value} (hL : LRl g mL ls LS) (hn : i + 1 < ls.length) (e : (ls.set i v).set (i + 1) junk = ls') (hg : (g.2.2.2.2.2).category = 1)
    (hp : i = 0 ∨ ls[i - 1]? = some junk ∨ ∃ w, ls[i - 1]? = some w ∧ w.category = 1) (h : lv_has LS' mL ((i, cv g v) :: (lst g ls).filter (fun q => !(q.1 == i) && (!(q.1 == i + 1) && !(q.1 + 1 == i && q.2.category == 2))))) : LRl g mL ls' LS' := by
  subst e
  refine ⟨h.1, h.2.1, by rw [List.length_set, List.length_set]; exact hL.2.2.1, fun j w hj hw => ?_⟩
  by_cases hij1 : i + 1 = j
  · subst hij1
    rw [List.getElem?_set_self (by rw [List.length_set]; omega)] at hj
    cases hj
    exact absurd rfl hw
  rw [List.getElem?_set_ne hij1] at hj
  by_cases hij : i = j
  · subst hij
    rw [List.getElem?_set_self (by omega)] at hj
    cases hj
    exact h.2.2 _ List.mem_cons_self
  · rw [List.getElem?_set_ne hij] at hj
    refine h.2.2 _ (List.mem_cons_of_mem _ (List.mem_filter.mpr ⟨lst_mem (g := g) hj hw, ?_⟩))
    have h1 : (j == i) = false := by simp; omega
    have h1' : (j == i + 1) = false := by simp; omega
    show (!(j == i) && (!(j == i + 1) && !((j + 1 == i) && ((cv g w).category == 2)))) = true
    rw [h1, h1']
    show (!((j + 1 == i) && ((cv g w).category == 2))) = true
    by_cases h2 : j + 1 = i
    · have hcat : (cv g w).category = w.category := cv_cat hw (fun _ _ _ => hg)
      have hw1 : w.category = 1 := by
        rcases hp with hp | hp | ⟨w', hp, hc⟩
        · omega
        · rw [show i - 1 = j by omega, hj] at hp; cases hp; exact absurd rfl hw
        · rw [show i - 1 = j by omega, hj] at hp; cases hp; exact hc
      rw [hcat, hw1]; simp
    · have : (j + 1 == i) = false := by simp; omega
      rw [this]; rfl
theorem X_lstore_n (q : Nat) {n : Fin 4} {i : Nat} {x : Int64} {ls' : List Value} (hd : decode b pc = .ok (.lstore_n n, 1)) (hi : (n : Nat) = i) (hp : pc + 1 = q) (hn : i + 1 < ls.length) (e : (ls.set i (.long x)).set (i + 1) junk = ls') (hz : i = 0 ∨ ls[i - 1]? = some junk ∨ ∃ w, ls[i - 1]? = some w ∧ w.category = 1) (k : X F own b ret mL nm d rc rs h q ls' st) : X F own b ret mL nm d rc rs h pc ls (.long x :: st) := by
  subst hp
  intro g p l e9 R s m args below meth c H locs LS cells slots C hR hS hL h1 h2
  have hi' : i + 1 < mL := Nat.lt_of_lt_of_le hn hL.2.2.1
  exact lv_lstore_n C.1 C.2.1 hd hi (lst_has hL) hi' rfl (fun LS' hL' => k g p l e9 R s m args below meth c H locs LS' cells slots C hR hS (lst_st2 hL hn e (KX.sio C.2.2.2.2.2.2.2.2.1) hz hL') h1 h2)
theorem X_lstore (q : Nat) {i : Nat} {x : Int64} {ls' : List Value} (hd : decode b pc = .ok (.lstore i, 2)) (hp : pc + 2 = q) (hn : i + 1 < ls.length) (e : (ls.set i (.long x)).set (i + 1) junk = ls') (hz : i = 0 ∨ ls[i - 1]? = some junk ∨ ∃ w, ls[i - 1]? = some w ∧ w.category = 1) (k : X F own b ret mL nm d rc rs h q ls' st) : X F own b ret mL nm d rc rs h pc ls (.long x :: st) := by
  subst hp
  intro g p l e9 R s m args below meth c H locs LS cells slots C hR hS hL h1 h2
  have hi' : i + 1 < mL := Nat.lt_of_lt_of_le hn hL.2.2.1
  exact lv_lstore C.1 C.2.1 hd (lst_has hL) hi' rfl (fun LS' hL' => k g p l e9 R s m args below meth c H locs LS' cells slots C hR hS (lst_st2 hL hn e (KX.sio C.2.2.2.2.2.2.2.2.1) hz hL') h1 h2)
theorem X_iinc (q : Nat) {i : Nat} {n : Int} {x v : Int32} {ls' : List Value} (hd : decode b pc = .ok (.iinc i n, 3)) (hp : pc + 3 = q) (hx : ls[i]? = some (.int x)) (hv : x + Int32.ofInt n = v) (e : ls.set i (.int v) = ls') (hz : i = 0 ∨ ls[i - 1]? = some junk ∨ ∃ w, ls[i - 1]? = some w ∧ w.category = 1) (k : X F own b ret mL nm d rc rs h q ls' st) : X F own b ret mL nm d rc rs h pc ls st := by
  subst hp
  intro g p l e9 R s m args below meth c H locs LS cells slots C hR hS hL h1 h2
  have hn : i < ls.length := (List.getElem?_eq_some_iff.mp hx).1
  have hi' : i < mL := Nat.lt_of_lt_of_le hn hL.2.2.1
  obtain ⟨kk, hk⟩ := List.getElem?_of_mem (lst_mem (g := g) hx (by intro z; cases z))
  exact lv_iinc C.1 C.2.1 hd (lst_has hL) hk hv hi' rfl (fun LS' hL' => k g p l e9 R s m args below meth c H locs LS' cells slots C hR hS (lst_st1 (v := .int v) hL hi' hn e (KX.sio C.2.2.2.2.2.2.2.2.1) hz hL') h1 h2)
theorem X_iadd (q : Nat) {x y : Int32} (hd : decode b pc = .ok (.iadd, 1)) (hp : pc + 1 = q)  (k : X F own b ret mL nm d rc rs h q ls (.int (x + y) :: st)) : X F own b ret mL nm d rc rs h pc ls (.int y :: .int x :: st) := by
  subst hp
  exact fun g p l e R s m args below meth c H locs LS cells slots C hR hS hL h1 h2 => lv_iadd C.1 C.2.1 hd (k g p l e R s m args below meth c H locs LS cells slots C hR hS hL h1 h2)
theorem X_isub (q : Nat) {x y : Int32} (hd : decode b pc = .ok (.isub, 1)) (hp : pc + 1 = q)  (k : X F own b ret mL nm d rc rs h q ls (.int (x - y) :: st)) : X F own b ret mL nm d rc rs h pc ls (.int y :: .int x :: st) := by
  subst hp
  exact fun g p l e R s m args below meth c H locs LS cells slots C hR hS hL h1 h2 => lv_isub C.1 C.2.1 hd (k g p l e R s m args below meth c H locs LS cells slots C hR hS hL h1 h2)
theorem X_imul (q : Nat) {x y : Int32} (hd : decode b pc = .ok (.imul, 1)) (hp : pc + 1 = q)  (k : X F own b ret mL nm d rc rs h q ls (.int (x * y) :: st)) : X F own b ret mL nm d rc rs h pc ls (.int y :: .int x :: st) := by
  subst hp
  exact fun g p l e R s m args below meth c H locs LS cells slots C hR hS hL h1 h2 => lv_imul C.1 C.2.1 hd (k g p l e R s m args below meth c H locs LS cells slots C hR hS hL h1 h2)
theorem X_iand (q : Nat) {x y : Int32} (hd : decode b pc = .ok (.iand, 1)) (hp : pc + 1 = q)  (k : X F own b ret mL nm d rc rs h q ls (.int (x &&& y) :: st)) : X F own b ret mL nm d rc rs h pc ls (.int y :: .int x :: st) := by
  subst hp
  exact fun g p l e R s m args below meth c H locs LS cells slots C hR hS hL h1 h2 => lv_iand C.1 C.2.1 hd (k g p l e R s m args below meth c H locs LS cells slots C hR hS hL h1 h2)
theorem X_ior (q : Nat) {x y : Int32} (hd : decode b pc = .ok (.ior, 1)) (hp : pc + 1 = q)  (k : X F own b ret mL nm d rc rs h q ls (.int (x ||| y) :: st)) : X F own b ret mL nm d rc rs h pc ls (.int y :: .int x :: st) := by
  subst hp
  exact fun g p l e R s m args below meth c H locs LS cells slots C hR hS hL h1 h2 => lv_ior C.1 C.2.1 hd (k g p l e R s m args below meth c H locs LS cells slots C hR hS hL h1 h2)
theorem X_ixor (q : Nat) {x y : Int32} (hd : decode b pc = .ok (.ixor, 1)) (hp : pc + 1 = q)  (k : X F own b ret mL nm d rc rs h q ls (.int (x ^^^ y) :: st)) : X F own b ret mL nm d rc rs h pc ls (.int y :: .int x :: st) := by
  subst hp
  exact fun g p l e R s m args below meth c H locs LS cells slots C hR hS hL h1 h2 => lv_ixor C.1 C.2.1 hd (k g p l e R s m args below meth c H locs LS cells slots C hR hS hL h1 h2)
theorem X_ishl (q : Nat) {x y : Int32} (hd : decode b pc = .ok (.ishl, 1)) (hp : pc + 1 = q)  (k : X F own b ret mL nm d rc rs h q ls (.int (x <<< (y &&& 31)) :: st)) : X F own b ret mL nm d rc rs h pc ls (.int y :: .int x :: st) := by
  subst hp
  exact fun g p l e R s m args below meth c H locs LS cells slots C hR hS hL h1 h2 => lv_ishl C.1 C.2.1 hd (k g p l e R s m args below meth c H locs LS cells slots C hR hS hL h1 h2)
theorem X_ishr (q : Nat) {x y : Int32} (hd : decode b pc = .ok (.ishr, 1)) (hp : pc + 1 = q)  (k : X F own b ret mL nm d rc rs h q ls (.int (x >>> (y &&& 31)) :: st)) : X F own b ret mL nm d rc rs h pc ls (.int y :: .int x :: st) := by
  subst hp
  exact fun g p l e R s m args below meth c H locs LS cells slots C hR hS hL h1 h2 => lv_ishr C.1 C.2.1 hd (k g p l e R s m args below meth c H locs LS cells slots C hR hS hL h1 h2)
theorem X_ladd (q : Nat) {x y : Int64} (hd : decode b pc = .ok (.ladd, 1)) (hp : pc + 1 = q)  (k : X F own b ret mL nm d rc rs h q ls (.long (x + y) :: st)) : X F own b ret mL nm d rc rs h pc ls (.long y :: .long x :: st) := by
  subst hp
  exact fun g p l e R s m args below meth c H locs LS cells slots C hR hS hL h1 h2 => lv_ladd C.1 C.2.1 hd (k g p l e R s m args below meth c H locs LS cells slots C hR hS hL h1 h2)
theorem X_lsub (q : Nat) {x y : Int64} (hd : decode b pc = .ok (.lsub, 1)) (hp : pc + 1 = q)  (k : X F own b ret mL nm d rc rs h q ls (.long (x - y) :: st)) : X F own b ret mL nm d rc rs h pc ls (.long y :: .long x :: st) := by
  subst hp
  exact fun g p l e R s m args below meth c H locs LS cells slots C hR hS hL h1 h2 => lv_lsub C.1 C.2.1 hd (k g p l e R s m args below meth c H locs LS cells slots C hR hS hL h1 h2)
theorem X_lmul (q : Nat) {x y : Int64} (hd : decode b pc = .ok (.lmul, 1)) (hp : pc + 1 = q)  (k : X F own b ret mL nm d rc rs h q ls (.long (x * y) :: st)) : X F own b ret mL nm d rc rs h pc ls (.long y :: .long x :: st) := by
  subst hp
  exact fun g p l e R s m args below meth c H locs LS cells slots C hR hS hL h1 h2 => lv_lmul C.1 C.2.1 hd (k g p l e R s m args below meth c H locs LS cells slots C hR hS hL h1 h2)
theorem X_land (q : Nat) {x y : Int64} (hd : decode b pc = .ok (.land, 1)) (hp : pc + 1 = q)  (k : X F own b ret mL nm d rc rs h q ls (.long (x &&& y) :: st)) : X F own b ret mL nm d rc rs h pc ls (.long y :: .long x :: st) := by
  subst hp
  exact fun g p l e R s m args below meth c H locs LS cells slots C hR hS hL h1 h2 => lv_land C.1 C.2.1 hd (k g p l e R s m args below meth c H locs LS cells slots C hR hS hL h1 h2)
theorem X_lor (q : Nat) {x y : Int64} (hd : decode b pc = .ok (.lor, 1)) (hp : pc + 1 = q)  (k : X F own b ret mL nm d rc rs h q ls (.long (x ||| y) :: st)) : X F own b ret mL nm d rc rs h pc ls (.long y :: .long x :: st) := by
  subst hp
  exact fun g p l e R s m args below meth c H locs LS cells slots C hR hS hL h1 h2 => lv_lor C.1 C.2.1 hd (k g p l e R s m args below meth c H locs LS cells slots C hR hS hL h1 h2)
theorem X_idiv (q : Nat) {x y : Int32} (hd : decode b pc = .ok (.idiv, 1)) (hp : pc + 1 = q) (hy : ¬ y = 0) (k : X F own b ret mL nm d rc rs h q ls (.int (x / y) :: st)) : X F own b ret mL nm d rc rs h pc ls (.int y :: .int x :: st) := by
  subst hp
  exact fun g p l e R s m args below meth c H locs LS cells slots C hR hS hL h1 h2 => lv_idiv C.1 C.2.1 hd hy (k g p l e R s m args below meth c H locs LS cells slots C hR hS hL h1 h2)
theorem X_irem (q : Nat) {x y : Int32} (hd : decode b pc = .ok (.irem, 1)) (hp : pc + 1 = q) (hy : ¬ y = 0) (k : X F own b ret mL nm d rc rs h q ls (.int (x - x / y * y) :: st)) : X F own b ret mL nm d rc rs h pc ls (.int y :: .int x :: st) := by
  subst hp
  exact fun g p l e R s m args below meth c H locs LS cells slots C hR hS hL h1 h2 => lv_irem C.1 C.2.1 hd hy (k g p l e R s m args below meth c H locs LS cells slots C hR hS hL h1 h2)
theorem X_ldiv (q : Nat) {x y : Int64} (hd : decode b pc = .ok (.ldiv, 1)) (hp : pc + 1 = q) (hy : ¬ y = 0) (k : X F own b ret mL nm d rc rs h q ls (.long (x / y) :: st)) : X F own b ret mL nm d rc rs h pc ls (.long y :: .long x :: st) := by
  subst hp
  exact fun g p l e R s m args below meth c H locs LS cells slots C hR hS hL h1 h2 => lv_ldiv C.1 C.2.1 hd hy (k g p l e R s m args below meth c H locs LS cells slots C hR hS hL h1 h2)
theorem X_lrem (q : Nat) {x y : Int64} (hd : decode b pc = .ok (.lrem, 1)) (hp : pc + 1 = q) (hy : ¬ y = 0) (k : X F own b ret mL nm d rc rs h q ls (.long (x - x / y * y) :: st)) : X F own b ret mL nm d rc rs h pc ls (.long y :: .long x :: st) := by
  subst hp
  exact fun g p l e R s m args below meth c H locs LS cells slots C hR hS hL h1 h2 => lv_lrem C.1 C.2.1 hd hy (k g p l e R s m args below meth c H locs LS cells slots C hR hS hL h1 h2)
theorem X_iushr (q : Nat) {x y v : Int32} (hd : decode b pc = .ok (.iushr, 1)) (hp : pc + 1 = q) (hv : (x.toUInt32 >>> (y.toUInt32 &&& Int32.toUInt32 31)).toInt32 = v) (k : X F own b ret mL nm d rc rs h q ls (.int v :: st)) : X F own b ret mL nm d rc rs h pc ls (.int y :: .int x :: st) := by
  subst hp
  exact fun g p l e R s m args below meth c H locs LS cells slots C hR hS hL h1 h2 => lv_iushr C.1 C.2.1 hd hv (k g p l e R s m args below meth c H locs LS cells slots C hR hS hL h1 h2)
theorem X_lushr (q : Nat) {x v : Int64} {y : Int32} (hd : decode b pc = .ok (.lushr, 1)) (hp : pc + 1 = q) (hv : (x.toUInt64 >>> (y.toInt64.toUInt64 &&& Int64.toUInt64 63)).toInt64 = v) (k : X F own b ret mL nm d rc rs h q ls (.long v :: st)) : X F own b ret mL nm d rc rs h pc ls (.int y :: .long x :: st) := by
  subst hp
  exact fun g p l e R s m args below meth c H locs LS cells slots C hR hS hL h1 h2 => lv_lushr C.1 C.2.1 hd hv (k g p l e R s m args below meth c H locs LS cells slots C hR hS hL h1 h2)
theorem X_lshl (q : Nat) {x v : Int64} {y : Int32} (hd : decode b pc = .ok (.lshl, 1)) (hp : pc + 1 = q) (hv : x <<< (y.toInt64 &&& 63) = v) (k : X F own b ret mL nm d rc rs h q ls (.long v :: st)) : X F own b ret mL nm d rc rs h pc ls (.int y :: .long x :: st) := by
  subst hp
  exact fun g p l e R s m args below meth c H locs LS cells slots C hR hS hL h1 h2 => lv_lshl C.1 C.2.1 hd hv (k g p l e R s m args below meth c H locs LS cells slots C hR hS hL h1 h2)
theorem X_i2l (q : Nat) {x : Int32} (hd : decode b pc = .ok (.i2l, 1)) (hp : pc + 1 = q)  (k : X F own b ret mL nm d rc rs h q ls (.long x.toInt64 :: st)) : X F own b ret mL nm d rc rs h pc ls (.int x :: st) := by
  subst hp
  exact fun g p l e R s m args below meth c H locs LS cells slots C hR hS hL h1 h2 => lv_i2l C.1 C.2.1 hd rfl (k g p l e R s m args below meth c H locs LS cells slots C hR hS hL h1 h2)
theorem X_l2i (q : Nat) {x : Int64} (hd : decode b pc = .ok (.l2i, 1)) (hp : pc + 1 = q)  (k : X F own b ret mL nm d rc rs h q ls (.int x.toInt32 :: st)) : X F own b ret mL nm d rc rs h pc ls (.long x :: st) := by
  subst hp
  exact fun g p l e R s m args below meth c H locs LS cells slots C hR hS hL h1 h2 => lv_l2i C.1 C.2.1 hd rfl (k g p l e R s m args below meth c H locs LS cells slots C hR hS hL h1 h2)
theorem X_i2b (q : Nat) {x : Int32} (hd : decode b pc = .ok (.i2b, 1)) (hp : pc + 1 = q)  (k : X F own b ret mL nm d rc rs h q ls (.int x.toInt8.toInt32 :: st)) : X F own b ret mL nm d rc rs h pc ls (.int x :: st) := by
  subst hp
  exact fun g p l e R s m args below meth c H locs LS cells slots C hR hS hL h1 h2 => lv_i2b C.1 C.2.1 hd rfl (k g p l e R s m args below meth c H locs LS cells slots C hR hS hL h1 h2)
theorem X_i2c (q : Nat) {x : Int32} (hd : decode b pc = .ok (.i2c, 1)) (hp : pc + 1 = q)  (k : X F own b ret mL nm d rc rs h q ls (.int (x.toUInt32 % 65536).toInt32 :: st)) : X F own b ret mL nm d rc rs h pc ls (.int x :: st) := by
  subst hp
  exact fun g p l e R s m args below meth c H locs LS cells slots C hR hS hL h1 h2 => lv_i2c C.1 C.2.1 hd rfl (k g p l e R s m args below meth c H locs LS cells slots C hR hS hL h1 h2)
theorem X_lcmp (q : Nat) {x y : Int64} (hd : decode b pc = .ok (.lcmp, 1)) (hp : pc + 1 = q)  (k : X F own b ret mL nm d rc rs h q ls (.int (lg_cmp x y) :: st)) : X F own b ret mL nm d rc rs h pc ls (.long y :: .long x :: st) := by
  subst hp
  exact fun g p l e R s m args below meth c H locs LS cells slots C hR hS hL h1 h2 => W.lcmp C.1 C.2.1 hd (k g p l e R s m args below meth c H locs LS cells slots C hR hS hL h1 h2)
theorem X_dup (q : Nat) {v : Value} (hd : decode b pc = .ok (.dup, 1)) (hp : pc + 1 = q) (hv : v.category = 1) (k : X F own b ret mL nm d rc rs h q ls (v :: v :: st)) : X F own b ret mL nm d rc rs h pc ls (v :: st) := by
  subst hp
  exact fun g p l e R s m args below meth c H locs LS cells slots C hR hS hL h1 h2 => lv_dup C.1 C.2.1 hd (by rw [cv_cat (g := g) (v := v) (by intro z; rw [z] at hv; cases hv) (fun _ _ _ => KX.sio C.2.2.2.2.2.2.2.2.1)]; exact hv) (k g p l e R s m args below meth c H locs LS cells slots C hR hS hL h1 h2)
theorem X_pop (q : Nat) {v : Value} (hd : decode b pc = .ok (.pop, 1)) (hp : pc + 1 = q) (hv : v.category = 1) (k : X F own b ret mL nm d rc rs h q ls (st)) : X F own b ret mL nm d rc rs h pc ls (v :: st) := by
  subst hp
  exact fun g p l e R s m args below meth c H locs LS cells slots C hR hS hL h1 h2 => lv_pop C.1 C.2.1 hd (by rw [cv_cat (g := g) (v := v) (by intro z; rw [z] at hv; cases hv) (fun _ _ _ => KX.sio C.2.2.2.2.2.2.2.2.1)]; exact hv) (k g p l e R s m args below meth c H locs LS cells slots C hR hS hL h1 h2)
theorem X_dup_x1 (q : Nat) {v w : Value} (hd : decode b pc = .ok (.dup_x1, 1)) (hp : pc + 1 = q) (hv : v.category = 1) (hw : w.category = 1) (k : X F own b ret mL nm d rc rs h q ls (v :: w :: v :: st)) : X F own b ret mL nm d rc rs h pc ls (v :: w :: st) := by
  subst hp
  exact fun g p l e R s m args below meth c H locs LS cells slots C hR hS hL h1 h2 => lv_dup_x1 C.1 C.2.1 hd (by rw [cv_cat (g := g) (v := v) (by intro z; rw [z] at hv; cases hv) (fun _ _ _ => KX.sio C.2.2.2.2.2.2.2.2.1)]; exact hv) (by rw [cv_cat (g := g) (v := w) (by intro z; rw [z] at hw; cases hw) (fun _ _ _ => KX.sio C.2.2.2.2.2.2.2.2.1)]; exact hw) (k g p l e R s m args below meth c H locs LS cells slots C hR hS hL h1 h2)
theorem X_dup2 (q : Nat) {v w : Value} (hd : decode b pc = .ok (.dup2, 1)) (hp : pc + 1 = q) (hv : v.category = 1) (hw : w.category = 1) (k : X F own b ret mL nm d rc rs h q ls (v :: w :: v :: w :: st)) : X F own b ret mL nm d rc rs h pc ls (v :: w :: st) := by
  subst hp
  exact fun g p l e R s m args below meth c H locs LS cells slots C hR hS hL h1 h2 => lv_dup2_11 C.1 C.2.1 hd (by rw [cv_cat (g := g) (v := v) (by intro z; rw [z] at hv; cases hv) (fun _ _ _ => KX.sio C.2.2.2.2.2.2.2.2.1)]; exact hv) (by rw [cv_cat (g := g) (v := w) (by intro z; rw [z] at hw; cases hw) (fun _ _ _ => KX.sio C.2.2.2.2.2.2.2.2.1)]; exact hw) (k g p l e R s m args below meth c H locs LS cells slots C hR hS hL h1 h2)
theorem X_if_eq (t q : Nat) {x y : Int32} {off : Int} (hd : decode b pc = .ok (.ifCond .eq off, 3)) (ht : (pc : Int) + off = (t : Int)) (hp : pc + 3 = q) (kt : x = 0 → X F own b ret mL nm d rc rs h t ls st) (kf : ¬ x = 0 → X F own b ret mL nm d rc rs h q ls st) : X F own b ret mL nm d rc rs h pc ls (.int x :: st) := by
  subst hp
  exact fun g p l e R s m args below meth c H locs LS cells slots C hR hS hL h1 h2 => lv_if_eq C.1 C.2.1 hd ht (fun z => kt z g p l e R s m args below meth c H locs LS cells slots C hR hS hL h1 h2) (fun z => kf z g p l e R s m args below meth c H locs LS cells slots C hR hS hL h1 h2)
theorem X_if_ne (t q : Nat) {x y : Int32} {off : Int} (hd : decode b pc = .ok (.ifCond .ne off, 3)) (ht : (pc : Int) + off = (t : Int)) (hp : pc + 3 = q) (kt : ¬ x = 0 → X F own b ret mL nm d rc rs h t ls st) (kf : x = 0 → X F own b ret mL nm d rc rs h q ls st) : X F own b ret mL nm d rc rs h pc ls (.int x :: st) := by
  subst hp
  exact fun g p l e R s m args below meth c H locs LS cells slots C hR hS hL h1 h2 => lv_if_ne C.1 C.2.1 hd ht (fun z => kt z g p l e R s m args below meth c H locs LS cells slots C hR hS hL h1 h2) (fun z => kf z g p l e R s m args below meth c H locs LS cells slots C hR hS hL h1 h2)
theorem X_if_lt (t q : Nat) {x y : Int32} {off : Int} (hd : decode b pc = .ok (.ifCond .lt off, 3)) (ht : (pc : Int) + off = (t : Int)) (hp : pc + 3 = q) (kt : x < 0 → X F own b ret mL nm d rc rs h t ls st) (kf : ¬ x < 0 → X F own b ret mL nm d rc rs h q ls st) : X F own b ret mL nm d rc rs h pc ls (.int x :: st) := by
  subst hp
  exact fun g p l e R s m args below meth c H locs LS cells slots C hR hS hL h1 h2 => lv_if_lt C.1 C.2.1 hd ht (fun z => kt z g p l e R s m args below meth c H locs LS cells slots C hR hS hL h1 h2) (fun z => kf z g p l e R s m args below meth c H locs LS cells slots C hR hS hL h1 h2)
theorem X_if_ge (t q : Nat) {x y : Int32} {off : Int} (hd : decode b pc = .ok (.ifCond .ge off, 3)) (ht : (pc : Int) + off = (t : Int)) (hp : pc + 3 = q) (kt : ¬ x < 0 → X F own b ret mL nm d rc rs h t ls st) (kf : x < 0 → X F own b ret mL nm d rc rs h q ls st) : X F own b ret mL nm d rc rs h pc ls (.int x :: st) := by
  subst hp
  exact fun g p l e R s m args below meth c H locs LS cells slots C hR hS hL h1 h2 => lv_if_ge C.1 C.2.1 hd ht (fun z => kt (Int32.not_lt.mpr z) g p l e R s m args below meth c H locs LS cells slots C hR hS hL h1 h2) (fun z => kf (Int32.not_le.mp z) g p l e R s m args below meth c H locs LS cells slots C hR hS hL h1 h2)
theorem X_if_gt (t q : Nat) {x y : Int32} {off : Int} (hd : decode b pc = .ok (.ifCond .gt off, 3)) (ht : (pc : Int) + off = (t : Int)) (hp : pc + 3 = q) (kt : 0 < x → X F own b ret mL nm d rc rs h t ls st) (kf : ¬ 0 < x → X F own b ret mL nm d rc rs h q ls st) : X F own b ret mL nm d rc rs h pc ls (.int x :: st) := by
  subst hp
  exact fun g p l e R s m args below meth c H locs LS cells slots C hR hS hL h1 h2 => lv_if_gt C.1 C.2.1 hd ht (fun z => kt z g p l e R s m args below meth c H locs LS cells slots C hR hS hL h1 h2) (fun z => kf z g p l e R s m args below meth c H locs LS cells slots C hR hS hL h1 h2)
theorem X_if_le (t q : Nat) {x y : Int32} {off : Int} (hd : decode b pc = .ok (.ifCond .le off, 3)) (ht : (pc : Int) + off = (t : Int)) (hp : pc + 3 = q) (kt : ¬ 0 < x → X F own b ret mL nm d rc rs h t ls st) (kf : 0 < x → X F own b ret mL nm d rc rs h q ls st) : X F own b ret mL nm d rc rs h pc ls (.int x :: st) := by
  subst hp
  exact fun g p l e R s m args below meth c H locs LS cells slots C hR hS hL h1 h2 => lv_if_le C.1 C.2.1 hd ht (fun z => kt (Int32.not_lt.mpr z) g p l e R s m args below meth c H locs LS cells slots C hR hS hL h1 h2) (fun z => kf (Int32.not_le.mp z) g p l e R s m args below meth c H locs LS cells slots C hR hS hL h1 h2)
theorem X_icmp_eq (t q : Nat) {x y : Int32} {off : Int} (hd : decode b pc = .ok (.if_icmp .eq off, 3)) (ht : (pc : Int) + off = (t : Int)) (hp : pc + 3 = q) (kt : x = y → X F own b ret mL nm d rc rs h t ls st) (kf : ¬ x = y → X F own b ret mL nm d rc rs h q ls st) : X F own b ret mL nm d rc rs h pc ls (.int y :: .int x :: st) := by
  subst hp
  exact fun g p l e R s m args below meth c H locs LS cells slots C hR hS hL h1 h2 => lv_icmp_eq C.1 C.2.1 hd ht (fun z => kt z g p l e R s m args below meth c H locs LS cells slots C hR hS hL h1 h2) (fun z => kf z g p l e R s m args below meth c H locs LS cells slots C hR hS hL h1 h2)
theorem X_icmp_ne (t q : Nat) {x y : Int32} {off : Int} (hd : decode b pc = .ok (.if_icmp .ne off, 3)) (ht : (pc : Int) + off = (t : Int)) (hp : pc + 3 = q) (kt : ¬ x = y → X F own b ret mL nm d rc rs h t ls st) (kf : x = y → X F own b ret mL nm d rc rs h q ls st) : X F own b ret mL nm d rc rs h pc ls (.int y :: .int x :: st) := by
  subst hp
  exact fun g p l e R s m args below meth c H locs LS cells slots C hR hS hL h1 h2 => lv_icmp_ne C.1 C.2.1 hd ht (fun z => kt z g p l e R s m args below meth c H locs LS cells slots C hR hS hL h1 h2) (fun z => kf z g p l e R s m args below meth c H locs LS cells slots C hR hS hL h1 h2)
theorem X_icmp_lt (t q : Nat) {x y : Int32} {off : Int} (hd : decode b pc = .ok (.if_icmp .lt off, 3)) (ht : (pc : Int) + off = (t : Int)) (hp : pc + 3 = q) (kt : x < y → X F own b ret mL nm d rc rs h t ls st) (kf : ¬ x < y → X F own b ret mL nm d rc rs h q ls st) : X F own b ret mL nm d rc rs h pc ls (.int y :: .int x :: st) := by
  subst hp
  exact fun g p l e R s m args below meth c H locs LS cells slots C hR hS hL h1 h2 => lv_icmp_lt C.1 C.2.1 hd ht (fun z => kt z g p l e R s m args below meth c H locs LS cells slots C hR hS hL h1 h2) (fun z => kf z g p l e R s m args below meth c H locs LS cells slots C hR hS hL h1 h2)
theorem X_icmp_ge (t q : Nat) {x y : Int32} {off : Int} (hd : decode b pc = .ok (.if_icmp .ge off, 3)) (ht : (pc : Int) + off = (t : Int)) (hp : pc + 3 = q) (kt : ¬ x < y → X F own b ret mL nm d rc rs h t ls st) (kf : x < y → X F own b ret mL nm d rc rs h q ls st) : X F own b ret mL nm d rc rs h pc ls (.int y :: .int x :: st) := by
  subst hp
  exact fun g p l e R s m args below meth c H locs LS cells slots C hR hS hL h1 h2 => lv_icmp_ge C.1 C.2.1 hd ht (fun z => kt (Int32.not_lt.mpr z) g p l e R s m args below meth c H locs LS cells slots C hR hS hL h1 h2) (fun z => kf (Int32.not_le.mp z) g p l e R s m args below meth c H locs LS cells slots C hR hS hL h1 h2)
theorem X_icmp_gt (t q : Nat) {x y : Int32} {off : Int} (hd : decode b pc = .ok (.if_icmp .gt off, 3)) (ht : (pc : Int) + off = (t : Int)) (hp : pc + 3 = q) (kt : y < x → X F own b ret mL nm d rc rs h t ls st) (kf : ¬ y < x → X F own b ret mL nm d rc rs h q ls st) : X F own b ret mL nm d rc rs h pc ls (.int y :: .int x :: st) := by
  subst hp
  exact fun g p l e R s m args below meth c H locs LS cells slots C hR hS hL h1 h2 => lv_icmp_gt C.1 C.2.1 hd ht (fun z => kt z g p l e R s m args below meth c H locs LS cells slots C hR hS hL h1 h2) (fun z => kf z g p l e R s m args below meth c H locs LS cells slots C hR hS hL h1 h2)
theorem X_icmp_le (t q : Nat) {x y : Int32} {off : Int} (hd : decode b pc = .ok (.if_icmp .le off, 3)) (ht : (pc : Int) + off = (t : Int)) (hp : pc + 3 = q) (kt : ¬ y < x → X F own b ret mL nm d rc rs h t ls st) (kf : y < x → X F own b ret mL nm d rc rs h q ls st) : X F own b ret mL nm d rc rs h pc ls (.int y :: .int x :: st) := by
  subst hp
  exact fun g p l e R s m args below meth c H locs LS cells slots C hR hS hL h1 h2 => lv_icmp_le C.1 C.2.1 hd ht (fun z => kt (Int32.not_lt.mpr z) g p l e R s m args below meth c H locs LS cells slots C hR hS hL h1 h2) (fun z => kf (Int32.not_le.mp z) g p l e R s m args below meth c H locs LS cells slots C hR hS hL h1 h2)
theorem X_goto (t : Nat) {off : Int} (hd : decode b pc = .ok (.goto off, 3)) (ht : (pc : Int) + off = (t : Int)) (k : X F own b ret mL nm d rc rs h t ls st) : X F own b ret mL nm d rc rs h pc ls st := fun g p l e R s m args below meth c H locs LS cells slots C hR hS hL h1 h2 => lv_goto C.1 C.2.1 hd ht (k g p l e R s m args below meth c H locs LS cells slots C hR hS hL h1 h2)
theorem X_ifnull (t q : Nat) {o : Option Nat} {off : Int} (hd : decode b pc = .ok (.ifnull off, 3)) (ht : (pc : Int) + off = (t : Int)) (hp : pc + 3 = q) (kt : o = none → X F own b ret mL nm d rc rs h t ls st) (kf : ∀ a, o = some a → X F own b ret mL nm d rc rs h q ls st) : X F own b ret mL nm d rc rs h pc ls (va_rf o :: st) := by
  subst hp
  cases o with
  | none => exact fun g p l e R s m args below meth c H locs LS cells slots C hR hS hL h1 h2 => lv_ifnullN C.1 C.2.1 hd ht (kt rfl g p l e R s m args below meth c H locs LS cells slots C hR hS hL h1 h2)
  | some a => exact fun g p l e R s m args below meth c H locs LS cells slots C hR hS hL h1 h2 => lv_ifnull C.1 C.2.1 hd (kf a rfl g p l e R s m args below meth c H locs LS cells slots C hR hS hL h1 h2)
theorem X_ifnonnull (t q : Nat) {o : Option Nat} {off : Int} (hd : decode b pc = .ok (.ifnonnull off, 3)) (ht : (pc : Int) + off = (t : Int)) (hp : pc + 3 = q) (kt : ∀ a, o = some a → X F own b ret mL nm d rc rs h t ls st) (kf : o = none → X F own b ret mL nm d rc rs h q ls st) : X F own b ret mL nm d rc rs h pc ls (va_rf o :: st) := by
  subst hp
  cases o with
  | none => exact fun g p l e R s m args below meth c H locs LS cells slots C hR hS hL h1 h2 => lv_ifnonnullN C.1 C.2.1 hd (kf rfl g p l e R s m args below meth c H locs LS cells slots C hR hS hL h1 h2)
  | some a => exact fun g p l e R s m args below meth c H locs LS cells slots C hR hS hL h1 h2 => lv_ifnonnull C.1 C.2.1 hd ht (kt a rfl g p l e R s m args below meth c H locs LS cells slots C hR hS hL h1 h2)
theorem X_tableIn (t : Nat) {dflt lo hi : Int} {offs : Array Int} {len : Nat} {x : Int32} {off : Int} (hd : decode b pc = .ok (.tableswitch dflt lo hi offs, len)) (z1 : ¬ x.toInt < lo) (z2 : ¬ hi < x.toInt) (ho : offs[(x.toInt - lo).toNat]? = some off) (ht : (pc : Int) + off = (t : Int)) (k : X F own b ret mL nm d rc rs h t ls st) : X F own b ret mL nm d rc rs h pc ls (.int x :: st) := fun g p l e R s m args below meth c H locs LS cells slots C hR hS hL h1 h2 => lv_tableIn C.1 C.2.1 hd z1 z2 ho ht (k g p l e R s m args below meth c H locs LS cells slots C hR hS hL h1 h2)
theorem X_tableOut (t : Nat) {dflt lo hi : Int} {offs : Array Int} {len : Nat} {x : Int32} (hd : decode b pc = .ok (.tableswitch dflt lo hi offs, len)) (z1 : x.toInt < lo ∨ hi < x.toInt) (ht : (pc : Int) + dflt = (t : Int)) (k : X F own b ret mL nm d rc rs h t ls st) : X F own b ret mL nm d rc rs h pc ls (.int x :: st) := fun g p l e R s m args below meth c H locs LS cells slots C hR hS hL h1 h2 => lv_tableOut C.1 C.2.1 hd z1 ht (k g p l e R s m args below meth c H locs LS cells slots C hR hS hL h1 h2)
theorem X_lookup (t : Nat) {dflt : Int} {ps : Array (Int × Int)} {len : Nat} {x : Int32} {off : Int} (hd : decode b pc = .ok (.lookupswitch dflt ps, len)) (hq : (ps.toList.zip (ps.toList.drop 1)).all (fun (a, next) => a.1 < next.1) = true) (ho : Op.lookupswitch.offset ps.toList dflt x.toInt = off) (ht : (pc : Int) + off = (t : Int)) (k : X F own b ret mL nm d rc rs h t ls st) : X F own b ret mL nm d rc rs h pc ls (.int x :: st) := fun g p l e R s m args below meth c H locs LS cells slots C hR hS hL h1 h2 => lv_lookup C.1 C.2.1 hd hq ho ht (k g p l e R s m args below meth c H locs LS cells slots C hR hS hL h1 h2)
theorem X_ldc (q : Nat) {idx : Nat} {v : Int32} (hd : decode b pc = .ok (.ldc idx, 2)) (hp : pc + 2 = q) (hw : Cond.constant own idx v ∈ GW) (k : X F own b ret mL nm d rc rs h q ls (.int v :: st)) : X F own b ret mL nm d rc rs h pc ls (st) := by
  subst hp
  exact fun g p l e R s m args below meth c H locs LS cells slots C hR hS hL h1 h2 => lv_ldc C.1 C.2.1 C.2.2.2.1 (C.2.2.2.2.1 _ hw) hd (k g p l e R s m args below meth c H locs LS cells slots C hR hS hL h1 h2)
theorem X_ldcw (q : Nat) {idx : Nat} {v : Int32} (hd : decode b pc = .ok (.ldc_w idx, 3)) (hp : pc + 3 = q) (hw : Cond.constant own idx v ∈ GW) (k : X F own b ret mL nm d rc rs h q ls (.int v :: st)) : X F own b ret mL nm d rc rs h pc ls (st) := by
  subst hp
  exact fun g p l e R s m args below meth c H locs LS cells slots C hR hS hL h1 h2 => lv_ldcw C.1 C.2.1 C.2.2.2.1 (C.2.2.2.2.1 _ hw) hd (k g p l e R s m args below meth c H locs LS cells slots C hR hS hL h1 h2)
theorem X_ldc2 (q : Nat) {idx : Nat} {v : Int64} (hd : decode b pc = .ok (.ldc2_w idx, 3)) (hp : pc + 3 = q) (hw : Cond.constantLong own idx v ∈ GW) (k : X F own b ret mL nm d rc rs h q ls (.long v :: st)) : X F own b ret mL nm d rc rs h pc ls (st) := by
  subst hp
  exact fun g p l e R s m args below meth c H locs LS cells slots C hR hS hL h1 h2 => lv_ldc2 C.1 C.2.1 C.2.2.2.1 (C.2.2.2.2.1 _ hw) hd (k g p l e R s m args below meth c H locs LS cells slots C hR hS hL h1 h2)

end XR
