-- LEVEL 1, part 3: fields, arrays, new cells, calls, returns, entries
theorem SO_lt {c : Nat} {C : String} {T : u_T} {N : Nat} {ty : Nat → FieldType} (hC : CB c C T N ty) {j : Nat} (hj : j < N) : SO c j < 4 := hC.2.2.2.2.2.2.2.2.2 j hj
theorem slot_0 {g : Ev} {c : Nat} {iv : Nat → Int32} {pv : Nat → Option Nat} {lv : Nat → Int64} {rr : Nat → Option Nat} {j : Nat} (h : SO c j = 0) : slotv g c iv pv lv rr j = .int (iv j) := by simp only [slotv, h]
theorem slot_1 {g : Ev} {c : Nat} {iv : Nat → Int32} {pv : Nat → Option Nat} {lv : Nat → Int64} {rr : Nat → Option Nat} {j : Nat} (h : SO c j = 1) : slotv g c iv pv lv rr j = va_rf (oad g (rr j)) := by simp only [slotv, h]
theorem slot_2 {g : Ev} {c : Nat} {iv : Nat → Int32} {pv : Nat → Option Nat} {lv : Nat → Int64} {rr : Nat → Option Nat} {j : Nat} (h : SO c j = 2) : slotv g c iv pv lv rr j = .long (lv j) := by simp only [slotv, h]
theorem slot_3 {g : Ev} {c : Nat} {iv : Nat → Int32} {pv : Nat → Option Nat} {lv : Nat → Int64} {rr : Nat → Option Nat} {j : Nat} (h : SO c j = 3) : slotv g c iv pv lv rr j = va_rf (oad g (pv j)) := by simp only [slotv, h]
theorem rng_at {N j : Nat} {f : Nat → Value} (hj : j < N) : ((List.range N).map f)[j]? = some (f j) := by rw [List.getElem?_map, List.getElem?_range hj]; rfl
theorem rng_set {N j : Nat} {f f' : Nat → Value} {v : Value} (hv : f' j = v) (ho : ∀ k, k ≠ j → f' k = f k) : ((List.range N).map f).set j v = (List.range N).map f' := by
  apply List.ext_getElem?
  intro k
  by_cases hkj : k = j
  · subst hkj
    by_cases hk : k < N
    · rw [List.getElem?_set_self (by simpa using hk), rng_at hk, hv]
    · rw [List.getElem?_eq_none (by simpa using hk), List.getElem?_eq_none (by simpa using hk)]
  · rw [List.getElem?_set_ne (Ne.symm hkj)]
    by_cases hk : k < N
    · rw [rng_at hk, rng_at hk, ho k hkj]
    · rw [List.getElem?_eq_none (by simpa using hk), List.getElem?_eq_none (by simpa using hk)]
theorem cv_rf (g : Ev) (o : Option Nat) : cv g (va_rf o) = va_rf (oad g o) := by cases o <;> rfl
theorem Rep.ge {g : Ev} {h : Hp} {H : Heap} (hR : Rep g h H) : g.1 ≤ H.size := by rw [hR.1]; omega
theorem arr_i {g : Ev} {t : Nat} {iv : Nat → Int32} {pv : Nat → Option Nat} {lv : Nat → Int64} {rr : Nat → Option Nat} (ht : t < 4) : arrc g t iv pv lv rr = .inl iv := if_pos ht
theorem arr_l {g : Ev} {iv : Nat → Int32} {pv : Nat → Option Nat} {lv : Nat → Int64} {rr : Nat → Option Nat} : arrc g 4 iv pv lv rr = .inr (.inl lv) := rfl
theorem arr_f {g : Ev} {t : Nat} {iv : Nat → Int32} {pv : Nat → Option Nat} {lv : Nat → Int64} {rr : Nat → Option Nat} (h5 : 5 ≤ t) (h7 : t < 7) : arrc g t iv pv lv rr = .inr (.inr (.inr (.inr (fun j => oad g (rr j))))) := by
  unfold arrc; rw [if_neg (by omega), if_neg (by omega), if_pos h7]
theorem arr_m {g : Ev} {iv : Nat → Int32} {pv : Nat → Option Nat} {lv : Nat → Int64} {rr : Nat → Option Nat} : arrc g 7 iv pv lv rr = .inr (.inr (.inr (.inr (fun j => oad g (pv j))))) := rfl
theorem Rep.ar {g : Ev} {h : Hp} {H : Heap} (hR : Rep g h H) {a t n : Nat} (ha : AR h.1 a t n) : H[g.1 + a]? = some (vp_cell (g.2.2.2.1 t) (n, arrc g t (h.2.1 a) (h.2.2.1 a) (h.2.2.2 a) (h.1.2.2 a))) := by
  have := Rep.at hR ha.1 (tagA ha)
  rw [cellE_ar ha] at this
  exact this
theorem upd_ext {f : Nat → Int32} {k : Nat} {x : Int32} : (fun j => Value.int (upd f k x j)) = updV (fun j => .int (f j)) k (.int x) := by
  funext j; by_cases hj : j = k
  · subst hj; simp [updV, upd]
  · simp [updV, upd, hj]
theorem updL_ext {f : Nat → Int64} {k : Nat} {x : Int64} : (fun j => Value.long (vp_updL f k x j)) = updV (fun j => .long (f j)) k (.long x) := by
  funext j; by_cases hj : j = k
  · subst hj; simp [updV, vp_updL]
  · simp [updV, vp_updL, hj]
theorem updQ_ext {g : Ev} {f : Nat → Option Nat} {k : Nat} {x : Option Nat} : (fun j => va_rf (oad g (va_up f k x j))) = updV (fun j => va_rf (oad g (f j))) k (va_rf (oad g x)) := by
  funext j; by_cases hj : j = k
  · subst hj; simp [updV, va_up]
  · simp [updV, va_up, hj]
section XM
variable {F : Fin9} {own : String} {b : ByteArray} {ret : Option FieldType} {mL : Nat} {nm : String} {d rc rs : Nat} {L : Lay} {M : Mem} {pc : Nat} {ls st : List Value}
theorem X_get (q : Nat) {a c j idx : Nat} {ty : FieldType} {fin : Bool} {v : Value} (hf : FL own idx c j ty fin) (ho : OB L a c) (hd : decode b pc = .ok (.getfield idx, 3)) (hp : pc + 3 = q)
    (hv : ∀ g : Ev, slotv g c (M.1 a) (M.2.1 a) (M.2.2 a) (L.2.2 a) j = cv g v) (k : X F own b ret mL nm d rc rs (L, M) q ls (v :: st)) : X F own b ret mL nm d rc rs (L, M) pc ls (.ref a :: st) := by
  subst hp
  intro g p l e R s m args below meth cc H locs LS cells slots C hR hS hL h1 h2
  obtain ⟨Cn, T, N, tyf, hC, hj, -, -, -, hw⟩ := hf
  have hP := Rep.one hR (a := a) ho.1 (tagO ho)
  rw [cellE_ob (h := (L, M)) ho hC.2.2.2.2.2.1] at hP
  have hNF := hC.2.2.2.2.1
  refine va_get (D := eD g) (C := Cn) (T := T) (N := N) (Ts := GW) C.1 C.2.1 C.2.2.2.2.1 hC.2.1 C.2.2.2.1 C.2.2.2.2.2.2.2.2.1.1 hP 0 rfl hC.1 j hj (C.2.2.2.2.1 _ hw) (fun _ h9 => h9) (v := cv g v) ?_ hd (k g p l e R s m args below meth cc H locs LS cells slots C hR hS hL h1 h2)
  rw [rng_at (by omega), hv g]
theorem X_getI (q : Nat) {a c j idx : Nat} {ty : FieldType} {fin : Bool} (hf : FL own idx c j ty fin) (ho : OB L a c) (hso : SO c j = 0) (hd : decode b pc = .ok (.getfield idx, 3)) (hp : pc + 3 = q)
    (k : X F own b ret mL nm d rc rs (L, M) q ls (.int (mi M a j) :: st)) : X F own b ret mL nm d rc rs (L, M) pc ls (.ref a :: st) := X_get q hf ho hd hp (fun g => slot_0 hso) k
theorem X_getL (q : Nat) {a c j idx : Nat} {ty : FieldType} {fin : Bool} (hf : FL own idx c j ty fin) (ho : OB L a c) (hso : SO c j = 2) (hd : decode b pc = .ok (.getfield idx, 3)) (hp : pc + 3 = q)
    (k : X F own b ret mL nm d rc rs (L, M) q ls (.long (ml M a j) :: st)) : X F own b ret mL nm d rc rs (L, M) pc ls (.ref a :: st) := X_get q hf ho hd hp (fun g => slot_2 hso) k
theorem X_getR (q : Nat) {a c j idx x : Nat} {ty : FieldType} {fin : Bool} (hf : FL own idx c j ty fin) (ho : OB L a c) (hso : SO c j = 1) (hx : lr L a j = some x) (hd : decode b pc = .ok (.getfield idx, 3)) (hp : pc + 3 = q)
    (k : X F own b ret mL nm d rc rs (L, M) q ls (.ref x :: st)) : X F own b ret mL nm d rc rs (L, M) pc ls (.ref a :: st) := X_get q hf ho hd hp (fun g => by rw [slot_1 hso, show L.2.2 a j = some x from hx]; rfl) k
theorem X_getQ (q : Nat) {a c j idx : Nat} {ty : FieldType} {fin : Bool} (hf : FL own idx c j ty fin) (ho : OB L a c) (hso : SO c j = 3) (hd : decode b pc = .ok (.getfield idx, 3)) (hp : pc + 3 = q)
    (k : X F own b ret mL nm d rc rs (L, M) q ls (va_rf (mp M a j) :: st)) : X F own b ret mL nm d rc rs (L, M) pc ls (.ref a :: st) := X_get q hf ho hd hp (fun g => by rw [slot_3 hso, cv_rf]; rfl) k
/-- a store: what holds of the new rows -/
theorem X_putC (q : Nat) {a c j idx : Nat} {ty : FieldType} {fin : Bool} {v : Value} {L' : Lay} {M' : Mem} (hf : FL own idx c j ty fin) (hfin : fin = false ∨ (nm = "<init>" ∧ ∃ T N ty2, CB c own T N ty2)) (ho : OB L a c) (hd : decode b pc = .ok (.putfield idx, 3)) (hp : pc + 3 = q)
    (hn : ∀ g : Ev, narrow ty (cv g v) = cv g v) (hfit : ∀ g : Ev, fits ty (cv g v) = true) (hL1 : L'.1 = L.1) (hL2 : L'.2.1 = L.2.1) (hrow : ∀ (g : Ev) (z : Nat), z ≠ a → cellE g (L', M') z = cellE g (L, M) z)
    (hself : ∀ g : Ev, slotv g c (M'.1 a) (M'.2.1 a) (M'.2.2 a) (L'.2.2 a) j = cv g v) (hoth : ∀ (g : Ev) (z : Nat), z ≠ j → slotv g c (M'.1 a) (M'.2.1 a) (M'.2.2 a) (L'.2.2 a) z = slotv g c (M.1 a) (M.2.1 a) (M.2.2 a) (L.2.2 a) z)
    (k : X F own b ret mL nm d rc rs (L', M') q ls st) : X F own b ret mL nm d rc rs (L, M) pc ls (v :: .ref a :: st) := by
  subst hp
  intro g p l e R s m args below meth cc H locs LS cells slots C hR hS hL h1 h2
  obtain ⟨Cn, T, N, tyf, hC, hj, hty, hfn, hown2, hw⟩ := hf
  have hb0 := Rep.at hR ho.1 (tagO ho)
  rw [cellE_ob (h := (L, M)) ho hC.2.2.2.2.2.1] at hb0
  have hNF := hC.2.2.2.2.1
  have hK := C.2.2.2.2.2.2.2.2.1.1
  have hts := C.2.2.2.2.1
  have hap := va_apart (own := own) (D := eD g) (cl := vwCl) hts hC.2.1 tyf hC.2.2.1 hC.2.2.2.1 hK hC.1
  obtain ⟨r, h3, cell, q1, q2, q3, q4⟩ := hb0
  have hr : r = (Cn, T, N) := Option.some.inj (h3.symm.trans hC.1)
  subst hr
  obtain ⟨hSl, hfc, kC, hkC, hkind⟩ := hK.1 c _ hC.1
  obtain ⟨cf, kf, fi, f, hi, hsl⟩ := hSl j hj
  have hst := (u_facts hfc hkC (u_lays hts hC.2.1 hj) hi).1
  have hpd : parseFieldDescriptor (T j).2.2.1 = some ty := by rw [hC.2.2.1 j hj, hty]
  have hZ : va_S (eA g) s.heap H locs := hS
  have fin1 : ∀ (H' : Heap), H'[g.1 + a]? = some (cell.setSlot f.slot (cv g v)) → H'.size = H.size → (∀ z, z ≠ g.1 + a → H'[z]? = H[z]?) →
      W p l e R s m args below meth cc H' (locs ++ [⟨g.1 + a, f.slot⟩]) cells slots (F g l s args below R) (F0 m (pc + 3) LS (st.map (cv g))) := by
    intro H' e1 e2 e3
    have ho' : OB L' a c := ⟨by rw [hL1]; exact ho.1, by rw [hL2]; exact ho.2⟩
    refine k g p l e R s m args below meth cc H' _ LS cells slots C (Rep.upd (h' := (L', M')) hR hL1 hL2 ho.1 e2 e3 (hrow g) ?_) (hS.put e2 e3 (Nat.le_add_right _ _)) hL h1 h2
    rw [cellE_ob (h := (L', M')) ho' hC.2.2.2.2.2.1, ← rng_set (j := j) (hself g) (hoth g)]
    rw [hsl] at e1
    exact ⟨_, hC.1, t_OB.to (V := updV (vp_V _) j (cv g v)) ⟨_, e1, q2, q3, t_set q4 hap hj (cv g v)⟩ (fun z _ => vp_updV_set (by rw [List.length_map, List.length_range]; omega) (cv g v) z)⟩
  rcases hfin with hfin | ⟨hnm, T2, N2, ty2, hC2⟩
  · have hlay := hts _ (hC.2.1 _ (u_in_lay hj))
    unfold u_lay at hlay
    rw [if_neg (by rw [hfn, hfin]; decide)] at hlay
    have h6 := u_store hfc hkC hkind hlay hi hpd (hn g) (hfit g)
    refine W.putK C.1 C.2.1 (f := f) ⟨C.2.2.2.1, hts _ hw, ⟨_, _, _, hi⟩, hst⟩ (by rw [q2]; exact h6) q1 q3 (by rw [hsl]; exact k2_hasslot (q4 j hj)) rfl rfl hd fin1
  · cases fin with
    | false =>
      have hlay := hts _ (hC.2.1 _ (u_in_lay hj))
      unfold u_lay at hlay
      rw [if_neg (by rw [hfn]; decide)] at hlay
      have h6 := u_store hfc hkC hkind hlay hi hpd (hn g) (hfit g)
      refine W.putK C.1 C.2.1 (f := f) ⟨C.2.2.2.1, hts _ hw, ⟨_, _, _, hi⟩, hst⟩ (by rw [q2]; exact h6) q1 q3 (by rw [hsl]; exact k2_hasslot (q4 j hj)) rfl rfl hd fin1
    | true =>
      have hlay := hts _ (hC.2.1 _ (u_in_lay hj))
      unfold u_lay at hlay
      rw [if_pos hfn] at hlay
      have hown1 : own = Cn := by have := hC2.1.symm.trans hC.1; simp at this; exact this.1
      have hcf : m.cls = cf := by
        obtain ⟨_, _, c', _, _, _, -, -, hf', -, -, -, hown3, -⟩ := Cond.laysFinal_spec hlay
        have e1 : c' = cf := by have := hi.symm.trans hf'; simp at this; exact this.1.symm
        rw [hown2, ← hown1] at hown3
        rw [← e1]; exact Option.some.inj (C.2.2.2.1.symm.trans hown3)
      have h6 := u_fits hfc hkC hkind (Or.inr hlay) hi hpd (hn g) (hfit g)
      refine W.putFinK C.1 C.2.1 C.2.2.2.1 (hts _ hw) hi hst hcf (C.2.2.2.2.2.2.2.1.trans hnm) (by rw [q2]; exact h6) q1 q3 (by rw [hsl]; exact k2_hasslot (q4 j hj)) rfl rfl hd fin1
end XM
