-- LEVEL 1, part 6: a method with a table of handlers, and the catch in it
def tabI (hh : List (Nat × Nat × Nat × Nat)) (s : State) (args : Array Value) (below : List Frame) : Prop := ∀ (m : MethodId) (meth : Method) (c : Code), s.frames = .invoking m args :: below → s.vm.method? m = some meth → meth.code = some c → c.exceptionTable.toList = tableOf hh
def FH (hh : List (Nat × Nat × Nat × Nat)) (Q : Option Value → Hp → Prop) : Fin9 := fun g l s args below R t => l.stackTraces = false → tabI hh s args below → MQ below (QcX g Q) args s R.cells R.slots (eA g) t
abbrev wsH (y : MethodName) (b : ByteArray) (mL : Nat) (ret : Option FieldType) (hh : List (Nat × Nat × Nat × Nat)) : List Cond := Cond.codeWith y b mL ret hh :: GW
def MXH (y : MethodName) (b : ByteArray) (ret : Option FieldType) (mL : Nat) (hh : List (Nat × Nat × Nat × Nat)) (d rc rs : Nat) (as : List Value) (h : Hp) (Q : Option Value → Hp → Prop) : Prop :=
  ∀ (l : Launch) (g : Ev), l.stackTraces = false → Met l y (wsH y b mL ret hh) (rmX d rc rs) (PcX g as h) (QcX g Q) rc rs (eA g)
theorem MXH_of {y : MethodName} {b : ByteArray} {ret : Option FieldType} {mL d rc rs : Nat} {hh : List (Nat × Nat × Nat × Nat)} {as : List Value} {h : Hp} {Q : Option Value → Hp → Prop} (hy : plainName y.cls = true) (ls : List Value) (hls : entL as ++ List.replicate (mL - (entL as).length) junk = ls) (hlen : (entL as).length ≤ mL)
    (k : X (FH hh Q) y.cls b ret mL y.name d rc rs h 0 ls []) : MXH y b ret mL hh d rc rs as h Q := by
  subst hls
  intro l g htr
  refine MetFree.of_bodyS (code := b) (maxLocals := mL) (ret := ret) hy ?_ ?_
  · intro args s m h hn
    obtain ⟨m9, meth, c, hn9, h1, h2, h3, h4, -, h5, h6, -⟩ := Cond.codeWith_spec (atoms_spec (ws := wsH y b mL ret hh) h _ List.mem_cons_self)
    cases hn.symm.trans hn9
    exact ⟨meth, c, h1, h2, h3, h4, h5, h6⟩
  · intro p e s m args below meth cc s₁ B hml hv _
    have hh0 : s₁.heap = s.heap := by rw [B.state]; rfl
    have htab := vx_table (x := y) (hh := hh) B (atoms_spec (ws := wsH y b mL ret hh) B.pre _ List.mem_cons_self)
    obtain ⟨rfl, hR, hKX⟩ := hv
    have hts := atoms_spec (ws := wsH y b mL ret hh) B.pre
    have hg := KX.sio hKX
    have hlen2 : (lg_sl (as.map (cv g))).length ≤ mL := by rw [lgsl_len hg]; exact hlen
    have hl := lv_entry (as.map (cv g)) hlen2
    have hL : LRl g mL (entL as ++ List.replicate (mL - (entL as).length) junk) (lg_sl (as.map (cv g)) ++ List.replicate (mL - (lg_sl (as.map (cv g))).length) Slot.unset).toArray := by
      refine ⟨hl.1, hl.2.1, by rw [List.length_append, List.length_replicate]; omega, fun i v hi hv => ?_⟩
      by_cases hlt : i < (entL as).length
      · rw [List.getElem?_append_left hlt] at hi
        have := ent_args hg as 0 i v hi hv
        rw [Nat.zero_add] at this
        exact hl.2.2 _ this
      · rw [List.getElem?_append_right (by omega)] at hi
        have := List.mem_of_getElem? hi
        exact absurd (List.eq_of_mem_replicate this) hv
    have C : XC g y.cls b ret mL y.name d p (headSpec (wsH y b mL ret hh) (rmX d rc rs)).room s m (as.map (cv g)).toArray meth cc :=
      ⟨B.exec, B.bytes, hml, findClass_of_methodNamed B.named, fun w hw => hts w (List.mem_cons_of_mem _ hw), B.returns, B.notSynchronized, (name_of_methodNamed B.named B.method).1, hKX, Nat.le_refl _, Nat.le_refl _⟩
    have W0 := k g p l e _ s m _ below meth cc s.heap [] _ 0 0 C hR va_S.rf hL (by show 0 + rc ≤ rc; omega) (by show 0 + rs ≤ rs; omega)
    rw [List.map_nil, ← lg_entry_eq] at W0
    obtain ⟨t, a1, a2⟩ := W0 s₁ hh0 (Stand.of_body B)
    obtain ⟨o, b1, b2, b3⟩ := a2 htr (fun m2 meth2 c2 h1 h2 h3 => by
      have S := Stand.of_body B
      have e1 : m = m2 := by
        have := S.frames.symm.trans h1
        cases this; rfl
      subst e1
      have e2 : meth = meth2 := Option.some.inj (S.method.symm.trans h2)
      subst e2
      have e3 : cc = c2 := Option.some.inj (S.code.symm.trans h3)
      subst e3
      exact htab)
    exact ⟨t, o, a1, b1, b2, ⟨b3.1, b3.2⟩⟩
section XCT
variable {own : String} {b : ByteArray} {ret : Option FieldType} {mL : Nat} {nm : String} {d rc rs : Nat} {h : Hp} {pc : Nat} {ls st : List Value}
theorem X_callCatch (q2 : Nat) {f9 t9 hp ct i : Nat} {hh : List (Nat × Nat × Nat × Nat)} {Q : Option Value → Hp → Prop} {idx : Nat} {y : MethodName} {b' : ByteArray} {ret' : Option FieldType} {mL' d' rc' rs' n a c : Nat} {as : List Value}
    (hcl : CV own idx y c b' mL' ret' n) (hM : MXX y b' ret' mL' d' rc' rs' (.ref a :: as) h) (ho : OB h.1 a c) (hn : as.length = n) (hd' : d' + 1 ≤ d) (hrc : rc' ≤ rc) (hrs : rs' ≤ rs) (hw : st.length ≤ 4)
    (hd : decode b pc = .ok (.invokevirtual idx, 3)) (hhh : hh = [(f9, t9, hp, ct)]) (hcov : ∀ x, tableOf hh = [x] → covers x pc = true ∧ x.catchType = ct ∧ x.handlerPc = hp) (htab : ∃ x, tableOf hh = [x]) (hct : ct ≠ 0) (hlink : Cond.classLink own ct NSE ∈ GW)
    (hst9 : (decode b hp = .ok (.astore i, 2) ∧ q2 = hp + 2) ∨ ∃ k : Fin 4, decode b hp = .ok (.astore_n k, 1) ∧ (k : Nat) = i ∧ q2 = hp + 1) (hi : i < mL) {st1 : List Value} (hst : as.reverse ++ .ref a :: st = st1)
    (k : ∀ n' : Nat, X (FH hh Q) own b ret mL nm d (rc - rc') (rs - rs') (jnk h.1 n', h.2) q2 [] []) : X (FH hh Q) own b ret mL nm d rc rs h pc ls st1 := by
  subst hst
  intro g p l e R s m args below meth cc H locs LS cells slots C hR hS hL h1 h2
  by_cases htr : l.stackTraces = false
  · by_cases htb : tabI hh s args below
    · obtain ⟨w1, w2, w3, w4, w5, w6, w7, w8, ⟨T9, N9, ty9, hC⟩, w9⟩ := hcl
      obtain ⟨-, -, -, -, -, -, -, -, hKX, hdR, hlR⟩ := id C
      have hK := hKX.1
      have hP := Rep.one hR (a := a) ho.1 (tagO ho)
      rw [cellE_ob ho hC.2.2.2.2.2.1] at hP
      have hrun : vx_Run p l e R s m args below meth cc H locs cells slots rc' rs' (F0 m pc LS ((as.map (cv g)).reverse ++ .ref (g.1 + a) :: st.map (cv g))) (st.map (cv g)) (fun _ _ _ => False) (XCX g h) (eA g) := vx_runV (As := as.map (cv g)) (rest := st.map (cv g)) (g := F0 m pc LS ((as.map (cv g)).reverse ++ .ref (g.1 + a) :: st.map (cv g))) ⟨C.1, C.2.1, C.2.2.1, C.2.2.2.1, C.2.2.2.2.1⟩ (hM l g htr)
        (cwV n C.2.2.2.2.1 (app_in (by intro w hw; simp only [List.mem_cons, List.not_mem_nil, or_false] at hw; rcases hw with rfl | rfl | rfl | rfl <;> assumption) (wsX_in w5)) rfl rfl rfl ⟨rfl, w6, w7, w8⟩ ⟨by show d' + 1 ≤ R.frames; omega, by show 8 + (mL' + 11) + 45 * d' ≤ R.locals; omega⟩)
        ⟨fblind, va_recv (q0 := 0) hK hP hC.1 rfl, fun U hU hW => ⟨rfl, by rw [hU]; exact hR, KX.moved hW (fun z h5 h6 => by rw [hU]; exact hS.2.1 z h5 h6) hKX⟩⟩ rfl (by rw [List.length_map]; exact hn) hL.1 rfl (lv_room (catsum (KX.sio hKX) hw)) hd ⟨by omega, by omega⟩
      have est : (as.reverse ++ Value.ref a :: st).map (cv g) = (as.map (cv g)).reverse ++ .ref (g.1 + a) :: st.map (cv g) := by
        rw [List.map_append, List.map_reverse]; rfl
      rw [est]
      intro T hT S
      rcases hrun T hT S with ⟨v, st₀, t, T', L, -, -, -, -, -, f, -⟩ | ⟨q, st₀, t, T', L, E, ce, h0, X', hLf, e1, e2, ⟨rfl, ⟨n', hR'⟩, hF⟩, hce, hcv, hclE, stp⟩
      · exact f.elim
      · obtain ⟨k1, k2, k3⟩ := vx_keep h0 e1 hS (fun _ _ z => z) (fun _ z => z) hLf hF
        have kk : ∀ LS' : Array Slot, LS'.size = mL → lv_wf LS' → W p l e R s m args below meth cc T'.heap (locs ++ L) (cells + rc') (slots + rs') (FH hh Q g l s args below R) (F0 m q2 LS' []) := fun LS' z1 z2 =>
          k n' g p l e R s m args below meth cc T'.heap (locs ++ L) LS' (cells + rc') (slots + rs') C (by rw [e1]; exact hR') k3 ⟨z1, z2, Nat.zero_le _, fun i v z _ => by cases z⟩ (by omega) (by omega)
        have W2 : W p l e R s m args below meth cc T'.heap (locs ++ L) (cells + rc') (slots + rs') (FH hh Q g l s args below R) (F0 m hp LS [.ref q]) := by
          rcases hst9 with ⟨z1, z2⟩ | ⟨k9, z1, z2, z3⟩
          · subst z2
            exact lv_astore C.1 C.2.1 z1 (lst_has hL) hi rfl (fun LS' hL' => kk LS' hL'.1 hL'.2.1)
          · subst z3
            exact lv_astore_n C.1 C.2.1 z1 z2 (lst_has hL) hi rfl (fun LS' hL' => kk LS' hL'.1 hL'.2.1)
        obtain ⟨x, hx⟩ := htab
        obtain ⟨x1, x2, x3⟩ := hcov x hx
        have hsp : cc.exceptionTable.toList = [] ++ x :: [] := (htb m meth cc S.frames S.method S.code).trans hx
        rw [← x3] at W2
        have W3 := vx_catch (args := args) (H := T'.heap) (own := own) (name := NSE) (E := NSE) (ce := ce) (q := q) (pc := pc) (rest := st.map (cv g)) C.2.2.2.1 [] x [] hsp (fun z hz => by cases hz) x1 (by rw [x2]; exact hct) (by rw [x2]; exact C.2.2.2.2.1 _ hlink) (hKX.2.2.1 (NSE, NSE) (by simp [CPL])) (by rw [e1]; exact hce) hcv hclE W2
        obtain ⟨t2, a1, b1⟩ := W3 T' rfl X'
        exact ⟨t2, stp.trans a1, b1⟩
    · intro T hT S
      exact ⟨_, Steps.refl _, fun _ z => absurd z htb⟩
  · intro T hT S
    exact ⟨_, Steps.refl _, fun z => absurd z htr⟩
end XCT
