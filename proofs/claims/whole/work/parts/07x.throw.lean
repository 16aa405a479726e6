-- LEVEL 1, part 5: methods that throw, and their catching
def jnk (L : Lay) (n : Nat) : Lay := (L.1 + n, fun a => if a < L.1 then L.2.1 a else (0, 1), L.2.2)
theorem Rep.jnk {g : Ev} {h : Hp} {H H' : Heap} (hR : Rep g h H) (hz : H.size ≤ H'.size) (o : ∀ q : Nat, q < H.size → H'[q]? = H[q]?) : Rep g (jnk h.1 (H'.size - H.size), h.2) H' := by
  have e0 := hR.1
  refine ⟨by show H'.size = g.1 + (h.1.1 + (H'.size - H.size)); omega, fun a ha => ?_⟩
  have ha : a < h.1.1 + (H'.size - H.size) := ha
  by_cases c : a < h.1.1
  · have e : cellE g (Jvm.Pilot.CCoalVendLaw_law_r1492_921628.jnk h.1 (H'.size - H.size), h.2) a = cellE g h a := by
      show cellR g (if a < h.1.1 then h.1.2.1 a else (0, 1)) _ _ _ _ = _
      rw [if_pos c]; rfl
    rw [e]
    rcases hR.2 a c with q | q
    · exact Or.inl (by show (if a < h.1.1 then h.1.2.1 a else (0, 1)) = _; rw [if_pos c]; exact q)
    · exact Or.inr (q.kept (o _ (by show g.1 + a < H.size; omega)))
  · exact Or.inl (if_neg c)
def XCX (g : Ev) (h : Hp) : String → State → State → Prop := fun E st t => E = NSE ∧ (∃ n, Rep g (jnk h.1 n, h.2) t.heap) ∧ va_F (eA g) st t
def noT (s : State) (args : Array Value) (below : List Frame) : Prop := ∀ (m : MethodId) (meth : Method) (c : Code), s.frames = .invoking m args :: below → s.vm.method? m = some meth → meth.code = some c → ∀ x ∈ c.exceptionTable.toList, False
def FT (h : Hp) : Fin9 := fun g l s args below R t => l.stackTraces = false → noT s args below → vx_MQ below (fun _ _ _ _ => False) (XCX g h) args s R.cells R.slots (eA g) t
def MXX (y : MethodName) (b : ByteArray) (ret : Option FieldType) (mL d rc rs : Nat) (as : List Value) (h : Hp) : Prop :=
  ∀ (l : Launch) (g : Ev), l.stackTraces = false → vx_Met l y (wsX y b mL ret) (rmX d rc rs) (PcX g as h) (fun _ _ _ _ => False) (XCX g h) rc rs (eA g)
theorem MXX_of {y : MethodName} {b : ByteArray} {ret : Option FieldType} {mL d rc rs : Nat} {as : List Value} {h : Hp} (hy : plainName y.cls = true) (ls : List Value) (hls : entL as ++ List.replicate (mL - (entL as).length) junk = ls) (hlen : (entL as).length ≤ mL)
    (k : X (FT h) y.cls b ret mL y.name d rc rs h 0 ls []) : MXX y b ret mL d rc rs as h := by
  subst hls
  intro l g htr
  refine vx_ofW (cc := b) (maxL := mL) (ret := ret) hy rfl ?_
  intro p e s m args below meth cc s₁ B hml ht hv
  obtain ⟨rfl, hR, hKX⟩ := hv
  have hts := atoms_spec (ws := wsX y b mL ret) B.pre
  have hg := KX.sio hKX
  have hlen2 : (lg_sl (as.map (cv g))).length ≤ mL := by rw [lgsl_len hg]; exact hlen
  have hl := lv_entry (as.map (cv g)) hlen2
  rw [lg_entry_eq]
  generalize (lg_sl (as.map (cv g)) ++ List.replicate (mL - (lg_sl (as.map (cv g))).length) Slot.unset).toArray = LS at hl ⊢
  have hL : LRl g mL (entL as ++ List.replicate (mL - (entL as).length) junk) LS := by
    refine ⟨hl.1, hl.2.1, by rw [List.length_append, List.length_replicate]; omega, fun i v hi hv => ?_⟩
    by_cases hlt : i < (entL as).length
    · rw [List.getElem?_append_left hlt] at hi
      have := ent_args hg as 0 i v hi hv
      rw [Nat.zero_add] at this
      exact hl.2.2 _ this
    · rw [List.getElem?_append_right (by omega)] at hi
      have := List.mem_of_getElem? hi
      exact absurd (List.eq_of_mem_replicate this) hv
  have C : XC g y.cls b ret mL y.name d p (headSpec (wsX y b mL ret) (rmX d rc rs)).room s m (as.map (cv g)).toArray meth cc :=
    ⟨B.exec, B.bytes, hml, findClass_of_methodNamed B.named, fun w hw => hts w (List.mem_cons_of_mem _ hw), B.returns, B.notSynchronized, (name_of_methodNamed B.named B.method).1, hKX, Nat.le_refl _, Nat.le_refl _⟩
  have W0 := k g p l e _ s m _ below meth cc s.heap [] LS 0 0 C hR va_S.rf hL (by show 0 + rc ≤ rc; omega) (by show 0 + rs ≤ rs; omega)
  intro T hT S
  obtain ⟨t, a1, a2⟩ := W0 T hT S
  refine ⟨t, a1, a2 htr (fun m2 meth2 c2 h1 h2 h3 => ?_)⟩
  have e1 : m = m2 := by
    have := S.frames.symm.trans h1
    cases this; rfl
  subst e1
  have e2 : meth = meth2 := Option.some.inj (S.method.symm.trans h2)
  subst e2
  have e3 : cc = c2 := Option.some.inj (S.code.symm.trans h3)
  subst e3
  exact ht
def nmN : List String := ["java/lang/RuntimeException", "java/lang/Exception"]
def thB : List Cond := Cond.castable NSE NSE :: DCL.map (fun q => Cond.declares (Bundle.initS q))
section XTH
variable {own : String} {b : ByteArray} {ret : Option FieldType} {mL : Nat} {nm : String} {d rc rs : Nat} {h : Hp} {pc : Nat} {ls st : List Value}
theorem X_throwS {ik is ic : Nat} {text : String} (ho : own = RX11) (hk : Cond.classLink own ik NSE ∈ GW) (hini : Cond.initialized NSE ∈ GW) (hB : ∀ w ∈ (vx_atS own ic NSE nmN).filter goodWord, w ∈ GW) (hB2 : ∀ w ∈ (vx_atS own ic NSE nmN).filter (fun w => !goodWord w), w ∈ thB)
    (hgood : ∀ w ∈ Cond.classLink own ik NSE :: Cond.initialized NSE :: vx_atS own ic NSE nmN, vx_ot w = true)
    (hstr : (is = 236 ∧ text = "no such set, owner or n") ∨ (is = 251 ∧ text = "no such issue") ∨ (is = 263 ∧ text = "no such owner or what"))
    (d0 : decode b pc = .ok (.new ik, 3)) (d3 : decode b (pc + 3) = .ok (.dup, 1)) (d4 : decode b (pc + 4) = .ok (.ldc is, 2)) (d6 : decode b (pc + 6) = .ok (.invokespecial ic, 3)) (d9 : decode b (pc + 9) = .ok (.athrow, 1))
    (hd : 6 ≤ d) (hrc : 1 ≤ rc) (hrs : 6 ≤ rs) (hst : st = []) : X (FT h) own b ret mL nm d rc rs h pc ls st := by
  subst hst
  intro g p l e R s m args below meth cc H locs LS cells slots C hR hS hL h1 h2
  obtain ⟨c1, c2, c3, c4, c5, c6, c7, c8, hKX, hdR, hlR⟩ := id C
  by_cases htr : l.stackTraces = false
  · by_cases hnt : noT s args below
    · intro T hT S
      have ht := hnt m meth cc S.frames S.method S.code
      obtain ⟨k1, k2, k3, k4, k5, k6, k7, k8, k9, ka, kb, kc, kd, ke, kf, kg, kh, kj⟩ := id hKX
      have hvk : ∃ sa, vk_R own is text sa s := by
        subst ho
        rcases hstr with ⟨rfl, rfl⟩ | ⟨rfl, rfl⟩ | ⟨rfl, rfl⟩
        · exact ⟨_, ka⟩
        · exact ⟨_, kb⟩
        · exact ⟨_, kc⟩
      obtain ⟨sa, hvk⟩ := hvk
      have W1 := vx_throwS (p := p) (l := l) (e := e) (R := R) (s := s) (m := m) (args := args) (below := below) (meth := meth) (c := cc) (H := H) (locs := locs) (cells := cells) (slots := slots) (ls := LS) (rest := ([] : List Value)) (Qc := fun _ _ _ _ => False) (XC := XCX g h) (free := eA g) (mc := R.cells) (ms := R.slots) (A := eA g)
        (names := nmN) (ik := ik) (is := is) (ic := ic) (text := text) (cls := NSE) (own := own) (sa := sa) (cc := b) (pc := pc)
        c1 c2 htr c4 (by decide +kernel) (by decide +kernel) (c5 _ hk) (c5 _ hini) hvk
        (vx_hat (B := thB) (fun w hw => c5 w (hB w hw)) hB2 (fun w hw => by
          rcases List.mem_cons.mp hw with rfl | hw
          · exact k3 (NSE, NSE) (by simp [CPL])
          · obtain ⟨q, hq, rfl⟩ := List.mem_map.mp hw
            exact kj q hq))
        hgood kg kh hS (hL.1.trans c3.symm) d0 d3 d4 d6 d9 (fun x hx => absurd (ht x hx) id) (by show 2 + 3 < R.frames; omega) (by show 0 + (13 * 3 + 43) ≤ R.locals; omega) (by omega) (by omega) c7
        (fun t _ z o => ⟨rfl, ⟨_, Rep.jnk hR z o⟩, ⟨Nat.le_trans hS.1 z, fun q q1 q2 => by rw [o q (Nat.lt_of_lt_of_le q1 hS.1)]; exact hS.2.1 q q1 q2⟩⟩) hS.2.2 (by omega) (by omega)
      obtain ⟨t, a1, a2⟩ := W1 T hT S
      exact ⟨t, a1, fun _ _ => a2⟩
    · intro T hT S
      exact ⟨_, Steps.refl _, fun _ z => absurd z hnt⟩
  · intro T hT S
    exact ⟨_, Steps.refl _, fun z => absurd z htr⟩
theorem X_throwSW {ik is ic : Nat} {text : String} (ho : own = RX11) (hk : Cond.classLink own ik NSE ∈ GW) (hini : Cond.initialized NSE ∈ GW) (hB : ∀ w ∈ (vx_atS own ic NSE nmN).filter goodWord, w ∈ GW) (hB2 : ∀ w ∈ (vx_atS own ic NSE nmN).filter (fun w => !goodWord w), w ∈ thB)
    (hgood : ∀ w ∈ Cond.classLink own ik NSE :: Cond.initialized NSE :: vx_atS own ic NSE nmN, vx_ot w = true)
    (hstr : (is = 236 ∧ text = "no such set, owner or n") ∨ (is = 251 ∧ text = "no such issue") ∨ (is = 263 ∧ text = "no such owner or what"))
    (d0 : decode b pc = .ok (.new ik, 3)) (d3 : decode b (pc + 3) = .ok (.dup, 1)) (d4 : decode b (pc + 4) = .ok (.ldc_w is, 3)) (d6 : decode b (pc + 7) = .ok (.invokespecial ic, 3)) (d9 : decode b (pc + 10) = .ok (.athrow, 1))
    (hd : 6 ≤ d) (hrc : 1 ≤ rc) (hrs : 6 ≤ rs) (hst : st = []) : X (FT h) own b ret mL nm d rc rs h pc ls st := by
  subst hst
  intro g p l e R s m args below meth cc H locs LS cells slots C hR hS hL h1 h2
  obtain ⟨c1, c2, c3, c4, c5, c6, c7, c8, hKX, hdR, hlR⟩ := id C
  by_cases htr : l.stackTraces = false
  · by_cases hnt : noT s args below
    · intro T hT S
      have ht := hnt m meth cc S.frames S.method S.code
      obtain ⟨k1, k2, k3, k4, k5, k6, k7, k8, k9, ka, kb, kc, kd, ke, kf, kg, kh, kj⟩ := id hKX
      have hvk : ∃ sa, vk_R own is text sa s := by
        subst ho
        rcases hstr with ⟨rfl, rfl⟩ | ⟨rfl, rfl⟩ | ⟨rfl, rfl⟩
        · exact ⟨_, ka⟩
        · exact ⟨_, kb⟩
        · exact ⟨_, kc⟩
      obtain ⟨sa, hvk⟩ := hvk
      have W1 := vx_throwSW (p := p) (l := l) (e := e) (R := R) (s := s) (m := m) (args := args) (below := below) (meth := meth) (c := cc) (H := H) (locs := locs) (cells := cells) (slots := slots) (ls := LS) (rest := ([] : List Value)) (Qc := fun _ _ _ _ => False) (XC := XCX g h) (free := eA g) (mc := R.cells) (ms := R.slots) (A := eA g)
        (names := nmN) (ik := ik) (is := is) (ic := ic) (text := text) (cls := NSE) (own := own) (sa := sa) (cc := b) (pc := pc)
        c1 c2 htr c4 (by decide +kernel) (by decide +kernel) (c5 _ hk) (c5 _ hini) hvk
        (vx_hat (B := thB) (fun w hw => c5 w (hB w hw)) hB2 (fun w hw => by
          rcases List.mem_cons.mp hw with rfl | hw
          · exact k3 (NSE, NSE) (by simp [CPL])
          · obtain ⟨q, hq, rfl⟩ := List.mem_map.mp hw
            exact kj q hq))
        hgood kg kh hS (hL.1.trans c3.symm) d0 d3 d4 d6 d9 (fun x hx => absurd (ht x hx) id) (by show 2 + 3 < R.frames; omega) (by show 0 + (13 * 3 + 43) ≤ R.locals; omega) (by omega) (by omega) c7
        (fun t _ z o => ⟨rfl, ⟨_, Rep.jnk hR z o⟩, ⟨Nat.le_trans hS.1 z, fun q q1 q2 => by rw [o q (Nat.lt_of_lt_of_le q1 hS.1)]; exact hS.2.1 q q1 q2⟩⟩) hS.2.2 (by omega) (by omega)
      obtain ⟨t, a1, a2⟩ := W1 T hT S
      exact ⟨t, a1, fun _ _ => a2⟩
    · intro T hT S
      exact ⟨_, Steps.refl _, fun _ z => absurd z hnt⟩
  · intro T hT S
    exact ⟨_, Steps.refl _, fun z => absurd z htr⟩
end XTH
