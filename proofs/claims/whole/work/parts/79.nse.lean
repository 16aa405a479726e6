-- LEVEL 1, part 8: a throw of NoSuchElementException: its constructor links its super by index 13, so the chain's first link is taken apart from the rest
def tw_b : ByteArray := ⟨#[0x2a, 0x2b, 0xb7, 0x00, 0x0d, 0xb1]⟩
def tw_rt : String := "java/lang/RuntimeException"
def tw_no (w : Cond) : Bool := decide (w ≠ .methodLink NSE 7 (Bundle.initS tw_rt)) && decide (w ≠ .code (Bundle.initS NSE) Bundle.six 2 none)
/-- the words of such a throw -/
def tw_at (own : String) (ic : Nat) : List Cond := .methodLink NSE 13 (Bundle.initS tw_rt) :: .code (Bundle.initS NSE) tw_b 2 none :: (Bundle.ownAtoms own ic NSE nmN).filter tw_no
def tw_w (own : String) (ic : Nat) : List Cond := (tw_at own ic).filter vx_no
section TW
variable {p : Program} {l : Launch} {e : Env} {R : Room} {s : State} {m : MethodId} {args : Array Value} {below : List Frame} {meth : Method} {c : Code} {cells slots : Nat} {own : String} {ic : Nat}
theorem tw_in (h : ∀ w ∈ tw_at own ic, w.before args s = true) {w : Cond} (h1 : w ∈ Bundle.ownAtoms own ic NSE nmN) (h2 : tw_no w = true) : w.before args s = true :=
  h w (List.mem_cons_of_mem _ (List.mem_cons_of_mem _ (List.mem_filter.mpr ⟨h1, h2⟩)))
/-- the three constructors below it, and its own -/
theorem tw_links {pl : Platform} (hpl : pl.magicAccessors = ({} : Platform).magicAccessors) (h : ∀ w ∈ tw_at own ic, w.before args s = true) {top : MethodId} (htop : s.methodNamed? (Bundle.initS Bundle.tN) = some top) :
    ∃ (P0 : PassC) (Ps : List PassC), Ps.length = 2 ∧ (∀ P, P ∈ P0 :: Ps → P.LinksS pl s) ∧ s.methodNamed? (Bundle.initS NSE) = some P0.m ∧ PassesOn top ((P0 :: Ps).map (·.toPassT)) := by
  have hc : ∀ w ∈ Bundle.chainSAtoms tw_rt ["java/lang/Exception"], w.before args s = true := fun w hw =>
    tw_in h (by simp only [Bundle.ownAtoms, nmN, Bundle.chainSAtoms, tw_rt, List.mem_append] at hw ⊢; exact Or.inl (Or.inr (Or.inr hw))) ((by decide +kernel : ∀ w ∈ Bundle.chainSAtoms tw_rt ["java/lang/Exception"], tw_no w = true) w hw)
  obtain ⟨P1, Ps, n1, L1, L2, hm1, hs1, hp1⟩ := Bundle.chainS (args := args) (s := s) hpl htop ["java/lang/Exception"] tw_rt (by decide +kernel) (by decide +kernel) hc
  have h0 : ∀ w ∈ Bundle.passSAtoms NSE tw_rt 13 tw_b, w.before args s = true := fun w hw => by
    simp only [Bundle.passSAtoms, List.mem_cons, List.not_mem_nil, or_false] at hw
    rcases hw with rfl | rfl | rfl | rfl | rfl
    · exact tw_in h (by simp [Bundle.ownAtoms, nmN, Bundle.chainSAtoms, Bundle.passSAtoms]) (by decide +kernel)
    · exact h _ (List.mem_cons_of_mem _ List.mem_cons_self)
    · exact h _ List.mem_cons_self
    · exact tw_in h (by simp [Bundle.ownAtoms, nmN, Bundle.chainSAtoms, Bundle.passSAtoms, tw_rt]) (by decide +kernel)
    · exact tw_in h (by simp [Bundle.ownAtoms, nmN, Bundle.chainSAtoms, Bundle.passSAtoms, tw_rt]) (by decide +kernel)
  obtain ⟨P0, L0, hm0, hs0⟩ := PassC.ofS_atoms (args := args) (s := s) hpl (X := NSE) (Y := tw_rt) (index := 13) (bytes := tw_b) (by decide +kernel) (by decide +kernel) (by decide +kernel) (by decide +kernel) (by decide +kernel) (by decide +kernel) h0
  refine ⟨P0, P1 :: Ps, by rw [List.length_cons, n1]; rfl, fun P hP => ?_, hm0, Option.some.inj (hs0.symm.trans hm1), hs1, hp1⟩
  rcases List.mem_cons.mp hP with rfl | hP
  · exact L0
  · rcases List.mem_cons.mp hP with rfl | hP
    · exact L1
    · exact L2 P hP
set_option maxHeartbeats 1000000 in
/-- invokespecial of its constructor, and athrow behind it: the object leaves the method -/
theorem tw_ctor {T0 : State} (X : Stand p l e R s m args below meth c T0 [] cells slots) (hx : p.tables.exec = Jvm.exec) (htr : e.platform.stackTraces = false) (hown : s.vm.findClass own = some m.cls)
    (h : ∀ w ∈ tw_at own ic, w.before args s = true) {a : Addr} {cX : ClassId} {kX : Class} (hf : s.vm.findClass NSE = some cX) (hk : s.vm.classes[cX]? = some kX) (hcell : T0.heap[a]? = some (freshCell cX kX)) (hnew : s.heap.size ≤ a)
    {msg : Value} (hmsg : msg.isRef = true) {g : JFrame} (hg : g.method = m) (hsize : g.locals.size = c.maxLocals) (hlocked : g.locked = none) (hentered : g.entered = []) {rest : List Value} (hst : g.stack = msg :: .ref a :: .ref a :: rest)
    (d0 : decode c.code g.pc = .ok (.invokespecial ic, 3)) (d3 : decode c.code (g.pc + 3) = .ok (.athrow, 1)) (hout : ∀ x ∈ c.exceptionTable.toList, covers x (g.pc + 3) = false)
    (hRf : 5 < R.frames) (hRl : 2 * g.monitorRoom + ((Value.ref a :: rest).map fun v => v.category).sum + 81 ≤ R.locals) (hlocks : meth.locks = false) :
    ∃ U : State, Steps p.tables e below (T0.setTop g) U ∧ U.status = .running ∧ Ended U below (.threw a) ∧ s.WarmedH U.vm ∧ s.sameButNew ({ U with vm := s.vm } : State) [] cells slots ∧
      ∃ ce, U.heap[a]? = some ce ∧ ce.vm = .none ∧ ce.cls = cX := by
  have pO : e.platform.frameOwnsMonitors = true := by rw [X.admits.platform]
  have pF : e.platform.finalization = false := by rw [X.admits.platform]
  have pM : e.platform.magicAccessors = ({} : Platform).magicAccessors := by rw [X.admits.platform]
  have wT : ∀ w ∈ Bundle.throwableAtoms, w.before args s = true := fun w hw => tw_in h (by simp only [Bundle.ownAtoms, List.mem_append]; exact Or.inl (Or.inl (Or.inl hw))) ((by decide +kernel : ∀ w ∈ Bundle.throwableAtoms, tw_no w = true) w hw)
  have wS : ∀ w ∈ Bundle.throwableSAtoms, w.before args s = true := fun w hw => tw_in h (by simp only [Bundle.ownAtoms, List.mem_append]; exact Or.inl (Or.inl (Or.inr hw))) ((by decide +kernel : ∀ w ∈ Bundle.throwableSAtoms, tw_no w = true) w hw)
  have wL : ∀ n d, tw_no (.lays NSE Bundle.tN n d) = true := fun n d => rfl
  obtain ⟨T, Z0, L, -, Y⟩ := ThrowableC.of_atoms (args := args) pO pF pM wT
  obtain ⟨Z, M, LZ, LM, hZ⟩ := Init0T.ofS_atoms (args := args) pM L Y wS
  obtain ⟨P0, Ps, n0, LP, hm0, hpass⟩ := tw_links (args := args) pM h hZ
  have hf0 := findClass_of_methodNamed hm0
  have e0 : cX = P0.m.cls := Option.some.inj (hf.symm.trans hf0)
  obtain ⟨c1, k1, hc1, hk1, hord, -⟩ := Cond.instantiable_spec (tw_in h (w := .instantiable NSE 6) (by simp [Bundle.ownAtoms]) (by decide +kernel))
  cases Option.some.inj (hc1.symm.trans hf)
  cases Option.some.inj (hk1.symm.trans hk)
  have sel : ∀ (x : MethodName) (mm : MethodId), s.methodNamed? x = some mm → (x.cls ≠ "java/lang/invoke/MethodHandle" ∧ x.cls ≠ "java/lang/invoke/VarHandle") → (Cond.selects NSE x x).before args s = true → selectMethod e.platform s.vm cX mm = .method mm := fun x mm z1 z3 z4 => by
    obtain ⟨c2, r2, m2, q1, q2, q3, q4, -⟩ := Cond.selects_spec z4
    cases Option.some.inj (q1.symm.trans hf)
    cases Option.some.inj (q3.symm.trans z1)
    cases Option.some.inj (q2.symm.trans (State.methodFound?_of_named z1 z3))
    rw [Launch.admits_selectMethod X.admits]; exact q4
  have s0 := sel Bundle.tFill0 T.fill0 Y.fill0 (by decide) (tw_in h (by simp [Bundle.ownAtoms]) (by decide +kernel))
  have sF := sel Bundle.tFill T.fill Y.fill (by decide) (tw_in h (by simp [Bundle.ownAtoms]) (by decide +kernel))
  obtain ⟨cS, hcS, hS⟩ := Y.statics
  obtain ⟨u, hu⟩ := Cond.staticRefV Y.unassigned L.unassignedStatic L.statics hcS hS (tw_in h (w := .isRef (.static Bundle.tN "UNASSIGNED_STACK" Bundle.steD)) (by simp [Bundle.ownAtoms]) (by decide +kernel))
  obtain ⟨v, hv⟩ := Cond.staticRefV Y.sentinel L.sentinelStatic L.statics hcS hS (tw_in h (w := .isRef (.static Bundle.tN "SUPPRESSED_SENTINEL" Bundle.listD)) (by simp [Bundle.ownAtoms]) (by decide +kernel))
  have aS : T.aS < s.heap.size := (Array.getElem?_eq_some_iff.mp hcS).1
  have hcT : ∃ cT, T0.heap[T.aS]? = some cT ∧ cT.vm ≠ .unknown ∧ ∀ i : Nat, cT.slots[i]? = cS.slots[i]? := by
    obtain ⟨cT, z1, z2, -, z4⟩ := X.same.2.2.2.2.2 T.aS cS hcS
    refine ⟨cT, z1, fun z => ?_, fun i => z4 i (fun z => nomatch z)⟩
    rw [z2] at z
    rw [show cS.vm = .unknown from z] at hS
    cases hS
  obtain ⟨cT, hcT, hkT, hslT⟩ := hcT
  -- where the fields lie in an object of the class
  have lay : ∀ (f : Field) (n d : String) (x : ClassId) (y : Class) (i : Nat), s.fieldFound? Bundle.tN n d = some (x, y, i, f) → (Cond.lays NSE Bundle.tN n d).before args s = true → kX.instanceTypes[f.slot]? = some f.type ∧ ∃ q, Jmm.declares? s.vm f.slot (cX + 1) cX = some q ∧ q.2.name = f.name := fun f n d x y i z1 z2 => Cond.laysAt hf hk z1 z2
  obtain ⟨iM, ffM⟩ := Y.msg
  obtain ⟨ciB, iB, fB, kB, gB, hB, sB, -, nB, tB, ffB⟩ := Cond.ownField (t := .object "java/lang/Object") Y.found L.cls (by decide +kernel) (tw_in h (w := .fieldLink Bundle.tN 198 Bundle.tN "backtrace" "Ljava/lang/Object;") (by simp [Bundle.ownAtoms]) (by decide +kernel)) (tw_in h (w := .lays Bundle.tN Bundle.tN "backtrace" "Ljava/lang/Object;") (by simp [Bundle.ownAtoms]) (by decide +kernel)) e.platform pM
  obtain ⟨tyC, qC, gC, mC⟩ := lay _ _ _ _ _ _ Y.cause (tw_in h (by simp [Bundle.ownAtoms]) (wL _ _))
  obtain ⟨tyS, qS, gS, mS⟩ := lay _ _ _ _ _ _ Y.stack (tw_in h (by simp [Bundle.ownAtoms]) (wL _ _))
  obtain ⟨tyP, qP, gP, mP⟩ := lay _ _ _ _ _ _ Y.supp (tw_in h (by simp [Bundle.ownAtoms]) (wL _ _))
  obtain ⟨tyM, -⟩ := lay _ _ _ _ _ _ ffM (tw_in h (by simp [Bundle.ownAtoms]) (wL _ _))
  obtain ⟨tyB, qB, gB9, mB⟩ := lay _ _ _ _ _ _ ffB (tw_in h (by simp [Bundle.ownAtoms]) (wL _ _))
  have b1 := Cond.laysApart gB9 gC mB mC (by rw [nB, Y.causeName]; decide)
  have b2 := Cond.laysApart gB9 gS mB mS (by rw [nB, Y.stackName]; decide)
  have b3 := Cond.laysApart gB9 gP mB mP (by rw [nB, Y.suppName]; decide)
  have skip : SkipFacts T e.platform s (fun q => q) u ((preparedCellV T.toThrowableT (freshCell cX kX) a u v).withEntry T0.cur) := by
    refine ⟨{ ci198 := ciB, i198 := iB, fBack := fB }, ⟨kB, gB, hB, sB⟩, ?_, fun _ _ => rfl⟩
    have z := fresh_default (c := cX) tyB
    rw [tB] at z
    simpa [preparedCellV, Cell.setSlot, Cell.withEntry, Array.getElem?_setIfInBounds, b1, b2, b3, b1.symm, b2.symm, b3.symm, defaultValue] using z
  -- the call, the constructors, the throw
  obtain ⟨tm, mC9, cd9, kC9, vm1, hn9, -, -, -, -, -, -, -, W1, st1⟩ := Steps.initColdS (tb := p.tables) (e := e) (below := below) (s := s) (U := T0) X.here hx X.warmed pM hown (t := Bundle.initS NSE) rfl rfl (by decide +kernel)
    (tw_in h (w := .methodLink own ic (Bundle.initS NSE)) (by simp [Bundle.ownAtoms]) (by
      show (decide (Cond.methodLink own ic (Bundle.initS NSE) ≠ .methodLink NSE 7 (Bundle.initS tw_rt)) && decide (Cond.methodLink own ic (Bundle.initS NSE) ≠ .code (Bundle.initS NSE) Bundle.six 2 none)) = true
      rw [decide_eq_true (show Cond.methodLink own ic (Bundle.initS NSE) ≠ .methodLink NSE 7 (Bundle.initS tw_rt) from fun z => absurd (Cond.methodLink.inj z).2.2 (by decide +kernel)), decide_eq_true (fun z => by cases z)]; rfl))
    (tw_in h (w := .instanceMethod (Bundle.initS NSE)) (by simp [Bundle.ownAtoms, nmN, Bundle.chainSAtoms, Bundle.passSAtoms]) (by decide +kernel)) (bytes := tw_b) (maxL := 2) (h _ (List.mem_cons_of_mem _ List.mem_cons_self))
    (f := g) hg (a := a) (msg := msg) (rest := .ref a :: rest) hst d0
  cases Option.some.inj (hn9.symm.trans hm0)
  have X1 := X.noted W1
  obtain ⟨vm2, X2, st2⟩ := X1.ctorMessageOffV hx (g := { g with stack := .ref a :: rest }) hg hsize T L Z LZ M LM (P0 :: Ps) LP hpass (u0 := u) (sen := v) (self := a) hmsg (cell := freshCell cX kX) (cellS := cT)
    hcell (fun _ => by simp) (by simp) rfl rfl s0 sF hcT (Nat.ne_of_lt (Nat.lt_of_lt_of_le aS hnew)) hkT (by rw [hslT]; exact hu) (by rw [hslT]; exact hv)
    (Takes.of_laid hk hord tyC (by rw [Y.causeType]; rfl)) (Takes.of_laid hk hord tyS (by rw [Y.stackType]; exact fits_refV_array _ u)) (Takes.of_laid hk hord tyP (by rw [Y.suppType]; exact fits_refV_object _ v))
    (Takes.of_laid hk hord tyM (by rw [Y.msgType]; exact fits_refV_object _ ⟨msg, hmsg⟩)) Y.objLocals skip htr [] d0
    (by rw [List.length_cons, n0]; exact hRf) (by rw [List.length_cons, n0]; exact hRl)
  obtain ⟨st3, r1, r2, r3, r4⟩ := X2.athrowLeaves hx (g := { g with stack := .ref a :: rest, pc := g.pc + 3 }) hg hlocked hentered hout (a := a) (rest := rest) rfl d3
  have hlt : a < ((T0.setVm vm1).setVm vm2).heap.size := (Array.getElem?_eq_some_iff.mp hcell).1
  refine ⟨_, st1 _ (fun acts => by rw [doInvoke_state]; exact st2 _ st3), r1, r2, r3, r4.weaken (fun y hy hy2 => ?_) (Nat.le_refl _) (Nat.le_refl _), _, heapAt_setCell_self (s := (T0.setVm vm1).setVm vm2) (plainBareV T.toThrowableT (freshCell cX kX) a u v msg) hlt, rfl, rfl⟩
  rcases List.mem_append.mp hy with z | z
  · exact z
  · have hb : y.base = a := by
      simp only [List.mem_cons, List.not_mem_nil, or_false] at z
      rcases z with rfl | rfl | rfl | rfl | rfl <;> rfl
    rw [hb] at hy2
    exact absurd hnew (Nat.not_le.mpr hy2)
end TW
section TWX
variable {own : String} {b : ByteArray} {ret : Option FieldType} {mL : Nat} {nm : String} {d rc rs : Nat} {h : Hp} {pc : Nat} {ls st : List Value}
theorem tw_good : ∀ w ∈ tw_w RX11 238, vx_ot w = true := by decide +kernel
theorem tw_G : ∀ w ∈ (tw_w RX11 238).filter goodWord, w ∈ GW := by decide +kernel
theorem tw_C : ∀ w ∈ (tw_w RX11 238).filter (fun w => !goodWord w), w ∈ thB := by decide +kernel
/-- 'throw new NoSuchElementException(text)' -/
theorem X_throwT {is q : Nat} {text : String} (ho : own = RX11)
    (hstr : (is = 236 ∧ text = "no such set, owner or n") ∨ (is = 251 ∧ text = "no such issue") ∨ (is = 263 ∧ text = "no such owner or what"))
    (d0 : decode b pc = .ok (.new 234, 3)) (d3 : decode b (pc + 3) = .ok (.dup, 1)) (d4 : (decode b (pc + 4) = .ok (.ldc is, 2) ∧ q = pc + 6) ∨ (decode b (pc + 4) = .ok (.ldc_w is, 3) ∧ q = pc + 7))
    (d6 : decode b q = .ok (.invokespecial 238, 3)) (d9 : decode b (q + 3) = .ok (.athrow, 1)) (hd : 6 ≤ d) (hrc : 1 ≤ rc) (hrs : 6 ≤ rs) (hst : st = []) : X (FT h) own b ret mL nm d rc rs h pc ls st := by
  subst hst; subst ho
  intro g p l e R s m args below meth cc H locs LS cells slots C hR hS hL h1 h2
  obtain ⟨c1, c2, c3, c4, c5, c6, c7, c8, hKX, hdR, hlR⟩ := id C
  refine Classical.byCases (p := l.stackTraces = false ∧ noT s args below) (fun hg => ?_) (fun hg T hT S => ⟨_, Steps.refl _, fun z1 z2 => absurd ⟨z1, z2⟩ hg⟩)
  obtain ⟨htr, hnt⟩ := hg
  intro T hT S
  have ht := hnt m meth cc S.frames S.method S.code
  obtain ⟨k1, k2, k3, k4, k5, k6, k7, k8, k9, ka, kb, kc, kd, ke, kf, kg, kh, kj⟩ := id hKX
  have hvk : ∃ sa, vk_R RX11 is text sa s := by
    rcases hstr with ⟨rfl, rfl⟩ | ⟨rfl, rfl⟩ | ⟨rfl, rfl⟩
    · exact ⟨_, ka⟩
    · exact ⟨_, kb⟩
    · exact ⟨_, kc⟩
  obtain ⟨sa, hvk⟩ := hvk
  have hat : ∀ w ∈ tw_w RX11 238, w.before args s = true := vx_hat (B := thB) (fun w hw => c5 w (tw_G w hw)) tw_C (fun w hw => by
    rcases List.mem_cons.mp hw with rfl | hw
    · exact k3 (NSE, NSE) (by simp [CPL])
    · obtain ⟨q, hq, rfl⟩ := List.mem_map.mp hw
      exact kj q hq)
  -- the state as if the method began here
  have htr' : e.platform.stackTraces = false := (show e.platform.stackTraces = l.stackTraces by rw [S.admits.platform]).trans htr
  have Y := vx_rebase S (R' := { frames := R.frames, locals := R.locals, cells := 1, slots := 6 }) (Nat.le_refl _) (Nat.le_refl _) (show cells + 1 ≤ R.cells by omega) (show slots + 6 ≤ R.slots by omega)
  obtain ⟨s', hA⟩ : ∃ z, z = (T.setVm s.vm).setFrames (.invoking m args :: below) := ⟨_, rfl⟩
  rw [← hA] at Y
  have hvm : s'.vm = s.vm := by rw [hA]; rfl
  have hhp : s'.heap = H := by rw [hA]; exact hT
  have hW0 : s.WarmedH s'.vm := by rw [hvm]; exact State.WarmedH.refl s
  have hat' : ∀ w ∈ tw_w RX11 238, w.before args s' = true := fun w hw => vx_ot_at hW0 hvm.symm (tw_good w hw) (hat w hw)
  have hk' : (Cond.classLink RX11 234 NSE).before args s' = true := vx_ot_at hW0 hvm.symm (thw_G _ List.mem_cons_self) (c5 _ thw_w)
  have hini' : (Cond.initialized NSE).before args s' = true := vx_ot_at hW0 hvm.symm (thw_G _ (List.mem_cons_of_mem _ List.mem_cons_self)) (c5 _ thw_i)
  have hU' : vx_Zq Bundle.tN "UNASSIGNED_STACK" Bundle.steD (eA g) s' s'.heap := by rw [hhp]; exact vx_Zq.moved hW0.alike (kg.kept hS.2.1)
  have hN' : vx_Zq Bundle.tN "SUPPRESSED_SENTINEL" Bundle.listD (eA g) s' s'.heap := by rw [hhp]; exact vx_Zq.moved hW0.alike (kh.kept hS.2.1)
  have hall : ∀ w ∈ tw_at RX11 238, w.before args s' = true := vx_own hat' (vx_isRefq hU'.1) (vx_isRefq hN'.1) hU'.2.word hN'.2.word
  have hown' : s'.vm.findClass RX11 = some m.cls := by rw [hvm]; exact c4
  have hins : (Cond.instantiable NSE 6).before args s' = true := tw_in hall (by simp [Bundle.ownAtoms]) (by decide +kernel)
  obtain ⟨vm₁, cX, kX, hfX, hkX, -, -, X₁, st1⟩ := Y.newCold c1 (own := RX11) (C := NSE) (index := 234) (n := 6) hown' hk' hins hini' (g := F0 m pc LS []) rfl (by rw [c2]; exact d0) (Nat.le_refl _) (Nat.le_refl _)
  generalize hT1 : (T.setVm vm₁).pushCell { cls := cX, slots := kX.instanceTypes.map defaultValue, vm := .none } = T1 at X₁ st1
  have hcellA : T1.heap[T.heap.size]? = some (freshCell cX kX) := by rw [← hT1]; exact State.heap_pushCell_size _ _
  have d3' : decode cc.code (pc + 3) = .ok (.dup, 1) := by rw [c2]; exact d3
  have hstr' : vk_R RX11 is text sa s' := vk_R.warm hW0 hvk
  obtain ⟨U, hsteps, hrun, hend, hW, hsame, ce, hce, hv0, hc0⟩ := tw_ctor X₁ c1 htr' hown' hall hfX hkX hcellA (by rw [hhp, hT]; exact Nat.le_refl _) (msg := .ref sa) rfl
    (g := { method := m, pc := q, locals := LS, stack := .ref sa :: .ref T.heap.size :: .ref T.heap.size :: [], locked := none }) rfl (hL.1.trans c3.symm) rfl rfl (rest := []) rfl
    (by rw [c2]; exact d6) (by rw [c2]; exact d9) (fun x hx => absurd (ht x hx) id) (by show 5 < R.frames; omega) (by show 2 * 0 + (1 + 0) + 81 ≤ R.locals; omega) c7
  obtain ⟨f1, f2⟩ := vx_frame hsame
  rw [hhp] at f1 f2
  have f3 : ∀ q : Nat, q < H.size → U.heap[q]? = H[q]? := fun q hq => f2 q hq (fun z hz => nomatch hz)
  have hWs : s.WarmedH U.vm := State.WarmedH.trans hW0 hW
  have hcl : s.vm.findClass NSE = some ce.cls := by rw [hc0, ← hvm]; exact hfX
  have hsm : s.sameButNew ({ U with vm := s.vm } : State) locs R.cells R.slots := by
    subst hA
    obtain ⟨e1, e2⟩ := hsame
    rw [State.setFrames_setFrames] at e1
    have z2 : (T.setVm s.vm).sameButNew ({ U with vm := s.vm } : State) [] (0 + 1) (0 + 6) := ⟨e1, e2⟩
    have z3 := S.same.trans z2
    rw [List.append_nil] at z3
    exact z3.mono (by omega) (by omega)
  refine ⟨U, ?_, fun _ _ => ⟨.threw T.heap.size, hrun, hend, Or.inr ⟨T.heap.size, rfl, NSE, ce, locs, ⟨rfl, ⟨_, Rep.jnk hR f1 f3⟩, ⟨Nat.le_trans hS.1 f1, fun q q1 q2 => by rw [f3 q (Nat.lt_of_lt_of_le q1 hS.1)]; exact hS.2.1 q q1 q2⟩⟩, hce, hv0, hcl, hWs, hsm, hS.2.2⟩⟩⟩
  refine st1 _ ?_
  show Steps p.tables e below (T1.setTop { method := m, pc := pc + 3, locals := LS, stack := [.ref T.heap.size], locked := none }) _
  jvm_step X₁.here [X₁.here.top, c1, d3', Value.category]
  rcases d4 with ⟨d4, rfl⟩ | ⟨d4, rfl⟩
  · exact X₁.ldcString c1 (own := RX11) (text := text) (index := is) (a := sa) hown' hstr'.1 hstr'.2
      (g := { method := m, pc := pc + 4, locals := LS, stack := .ref T.heap.size :: .ref T.heap.size :: [], locked := none }) rfl (by rw [c2]; exact d4) _ hsteps
  · exact X₁.ldcStringW c1 (own := RX11) (text := text) (index := is) (a := sa) hown' hstr'.1 hstr'.2
      (g := { method := m, pc := pc + 4, locals := LS, stack := .ref T.heap.size :: .ref T.heap.size :: [], locked := none }) rfl (by rw [c2]; exact d4) _ hsteps
end TWX
