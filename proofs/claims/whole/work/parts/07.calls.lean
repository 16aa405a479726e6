-- LEVEL 1, part 5: calls, returns, entries
theorem fblind {g : Ev} {as : List Value} {h : Hp} : FrameBlind (PcX g as h) := fun a U gg mk hP => ⟨hP.1, hP.2.1, KX.moved (U := U.calling gg mk a) (State.WarmedH.refl U) (fun _ _ _ => rfl) hP.2.2⟩
section XK
variable {F : Fin9} {own : String} {b : ByteArray} {ret : Option FieldType} {mL : Nat} {nm : String} {d rc rs : Nat} {h : Hp} {pc : Nat} {ls st : List Value}
variable {p : Program} {l : Launch} {e : Env} {R : Room} {s : State} {m : MethodId} {args : Array Value} {below : List Frame} {meth : Method} {cc : Code} {H : Heap} {locs : List Loc} {LS : Array Slot} {cells slots mc ms : Nat} {Qf : State → Prop} {g : Ev} {Q : Option Value → Hp → Prop}
theorem run_go {st0 rest : List Value} {a : Array Value} (hr : va_Run p l e R s m args below meth cc H locs cells slots mc ms (F0 m pc LS st0) rest (QcX g Q a) (eA g)) (hS : va_S (eA g) s.heap H locs)
    (kk : ∀ (r : Option Value) (h' : Hp) (H' : Heap) (locs' : List Loc), Rep g h' H' → Q r h' → va_S (eA g) s.heap H' locs' → W p l e R s m args below meth cc H' locs' (cells + mc) (slots + ms) Qf (F0 m (pc + 3) LS ((r.map (cv g)).toList ++ rest))) :
    W p l e R s m args below meth cc H locs cells slots Qf (F0 m pc LS st0) := by
  intro T hT X
  obtain ⟨v, st₀, t, T', L, e0, X', hL, e1, e2, ⟨⟨r, h', hv, hrep, hq⟩, hz, hk⟩, st⟩ := hr T hT X
  cases hv
  rw [e0] at hz hk
  obtain ⟨t2, a1, b1⟩ := kk r h' T'.heap (locs ++ L) (by rw [e1]; exact hrep) hq
    ⟨Nat.le_trans hS.1 (by rw [e1]; exact hz), fun q h1 h2 => by rw [e1, hk q (Nat.lt_of_lt_of_le h1 hS.1) h2]; exact hS.2.1 q h1 h2, fun q hq => by
      rcases List.mem_append.mp hq with h | h
      · exact hS.2.2 q h
      · exact hL q h⟩ T' rfl X'
  exact ⟨t2, st t2 a1, b1⟩
theorem catsum {g : Ev} (hg : (g.2.2.2.2.2).category = 1) {st : List Value} (hw : st.length ≤ 4) : ((st.map (cv g)).map fun v => v.category).sum ≤ 8 := by
  have h1 : ∀ (st : List Value), ((st.map (cv g)).map fun v => v.category).sum ≤ 2 * st.length := by
    intro st
    induction st with
    | nil => exact Nat.le_refl _
    | cons v st ih =>
      simp only [List.map_cons, List.sum_cons, List.length_cons]
      rcases lv_cat (cv g v) with q | q <;> omega
  have := h1 st
  omega
/-- a link to a method: the words of the call -/
def CV (own : String) (idx : Nat) (y : MethodName) (c : Nat) (b : ByteArray) (mL : Nat) (ret : Option FieldType) (n : Nat) : Prop :=
  Cond.methodLink own idx y ∈ GW ∧ Cond.instanceMethod y ∈ GW ∧ Cond.selects y.cls y y ∈ GW ∧ Cond.initialized y.cls ∈ GW ∧ Cond.code y b mL ret ∈ GW ∧ y.cls ≠ "java/lang/invoke/MethodHandle" ∧ y.cls ≠ "java/lang/invoke/VarHandle" ∧
  (parseMethodDescriptor y.desc).map (fun d => d.parameters.length) = some n ∧ (∃ T N ty, CB c y.cls T N ty) ∧ mL ≤ 26
def CT (own : String) (idx : Nat) (y : MethodName) (b : ByteArray) (mL : Nat) (ret : Option FieldType) (n : Nat) : Prop :=
  Cond.methodLink own idx y ∈ GW ∧ Cond.static y ∈ GW ∧ Cond.initialized y.cls ∈ GW ∧ Cond.code y b mL ret ∈ GW ∧ y.cls ≠ "java/lang/invoke/MethodHandle" ∧ y.cls ≠ "java/lang/invoke/VarHandle" ∧
  (parseMethodDescriptor y.desc).map (fun d => d.parameters.length) = some n ∧ mL ≤ 26
/-- a constructor: by a link that all may follow, or by a nest mate's -/
def CN (own : String) (idx : Nat) (y : MethodName) (b : ByteArray) (mL n : Nat) : Prop :=
  (Cond.methodLink own idx y ∈ GW ∨ ∃ host, (own, idx, y, host) ∈ NWL) ∧ Cond.instanceMethod y ∈ GW ∧ Cond.initialized y.cls ∈ GW ∧ Cond.code y b mL none ∈ GW ∧ y.cls ≠ "java/lang/invoke/MethodHandle" ∧ y.cls ≠ "java/lang/invoke/VarHandle" ∧
  (parseMethodDescriptor y.desc).map (fun d => d.parameters.length) = some n ∧ y.name = "<init>" ∧ mL ≤ 26
theorem wsX_in {y : MethodName} {b : ByteArray} {mL : Nat} {ret : Option FieldType} (hc : Cond.code y b mL ret ∈ GW) : GoodIn GW (wsX y b mL ret) := by
  intro w hw
  rcases List.mem_cons.mp hw with rfl | hw
  · exact ⟨hc, good_of_word (gw_good hc)⟩
  · exact ⟨hw, good_of_word (gw_good hw)⟩
theorem app_in {a c : List Cond} (h1 : ∀ w ∈ a, w ∈ GW) (h2 : GoodIn GW c) : GoodIn GW (a ++ c) := fun w hw => (List.mem_append.mp hw).elim (fun h => ⟨h1 w h, good_of_word (gw_good (h1 w h))⟩) (h2 w)
theorem X_callV (q : Nat) {idx : Nat} {y : MethodName} {b' : ByteArray} {ret' : Option FieldType} {mL' d' rc' rs' n a c : Nat} {as : List Value} {Q' : Option Value → Hp → Prop}
    (hcl : CV own idx y c b' mL' ret' n) (hM : MX y b' ret' mL' d' rc' rs' (.ref a :: as) h Q') (ho : OB h.1 a c) (hn : as.length = n) (hd' : d' + 1 ≤ d) (hrc : rc' ≤ rc) (hrs : rs' ≤ rs) (hw : st.length ≤ 4)
    (hd : decode b pc = .ok (.invokevirtual idx, 3)) (hp : pc + 3 = q) {st1 : List Value} (hst : as.reverse ++ .ref a :: st = st1)
    (k : ∀ (r : Option Value) (h' : Hp), Q' r h' → X F own b ret mL nm d (rc - rc') (rs - rs') h' q ls (r.toList ++ st)) : X F own b ret mL nm d rc rs h pc ls st1 := by
  subst hp; subst hst
  intro g p l e R s m args below meth cc H locs LS cells slots C hR hS hL h1 h2
  obtain ⟨w1, w2, w3, w4, w5, w6, w7, w8, ⟨T, N, ty, hC⟩, w9⟩ := hcl
  obtain ⟨-, -, -, -, -, -, -, -, hKX, hdR, hlR⟩ := id C
  have hK := hKX.1
  have hP := Rep.one hR (a := a) ho.1 (tagO ho)
  rw [cellE_ob ho hC.2.2.2.2.2.1] at hP
  have hrun : va_Run p l e R s m args below meth cc H locs cells slots rc' rs' (F0 m pc LS ((as.map (cv g)).reverse ++ .ref (g.1 + a) :: st.map (cv g))) (st.map (cv g)) (QcX g Q' (Value.ref (g.1 + a) :: as.map (cv g)).toArray) (eA g) := va_runV (As := as.map (cv g)) (rest := st.map (cv g)) (g := F0 m pc LS ((as.map (cv g)).reverse ++ .ref (g.1 + a) :: st.map (cv g))) ⟨C.1, C.2.1, C.2.2.1, C.2.2.2.1, C.2.2.2.2.1⟩ (hM l g)
    (cwV n C.2.2.2.2.1 (app_in (by intro w hw; simp only [List.mem_cons, List.not_mem_nil, or_false] at hw; rcases hw with rfl | rfl | rfl | rfl <;> assumption) (wsX_in w5)) rfl rfl rfl ⟨rfl, w6, w7, w8⟩ ⟨by show d' + 1 ≤ R.frames; omega, by show 8 + (mL' + 11) + 45 * d' ≤ R.locals; omega⟩)
    ⟨fblind, va_recv (q0 := 0) hK hP hC.1 rfl, fun U hU hW => ⟨rfl, by rw [hU]; exact hR, KX.moved hW (fun z h5 h6 => by rw [hU]; exact hS.2.1 z h5 h6) hKX⟩⟩ rfl (by rw [List.length_map]; exact hn) hL.1 rfl (lv_room (catsum (KX.sio hKX) hw)) hd ⟨by omega, by omega⟩
  have hgo := run_go (Qf := F g l s args below R) hrun hS (fun r h' H' locs' hR' hq hS' => by
    have kk := k r h' hq g p l e R s m args below meth cc H' locs' LS (cells + rc') (slots + rs') C hR' hS' hL (by omega) (by omega)
    rw [List.map_append] at kk
    cases r <;> exact kk)
  have est : (as.reverse ++ Value.ref a :: st).map (cv g) = (as.map (cv g)).reverse ++ .ref (g.1 + a) :: st.map (cv g) := by
    rw [List.map_append, List.map_reverse]; rfl
  rw [est]
  exact hgo
theorem X_callS (q : Nat) {idx : Nat} {y : MethodName} {b' : ByteArray} {ret' : Option FieldType} {mL' d' rc' rs' n : Nat} {as : List Value} {Q' : Option Value → Hp → Prop}
    (hcl : CT own idx y b' mL' ret' n) (hM : MX y b' ret' mL' d' rc' rs' as h Q') (hn : as.length = n) (hd' : d' + 1 ≤ d) (hrc : rc' ≤ rc) (hrs : rs' ≤ rs) (hw : st.length ≤ 4)
    (hd : decode b pc = .ok (.invokestatic idx, 3)) (hp : pc + 3 = q) {st1 : List Value} (hst : as.reverse ++ st = st1)
    (k : ∀ (r : Option Value) (h' : Hp), Q' r h' → X F own b ret mL nm d (rc - rc') (rs - rs') h' q ls (r.toList ++ st)) : X F own b ret mL nm d rc rs h pc ls st1 := by
  subst hp; subst hst
  intro g p l e R s m args below meth cc H locs LS cells slots C hR hS hL h1 h2
  obtain ⟨w1, w2, w4, w5, w6, w7, w8, w9⟩ := hcl
  obtain ⟨-, -, -, -, -, -, -, -, hKX, hdR, hlR⟩ := id C
  have hrun : va_Run p l e R s m args below meth cc H locs cells slots rc' rs' (F0 m pc LS ((as.map (cv g)).reverse ++ st.map (cv g))) (st.map (cv g)) (QcX g Q' (as.map (cv g)).toArray) (eA g) := va_runS (As := as.map (cv g)) (rest := st.map (cv g)) (g := F0 m pc LS ((as.map (cv g)).reverse ++ st.map (cv g))) ⟨C.1, C.2.1, C.2.2.1, C.2.2.2.1, C.2.2.2.2.1⟩ (hM l g)
    (va_cwS n C.2.2.2.2.1 (app_in (by intro w hw; simp only [List.mem_cons, List.not_mem_nil, or_false] at hw; rcases hw with rfl | rfl | rfl <;> assumption) (wsX_in w5)) rfl rfl rfl ⟨w6, w7, w8⟩ ⟨by show d' + 1 ≤ R.frames; omega, by show 8 + (mL' + 11) + 45 * d' ≤ R.locals; omega⟩)
    ⟨fblind, fun U hU hW => ⟨rfl, by rw [hU]; exact hR, KX.moved hW (fun z h5 h6 => by rw [hU]; exact hS.2.1 z h5 h6) hKX⟩⟩ rfl (by rw [List.length_map]; exact hn) hL.1 rfl (lv_room (catsum (KX.sio hKX) hw)) hd ⟨by omega, by omega⟩
  have hgo := run_go (Qf := F g l s args below R) hrun hS (fun r h' H' locs' hR' hq hS' => by
    have kk := k r h' hq g p l e R s m args below meth cc H' locs' LS (cells + rc') (slots + rs') C hR' hS' hL (by omega) (by omega)
    rw [List.map_append] at kk
    cases r <;> exact kk)
  have est : (as.reverse ++ st).map (cv g) = (as.map (cv g)).reverse ++ st.map (cv g) := by
    rw [List.map_append, List.map_reverse]
  rw [est]
  exact hgo
theorem X_callI (q : Nat) {idx : Nat} {y : MethodName} {b' : ByteArray} {mL' d' rc' rs' n a : Nat} {as : List Value} {Q' : Option Value → Hp → Prop}
    (hcl : CN own idx y b' mL' n) (hM : MX y b' none mL' d' rc' rs' (.ref a :: as) h Q') (hn : as.length = n) (hd' : d' + 1 ≤ d) (hrc : rc' ≤ rc) (hrs : rs' ≤ rs) (hw : st.length ≤ 4)
    (hd : decode b pc = .ok (.invokespecial idx, 3)) (hp : pc + 3 = q) {st1 : List Value} (hst : as.reverse ++ .ref a :: st = st1)
    (k : ∀ (r : Option Value) (h' : Hp), Q' r h' → X F own b ret mL nm d (rc - rc') (rs - rs') h' q ls (r.toList ++ st)) : X F own b ret mL nm d rc rs h pc ls st1 := by
  subst hp; subst hst
  intro g p l e R s m args below meth cc H locs LS cells slots C hR hS hL h1 h2
  obtain ⟨w1, w2, w4, w5, w6, w7, w8, w10, w9⟩ := hcl
  obtain ⟨-, -, -, -, -, -, -, -, hKX, hdR, hlR⟩ := id C
  have hts := C.2.2.2.2.1
  have hPre : PreS s H (PcX g (.ref a :: as) h) (.ref (g.1 + a) :: as.map (cv g)) := ⟨fblind, fun U hU hW => ⟨rfl, by rw [hU]; exact hR, KX.moved hW (fun z h5 h6 => by rw [hU]; exact hS.2.1 z h5 h6) hKX⟩⟩
  have hrun : va_Run p l e R s m args below meth cc H locs cells slots rc' rs' (F0 m pc LS ((as.map (cv g)).reverse ++ .ref (g.1 + a) :: st.map (cv g))) (st.map (cv g)) (QcX g Q' (Value.ref (g.1 + a) :: as.map (cv g)).toArray) (eA g) := by
    rcases w1 with w1 | ⟨host, w1⟩
    · exact va_runI (As := as.map (cv g)) (rest := st.map (cv g)) (g := F0 m pc LS ((as.map (cv g)).reverse ++ .ref (g.1 + a) :: st.map (cv g))) ⟨C.1, C.2.1, C.2.2.1, C.2.2.2.1, hts⟩ (hM l g)
        (cwI n hts (wsX_in w5) rfl rfl rfl (hts _ w4) (hts _ w1) (hts _ w2) w10 ⟨w6, w7, w8⟩ ⟨by show d' + 1 ≤ R.frames; omega, by show 8 + (mL' + 11) + 45 * d' ≤ R.locals; omega⟩)
        hPre rfl (by rw [List.length_map]; exact hn) hL.1 rfl (lv_room (catsum (KX.sio hKX) hw)) hd ⟨by omega, by omega⟩
    · exact va_runIN (As := as.map (cv g)) (rest := st.map (cv g)) (g := F0 m pc LS ((as.map (cv g)).reverse ++ .ref (g.1 + a) :: st.map (cv g))) ⟨C.1, C.2.1, C.2.2.1, C.2.2.2.1, hts⟩ (hM l g)
        ⟨va_cnB n hts (wsX_in w5) rfl rfl rfl (hKX.2.1 _ w1) (hts _ w4) ⟨w6, w7, w8⟩ ⟨by show d' + 1 ≤ R.frames; omega, by show 8 + (mL' + 11) + 45 * d' ≤ R.locals; omega⟩, w10, hts _ w2⟩
        hPre rfl (by rw [List.length_map]; exact hn) hL.1 rfl (lv_room (catsum (KX.sio hKX) hw)) hd ⟨by omega, by omega⟩
  have hgo := run_go (Qf := F g l s args below R) hrun hS (fun r h' H' locs' hR' hq hS' => by
    have kk := k r h' hq g p l e R s m args below meth cc H' locs' LS (cells + rc') (slots + rs') C hR' hS' hL (by omega) (by omega)
    rw [List.map_append] at kk
    cases r <;> exact kk)
  have est : (as.reverse ++ Value.ref a :: st).map (cv g) = (as.map (cv g)).reverse ++ .ref (g.1 + a) :: st.map (cv g) := by
    rw [List.map_append, List.map_reverse]; rfl
  rw [est]
  exact hgo
/-- Object.<init> -/
theorem X_objInit (q : Nat) {idx a : Nat} (hw : Cond.methodLink own idx Lib.objectInit ∈ GW) (hi : Cond.instanceMethod Lib.objectInit ∈ GW) (hc : Cond.code Lib.objectInit ⟨#[0xb1]⟩ 1 none ∈ GW) (hd1 : 1 ≤ d) (hs : st.length ≤ 4)
    (hd : decode b pc = .ok (.invokespecial idx, 3)) (hp : pc + 3 = q) (k : X F own b ret mL nm d rc rs h q ls st) : X F own b ret mL nm d rc rs h pc ls (.ref a :: st) := by
  subst hp
  intro g p l e R s m args below meth cc H locs LS cells slots C hR hS hL h1 h2
  obtain ⟨-, -, -, -, hts, -, -, -, hKX, hdR, hlR⟩ := id C
  have := catsum (KX.sio hKX) hs
  have h9 : 2 * (F0 m pc LS ((Value.ref a :: st).map (cv g))).monitorRoom + ((st.map (cv g)).map fun v => v.category).sum ≤ 8 := lv_room this
  exact W.objInit C.1 C.2.1 C.2.2.2.1 (hts _ hw) (hts _ hi) (hts _ hc) rfl (by rw [C.2.2.1]; exact hL.1) rfl hd (by omega) (by omega) (k g p l e R s m args below meth cc H locs LS cells slots C hR hS hL h1 h2)
theorem X_mmax (q : Nat) {idx : Nat} {x y : Int32} (hw : Cond.methodLink own idx Lib.Math.max.name ∈ GW) (h2 : Cond.static Lib.Math.max.name ∈ GW) (h3 : Cond.initialized "java/lang/Math" ∈ GW) (h4 : Cond.code Lib.Math.max.name Lib.Math.max.code 2 (some .int) ∈ GW) (hd1 : 1 ≤ d) (hs : st.length ≤ 4)
    (hd : decode b pc = .ok (.invokestatic idx, 3)) (hp : pc + 3 = q) (k : X F own b ret mL nm d rc rs h q ls (.int (if x < y then y else x) :: st)) : X F own b ret mL nm d rc rs h pc ls (.int y :: .int x :: st) := by
  subst hp
  intro g p l e R s m args below meth cc H locs LS cells slots C hR hS hL z1 z2
  obtain ⟨-, -, -, -, hts, -, -, -, hKX, hdR, hlR⟩ := id C
  have := catsum (KX.sio hKX) hs
  exact va_mmax C.1 C.2.1 (by rw [C.2.2.1]; exact hL.1.symm) C.2.2.2.1 (hts _ hw) (hts _ h2) (hts _ h3) (hts _ h4) (by omega) (by omega) (by omega) (by omega) hd (k g p l e R s m args below meth cc H locs LS cells slots C hR hS hL z1 z2)
theorem X_mmin (q : Nat) {idx : Nat} {x y : Int32} (hw : Cond.methodLink own idx Lib.Math.min.name ∈ GW) (h2 : Cond.static Lib.Math.min.name ∈ GW) (h3 : Cond.initialized "java/lang/Math" ∈ GW) (h4 : Cond.code Lib.Math.min.name Lib.Math.min.code 2 (some .int) ∈ GW) (hd1 : 1 ≤ d) (hs : st.length ≤ 4)
    (hd : decode b pc = .ok (.invokestatic idx, 3)) (hp : pc + 3 = q) (k : X F own b ret mL nm d rc rs h q ls (.int (if y < x then y else x) :: st)) : X F own b ret mL nm d rc rs h pc ls (.int y :: .int x :: st) := by
  subst hp
  intro g p l e R s m args below meth cc H locs LS cells slots C hR hS hL z1 z2
  obtain ⟨-, -, -, -, hts, -, -, -, hKX, hdR, hlR⟩ := id C
  have := catsum (KX.sio hKX) hs
  exact va_mmin C.1 C.2.1 (by rw [C.2.2.1]; exact hL.1.symm) C.2.2.2.1 (hts _ hw) (hts _ h2) (hts _ h3) (hts _ h4) (by omega) (by omega) (by omega) (by omega) hd (k g p l e R s m args below meth cc H locs LS cells slots C hR hS hL z1 z2)
-- returns of a method
theorem X_ret {v : Int32} {ty : FieldType} (hr : ret = some ty) (hn : narrow ty (.int v) = .int v) (hd : decode b pc = .ok (.ireturn, 1)) (hq : Q (some (.int v)) h) : X (FM Q) own b ret mL nm d rc rs h pc ls [.int v] := by
  intro g p l e R s m args below meth cc H locs LS cells slots C hR hS hL z1 z2
  refine W.widen (k := R.cells) (n := R.slots) (by omega) (by omega) ?_
  exact W.zret C.1 C.2.1 (C.2.2.2.2.2.1.trans hr) hn (fun t ht hW => ⟨⟨some (.int v), h, rfl, by rw [ht]; exact hR, hq⟩, hS.F ht⟩) hS.2.2 hd C.2.2.2.2.2.2.1
theorem X_retV (hr : ret = none) (hd : decode b pc = .ok (.return_, 1)) (hq : Q none h) : X (FM Q) own b ret mL nm d rc rs h pc ls [] := by
  intro g p l e R s m args below meth cc H locs LS cells slots C hR hS hL z1 z2
  refine W.widen (k := R.cells) (n := R.slots) (by omega) (by omega) ?_
  exact W.vret C.1 C.2.1 (C.2.2.2.2.2.1.trans hr) (fun t ht hW => ⟨⟨none, h, rfl, by rw [ht]; exact hR, hq⟩, hS.F ht⟩) hS.2.2 hd C.2.2.2.2.2.2.1
theorem X_retA {o : Option Nat} {ty : FieldType} (hr : ret = some ty) (hty : (∃ n, ty = .object n) ∨ ∃ t, ty = .array t) (hd : decode b pc = .ok (.areturn, 1)) (hq : Q (some (va_rf o)) h) : X (FM Q) own b ret mL nm d rc rs h pc ls [va_rf o] := by
  intro g p l e R s m args below meth cc H locs LS cells slots C hR hS hL z1 z2
  refine W.widen (k := R.cells) (n := R.slots) (by omega) (by omega) ?_
  exact W.aret C.1 C.2.1 (C.2.2.2.2.2.1.trans hr) hty (by rw [cv_rf]; cases oad g o with | none => exact Or.inl rfl | some x => exact Or.inr ⟨x, rfl⟩) (fun t ht hW => ⟨⟨some (va_rf o), h, rfl, by rw [ht]; exact hR, hq⟩, hS.F ht⟩) hS.2.2 hd C.2.2.2.2.2.2.1
end XK
theorem lgsl_len {g : Ev} (hg : (g.2.2.2.2.2).category = 1) : ∀ vs : List Value, (lg_sl (vs.map (cv g))).length = (entL vs).length := by
  intro vs
  induction vs with
  | nil => rfl
  | cons v vs ih =>
    show (List.length ((if (cv g v).category = 2 then [Slot.val (cv g v), .second] else [.val (cv g v)]) ++ lg_sl (vs.map (cv g)))) = _
    rw [cv_cat' hg]
    unfold entL
    by_cases hc : v.category = 2
    · rw [if_pos hc, if_pos hc]; simp [ih]
    · rw [if_neg hc, if_neg hc]; simp [ih]
/-- a method out of a walk of its body -/
theorem MX_of {y : MethodName} {b : ByteArray} {ret : Option FieldType} {mL d rc rs : Nat} {as : List Value} {h : Hp} {Q : Option Value → Hp → Prop} (hy : plainName y.cls = true) (ls : List Value) (hls : entL as ++ List.replicate (mL - (entL as).length) junk = ls) (hlen : (entL as).length ≤ mL)
    (k : X (FM Q) y.cls b ret mL y.name d rc rs h 0 ls []) : MX y b ret mL d rc rs as h Q := by
  subst hls
  intro l g
  refine Met.ofW (cc := b) (maxL := mL) (ret := ret) hy rfl ?_
  intro p e s m args below meth cc s₁ B hml hv
  obtain ⟨rfl, hR, hKX⟩ := hv
  have hts := atoms_spec (ws := wsX y b mL ret) B.pre
  have hg := KX.sio hKX
  have hlen2 : (lg_sl (as.map (cv g))).length ≤ mL := by rw [lgsl_len hg]; exact hlen
  have hl := lv_entry (as.map (cv g)) hlen2
  rw [lg_entry_eq]
  generalize (lg_sl (as.map (cv g)) ++ List.replicate (mL - (lg_sl (as.map (cv g))).length) Slot.unset).toArray = LS at hl ⊢
  have hL : LRl g mL (entL as ++ List.replicate (mL - (entL as).length) junk) LS := by
    refine ⟨hl.1, hl.2.1, by rw [List.length_append, List.length_replicate]; omega, fun i v hi hv => ?_⟩
    by_cases hlt : i < (entL as).length
    · rw [List.getElem?_append_left hlt] at hi
      have := ent_args hg as 0 i v hi hv
      rw [Nat.zero_add] at this
      exact hl.2.2 _ this
    · rw [List.getElem?_append_right (by omega)] at hi
      have := List.mem_of_getElem? hi
      exact absurd (List.eq_of_mem_replicate this) hv
  have C : XC g y.cls b ret mL y.name d p (headSpec (wsX y b mL ret) (rmX d rc rs)).room s m (as.map (cv g)).toArray meth cc :=
    ⟨B.exec, B.bytes, hml, findClass_of_methodNamed B.named, fun w hw => hts w (List.mem_cons_of_mem _ hw), B.returns, B.notSynchronized, (name_of_methodNamed B.named B.method).1, hKX, Nat.le_refl _, Nat.le_refl _⟩
  exact k g p l e _ s m _ below meth cc s.heap [] LS 0 0 C hR va_S.rf hL (by show 0 + rc ≤ rc; omega) (by show 0 + rs ≤ rs; omega)
