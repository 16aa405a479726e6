-- LEVEL 1, part 7: a static call of a method with a table, in a walk that speaks of launches without stack traces only
def FN (F : Fin9) : Fin9 := fun g l s args below R t => l.stackTraces = false → F g l s args below R t
def CTH (own : String) (idx : Nat) (y : MethodName) (b : ByteArray) (mL : Nat) (ret : Option FieldType) (hh : List (Nat × Nat × Nat × Nat)) (n : Nat) : Prop :=
  Cond.methodLink own idx y ∈ GW ∧ Cond.static y ∈ GW ∧ Cond.initialized y.cls ∈ GW ∧ Cond.codeWith y b mL ret hh ∈ GW ∧ y.cls ≠ "java/lang/invoke/MethodHandle" ∧ y.cls ≠ "java/lang/invoke/VarHandle" ∧
  (parseMethodDescriptor y.desc).map (fun d => d.parameters.length) = some n ∧ mL ≤ 26
theorem wsH_in {y : MethodName} {b : ByteArray} {mL : Nat} {ret : Option FieldType} {hh : List (Nat × Nat × Nat × Nat)} (hc : Cond.codeWith y b mL ret hh ∈ GW) : GoodIn GW (wsH y b mL ret hh) := by
  intro w hw
  rcases List.mem_cons.mp hw with rfl | hw
  · exact ⟨hc, good_of_word (gw_good hc)⟩
  · exact ⟨hw, good_of_word (gw_good hw)⟩
section XSH
variable {F : Fin9} {own : String} {b : ByteArray} {ret : Option FieldType} {mL : Nat} {nm : String} {d rc rs : Nat} {h : Hp} {pc : Nat} {ls st : List Value}
theorem X_callSH (q : Nat) {idx : Nat} {y : MethodName} {b' : ByteArray} {ret' : Option FieldType} {mL' d' rc' rs' n : Nat} {hh : List (Nat × Nat × Nat × Nat)} {as : List Value} {Q' : Option Value → Hp → Prop}
    (hcl : CTH own idx y b' mL' ret' hh n) (hM : MXH y b' ret' mL' hh d' rc' rs' as h Q') (hn : as.length = n) (hd' : d' + 1 ≤ d) (hrc : rc' ≤ rc) (hrs : rs' ≤ rs) (hw : st.length ≤ 4)
    (hd : decode b pc = .ok (.invokestatic idx, 3)) (hp : pc + 3 = q) {st1 : List Value} (hst : as.reverse ++ st = st1)
    (k : ∀ (r : Option Value) (h' : Hp), Q' r h' → X (FN F) own b ret mL nm d (rc - rc') (rs - rs') h' q ls (r.toList ++ st)) : X (FN F) own b ret mL nm d rc rs h pc ls st1 := by
  subst hp; subst hst
  intro g p l e R s m args below meth cc H locs LS cells slots C hR hS hL h1 h2
  by_cases htr : l.stackTraces = false
  · obtain ⟨w1, w2, w4, w5, w6, w7, w8, w9⟩ := hcl
    obtain ⟨-, -, -, -, -, -, -, -, hKX, hdR, hlR⟩ := id C
    have hrun : va_Run p l e R s m args below meth cc H locs cells slots rc' rs' (F0 m pc LS ((as.map (cv g)).reverse ++ st.map (cv g))) (st.map (cv g)) (QcX g Q' (as.map (cv g)).toArray) (eA g) := vx_runSW (hh := hh) (As := as.map (cv g)) (rest := st.map (cv g)) (g := F0 m pc LS ((as.map (cv g)).reverse ++ st.map (cv g))) ⟨C.1, C.2.1, C.2.2.1, C.2.2.2.1, C.2.2.2.2.1⟩ (hM l g htr)
      (vx_cwSW n C.2.2.2.2.1 (app_in (by intro w hw; simp only [List.mem_cons, List.not_mem_nil, or_false] at hw; rcases hw with rfl | rfl | rfl <;> assumption) (wsH_in w5)) rfl rfl rfl ⟨w6, w7, w8⟩ ⟨by show d' + 1 ≤ R.frames; omega, by show 8 + (mL' + 11) + 45 * d' ≤ R.locals; omega⟩)
      ⟨fblind, fun U hU hW => ⟨rfl, by rw [hU]; exact hR, KX.moved hW (fun z h5 h6 => by rw [hU]; exact hS.2.1 z h5 h6) hKX⟩⟩ rfl (by rw [List.length_map]; exact hn) hL.1 rfl (lv_room (catsum (KX.sio hKX) hw)) hd ⟨by omega, by omega⟩
    have hgo := run_go (Qf := FN F g l s args below R) hrun hS (fun r h' H' locs' hR' hq hS' => by
      have kk := k r h' hq g p l e R s m args below meth cc H' locs' LS (cells + rc') (slots + rs') C hR' hS' hL (by omega) (by omega)
      rw [List.map_append] at kk
      cases r <;> exact kk)
    have est : (as.reverse ++ st).map (cv g) = (as.map (cv g)).reverse ++ st.map (cv g) := by
      rw [List.map_append, List.map_reverse]
    rw [est]
    exact hgo
  · intro T hT S
    exact ⟨_, Steps.refl _, fun z => absurd z htr⟩
end XSH
-- what vx_throwS asks of words, at the three throwing places
theorem thw_w : Cond.classLink RX11 234 NSE ∈ GW := by decide +kernel
theorem thw_i : Cond.initialized NSE ∈ GW := by decide +kernel
theorem thw_G : ∀ w ∈ Cond.classLink RX11 234 NSE :: Cond.initialized NSE :: vx_atS RX11 238 NSE nmN, vx_ot w = true := by decide +kernel
theorem thw_C : ∀ w ∈ (vx_atS RX11 238 NSE nmN).filter (fun w => !goodWord w), w ∈ thB := by decide +kernel
