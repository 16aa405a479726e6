-- LEVEL 3, part 69: the two objects as they are made stand side by side
def RFs : List (Nat × Nat × Nat) := mR ++ cR
def IFs : List (Nat × Nat × Int32) := nR 24 ++ (mI ++ (wI 36 ++ wI 1))
def PFs : List (Nat × Nat × Nat) := wP 36 ++ wP 1
def S0 : SS := fun f i => if f = 94 ∧ i = 0 then 2 else if f = 97 ∧ i = 0 then 20 else if f = 98 ∧ i = 0 then 100 else 0
def X0 : WS := (S0, (0, 0), (0, 0), none, none)
theorem S0_z {f i : Nat} (h : f ≠ 94 ∧ f ≠ 97 ∧ f ≠ 98) : S0 f i = 0 := by
  unfold S0
  rw [if_neg (fun q => h.1 q.1), if_neg (fun q => h.2.1 q.1), if_neg (fun q => h.2.2 q.1)]
theorem S0_i {f i : Nat} (h : i ≠ 0) : S0 f i = 0 := by
  unfold S0
  rw [if_neg (fun q => h q.2), if_neg (fun q => h q.2), if_neg (fun q => h q.2)]
theorem tab_R : ∀ a, a < 159 → ∀ j, j < (RRl.getD a []).length → RRf a j = none ∨ aP RFs a j = RRf a j := by decide +kernel
theorem LY_F : LY (Lc 159 RFs) := by
  refine ⟨Nat.le_refl _, fun a ha => if_pos ha, fun a ha j x e => ?_⟩
  by_cases c : j < (RRl.getD a []).length
  · rcases tab_R a ha j c with q | q
    · rw [q] at e; cases e
    · exact q.trans e
  · unfold RRf at e
    rw [List.getD_eq_getElem?_getD, List.getElem?_eq_none (Nat.not_lt.mp c)] at e
    cases e
theorem tab_C : ∀ f, f < 130 → ∀ i, i < rg f → f ≠ 109 → aI IFs (cA 1 f i) (cB f i) = S0 f i := by decide +kernel
theorem tab_T : ∀ f, f < 130 → ∀ i, i < rg f → aI IFs (cA 36 f i) (cB f i) = S0 f i := by decide +kernel
theorem tab_M : ∀ f, f < 130 → ∀ i, i < rg f → (f ≠ 109 ∧ f ≠ 117 ∧ f ≠ 118 ∧ f ≠ 119) → aI IFs (mA f) (mO 0 f + i) = S0 f i := by decide +kernel
theorem rg_S0 {f i : Nat} (h : ¬ i < rg f) : S0 f i = 0 := by
  by_cases c : f = 94 ∨ f = 97 ∨ f = 98
  · by_cases d : i = 0
    · rcases c with rfl | rfl | rfl <;> exact absurd (by rw [d]; decide) h
    · exact S0_i d
  · exact S0_z (by omega)
section FST
variable {M : Mem}
theorem vC0 (e : M = Mc IFs PFs) : vwC 1 M = S0 := by
  subst e
  funext f i
  rw [vwC_def]
  by_cases c : f = 109
  · rw [if_pos c, if_neg (fun q => q.2 (show aP PFs 1 11 = none from by decide +kernel)), S0_z (by omega)]
  · rw [if_neg c]
    by_cases d : i < rg f
    · rw [if_pos d]; exact tab_C f (kd_lt (rg_kd d)) i d c
    · rw [if_neg d, rg_S0 d]
theorem vM0 (e : M = Mc IFs PFs) : vwM 0 M = S0 := by
  subst e
  have t0 : tn (mi (Mc IFs PFs) 93 0) = 0 := by decide +kernel
  funext f i
  rw [vwM_def, t0]
  by_cases c : f = 109
  · rw [if_pos c, if_neg (fun q => q.2 (by decide +kernel)), S0_z (by omega)]
  by_cases c2 : f = 117
  · rw [if_neg c, if_pos c2, if_neg (fun q => q.2 rfl), S0_z (by omega)]
  by_cases c3 : f = 118
  · rw [if_neg c, if_neg c2, if_pos c3, if_neg (fun q => q.2 rfl), S0_z (by omega)]
  by_cases c4 : f = 119
  · rw [if_neg c, if_neg c2, if_neg c3, if_pos c4, S0_z (by omega)]
    by_cases d : i = 0
    · rw [if_pos d]; rfl
    · rw [if_neg d]
  rw [if_neg c, if_neg c2, if_neg c3, if_neg c4]
  by_cases d : i < rg f
  · rw [if_pos d]; exact tab_M f (kd_lt (rg_kd d)) i d ⟨c, c2, c3, c4⟩
  · rw [if_neg d, rg_S0 d]
theorem gd0 : gdT 0 S0 := by
  have z : ∀ f i, f ≠ 94 ∧ f ≠ 97 ∧ f ≠ 98 → S0 f i = 0 := fun f i h => S0_z h
  refine ⟨by decide +kernel, by decide +kernel, by decide +kernel, by decide +kernel, by decide +kernel, by decide +kernel, by decide +kernel, by decide +kernel, by decide +kernel, Or.inr (by decide +kernel), fun k hk => ?_, fun o ho => ?_⟩
  · unfold shG
    rw [z 113 k (by decide), z 125 k (by decide), z 115 k (by decide)]
    exact ⟨by decide +kernel, by decide +kernel, by decide +kernel, by decide +kernel, by decide +kernel, by decide +kernel, fun i hi => absurd hi (by rw [show tn (0 : Int32) = 0 from by decide +kernel]; omega)⟩
  · rw [z 120 o (by decide), z 121 o (by decide), z 111 o (by decide)]
    exact ⟨by decide +kernel, by decide +kernel, Or.inl rfl⟩
theorem no_I {a : Nat} (h : (IFs.all (fun e => !(e.1 == a))) = true) : ∀ k, aI IFs a k = 0 := fun k => aI_no (fun e he q => by
  have := List.all_eq_true.mp h e he
  rw [q] at this
  simp at this)
theorem RX_F {L : Lay} (eL : L = Lc 159 RFs) (e : M = Mc IFs PFs) : RX L M 0 X0 := by
  have hv := vC0 e
  have hm := vM0 e
  subst eL; subst e
  have I : ∀ a, (IFs.all (fun e => !(e.1 == a))) = true → ∀ k, mi (Mc IFs PFs) a k = 0 := fun a h k => no_I h k
  have n0 : tn (S0 28 0) = 0 := by decide +kernel
  have k0 : tn (S0 34 0) = 0 := by decide +kernel
  have law : lawC (Lc 159 RFs) (Mc IFs PFs) (some 5) (0, 0) := ⟨5, rfl, ⟨by decide, rfl⟩, Or.inl rfl, by decide +kernel, by decide +kernel⟩
  have c9 : mp (Mc IFs PFs) 1 9 = some 5 := by decide +kernel
  have c10 : mp (Mc IFs PFs) 1 10 = some 5 := by decide +kernel
  have c11 : mp (Mc IFs PFs) 1 11 = none := by decide +kernel
  have c12 : mp (Mc IFs PFs) 1 12 = none := by decide +kernel
  refine ⟨⟨by decide, ⟨hv, ?_, ?_, Or.inl ⟨c11, rfl⟩, Or.inl ⟨c12, rfl⟩, fun i _ hi => ?_⟩, ⟨hm, ?_, ?_, ⟨0, by decide, rfl⟩, ⟨0, by decide, rfl⟩, ?_, Or.inl ⟨by decide +kernel, rfl⟩, Or.inl ⟨by decide +kernel, rfl⟩, fun d _ => Or.inl ?_, fun j i _ _ _ => ⟨?_, ?_⟩, fun i _ _ => ?_⟩, ⟨gd0, by decide +kernel, fun i => ?_⟩, fun f i h => ?_, fun f i h hi => ?_, by decide +kernel, Or.inl (by decide +kernel), fun k _ => ?_, ⟨fun P (q : none = some P) => (by cases q), fun P (q : none = some P) => (by cases q)⟩⟩,
    ⟨0, by decide, by decide +kernel, by decide +kernel, fun d hd => absurd hd (by omega), fun d _ _ => ?_⟩, ⟨0, by decide, by decide +kernel, by decide +kernel, fun i hi => absurd hi (by omega)⟩, ⟨fun k _ => ⟨?_, ?_, ?_, Or.inl ?_⟩, fun m hm => Or.inl ⟨?_, ?_⟩⟩, ⟨0, by decide, by decide +kernel, by decide +kernel, fun k hk => absurd hk (by omega)⟩, ⟨0, by decide, by decide +kernel, by decide +kernel, fun k hk => absurd hk (by omega)⟩⟩
  · rw [c9]; exact law
  · rw [c10]; exact law
  · exact (by decide +kernel : ∀ i, i < 10 → aI IFs (oA 1 i) 8 = 0) i hi
  · exact I 103 (by decide +kernel) 0
  · exact I 104 (by decide +kernel) 0
  · rw [if_neg (by decide +kernel)]; rfl
  · exact I 119 (by decide +kernel) _
  · exact I 117 (by decide +kernel) _
  · exact I 118 (by decide +kernel) _
  · exact I 109 (by decide +kernel) _
  · show ¬ S0 109 i < 0
    rw [S0_z (by decide)]; decide
  · have h : tlS (tn (S0 28 0)) (tn (S0 34 0)) f i := h
    exact S0_z (by unfold tlS at h; omega)
  · have h : tlS (tn (S0 28 0)) (tn (S0 34 0)) f i := h
    rw [show mi (Mc IFs PFs) (cA 36 f i) (cB f i) = S0 f i from tab_T f (kd_lt (rg_kd hi)) i hi]
    exact S0_z (by unfold tlS at h; omega)
  · show lfK S0 k
    exact Or.inl ⟨Or.inl (S0_z (by decide)), S0_z (by decide)⟩
  · exact I 127 (by decide +kernel) _
  · rw [I 77 (by decide +kernel), I 117 (by decide +kernel)]
  · rw [I 78 (by decide +kernel), I 118 (by decide +kernel)]; decide
  · rw [I 79 (by decide +kernel), I 154 (by decide +kernel)]
  · exact I 154 (by decide +kernel) _
  · exact aP_no (by decide +kernel)
  · exact (by decide +kernel : ∀ m, m < 24 → aI IFs 128 m = -1) m hm
end FST
-- the law from its first instruction
set_option maxRecDepth 20000 in
theorem law_body {N : Nat} {xs : Nat → Int32} (hN : N ≤ 3584) : XL N xs 601024 7293034 (Lc 0 [], Mc [] []) 0 [.float 9, junk, junk, junk, junk, junk, junk] [] := by
  refine X_new 3 cb11 n_L_8 (Nat.le_of_ble_eq_true rfl) (Nat.le_of_ble_eq_true rfl) dL_law_0 rfl ?_
  refine X_nmH (fun L1 M1 e => ?_)
  have h0 : St 0 [] [] [] (Lc 0 []) (Mc [] []) := ⟨rfl, rfl, fun _ q => absurd q List.not_mem_nil, fun _ q => absurd q List.not_mem_nil, fun _ q => absurd q List.not_mem_nil⟩
  obtain ⟨h, l⟩ := st_alc h0 e rfl
  rw [show (Lc 0 []).1 = 0 from rfl]
  refine X_dup 4 dL_law_3 rfl rfl ?_
  refine X_callI 7 (Q' := QC L1 (fun L' M' => St 92 cR (wI 36 ++ wI 1) (wP 36 ++ wP 1) L' M')) (rc' := 91) (rs' := 5452) (as := []) m_L_23 (s_X11_init (st_ob h (by decide) rfl) (i_X11 h rfl rfl (fun _ _ q => q))) rfl (by decide) (Nat.le_of_ble_eq_true rfl) (Nat.le_of_ble_eq_true rfl) (Nat.le_of_ble_eq_true rfl) dL_law_4 rfl rfl (fun r h' hq => ?_)
  obtain ⟨L2, M2, rfl, rfl, h⟩ := hq
  refine X_astore_n 8 (i := 1) (ls' := [.float 9, .ref 0, junk, junk, junk, junk, junk]) dL_law_7 rfl rfl (Nat.le_of_ble_eq_true rfl) rfl (Or.inr (Or.inr ⟨_, rfl, rfl⟩)) ?_
  refine X_new 11 cb12 n_L_24 (Nat.le_of_ble_eq_true rfl) (Nat.le_of_ble_eq_true rfl) dL_law_8 rfl ?_
  refine X_nmH (fun L3 M3 e => ?_)
  obtain ⟨h, l⟩ := st_alc h e rfl
  rw [l]
  refine X_dup 12 dL_law_11 rfl rfl ?_
  refine X_callI 15 (Q' := QC L3 (fun L' M' => St 158 (mR ++ cR) (nR 24 ++ (mI ++ (wI 36 ++ wI 1))) (wP 36 ++ wP 1) L' M')) (rc' := 65) (rs' := 32753) (as := []) m_L_26 (s_X12_init (st_ob h (by decide) rfl) (i_X12 h rfl rfl (fun _ _ q => q))) rfl (by decide) (Nat.le_of_ble_eq_true rfl) (Nat.le_of_ble_eq_true rfl) (Nat.le_of_ble_eq_true rfl) dL_law_12 rfl rfl (fun r h' hq => ?_)
  obtain ⟨L4, M4, rfl, rfl, h⟩ := hq
  refine X_astore_n 16 (i := 2) (ls' := [.float 9, .ref 0, .ref 92, junk, junk, junk, junk]) dL_law_15 rfl rfl (Nat.le_of_ble_eq_true rfl) rfl (Or.inr (Or.inr ⟨_, rfl, rfl⟩)) ?_
  refine X_iconst 17 (v := 1) dL_law_16 rfl rfl ?_
  refine X_newa 19 (atype := .long) (t := 4) (n := 1) (by decide) rfl ac4 (by decide) (by decide) (by decide) (Nat.le_of_ble_eq_true rfl) (Nat.le_of_ble_eq_true rfl) dL_law_17 rfl ?_
  refine X_nmH (fun L5 M5 e => ?_)
  obtain ⟨h, l⟩ := st_alc h e rfl
  rw [l]
  refine X_astore_n 20 (i := 3) (ls' := [.float 9, .ref 0, .ref 92, .ref 158, junk, junk, junk]) dL_law_19 rfl rfl (Nat.le_of_ble_eq_true rfl) rfl (Or.inr (Or.inr ⟨_, rfl, rfl⟩)) ?_
  refine X_iconst 21 (v := nI 0) dL_law_20 rfl rfl ?_
  refine X_istore 23 (ls' := [.float 9, .ref 0, .ref 92, .ref 158, .int (nI 0), junk, junk]) dL_law_21 rfl (Nat.le_of_ble_eq_true rfl) rfl (Or.inr (Or.inr ⟨_, rfl, rfl⟩)) ?_
  exact law_loop hN 512 0 (by omega) (Nat.zero_le _) (Nat.le_of_ble_eq_true rfl) (Nat.le_of_ble_eq_true rfl) (by rw [h.1]; exact LY_F) ⟨0, X0, RX_F h.1 h.2.1⟩
