-- printed walks (by program: wip/whole/gen.py)
def w_X0_init (L : Lay) (ci : Nat) (M : Mem) (Q : Mem → Prop) : Prop := ∀ M1 : Mem, M1 = si M ci 1 (20 : Int32) → (∀ M2 : Mem, M2 = si M1 ci 2 (100 : Int32) → (Q M2))
set_option maxRecDepth 20000 in
theorem s_X0_init {L : Lay} {ci : Nat} (hhci : OB L ci 0) {M : Mem} {Q : Mem → Prop} (hw : w_X0_init L ci M Q) : MX yX0_init cX0_init none 1 2 0 0 [.ref ci] (L, M) (QV L Q) := by
  unfold w_X0_init at hw
  refine MX_of (by decide) [.ref ci] (by rfl) (by exact Nat.le_of_ble_eq_true rfl) ?_
  show X (FM (QV L Q)) RX0 cX0_init none 1 "<init>" 2 0 0 (L, M) 0 [.ref ci] []
  refine X_aload_n 1 dX0_init_0 rfl rfl ?_
  refine X_objInit 4 l_X0_3 oi_i oi_c (by decide) (Nat.le_of_ble_eq_true rfl) dX0_init_1 rfl ?_
  refine X_aload_n 5 dX0_init_4 rfl rfl ?_
  refine X_bipush 7 (v := 20) dX0_init_5 rfl rfl ?_
  refine X_putI 10 f_X0_9 (Or.inl rfl) hhci rfl dX0_init_7 rfl ?_
  refine X_nmM (fun M1 eM1 => ?_)
  have hw := hw M1 eM1
  refine X_aload_n 11 dX0_init_10 rfl rfl ?_
  refine X_bipush 13 (v := 100) dX0_init_11 rfl rfl ?_
  refine X_putI 16 f_X0_15 (Or.inl rfl) hhci rfl dX0_init_13 rfl ?_
  refine X_nmM (fun M2 eM2 => ?_)
  have hw := hw M2 eM2
  exact X_retV rfl dX0_init_16 ⟨_, rfl, rfl, hw⟩
def w_X1_init (L : Lay) (la : Nat) (p0 : Int32) (p1 : Int32) (M : Mem) (Q : Mem → Prop) : Prop := ∀ M1 : Mem, M1 = si M la 0 p0 → (∀ M2 : Mem, M2 = si M1 la 1 p1 → (Q M2))
set_option maxRecDepth 20000 in
theorem s_X1_init {L : Lay} {la : Nat} {p0 : Int32} {p1 : Int32} (hhla : OB L la 1) {M : Mem} {Q : Mem → Prop} (hw : w_X1_init L la p0 p1 M Q) : MX yX1_init cX1_init none 3 2 0 0 [.ref la, .int p0, .int p1] (L, M) (QV L Q) := by
  unfold w_X1_init at hw
  refine MX_of (by decide) [.ref la, .int p0, .int p1] (by rfl) (by exact Nat.le_of_ble_eq_true rfl) ?_
  show X (FM (QV L Q)) RX1 cX1_init none 3 "<init>" 2 0 0 (L, M) 0 [.ref la, .int p0, .int p1] []
  refine X_aload_n 1 dX1_init_0 rfl rfl ?_
  refine X_objInit 4 l_X1_1 oi_i oi_c (by decide) (Nat.le_of_ble_eq_true rfl) dX1_init_1 rfl ?_
  refine X_aload_n 5 dX1_init_4 rfl rfl ?_
  refine X_iload_n 6 dX1_init_5 rfl rfl ?_
  refine X_putI 9 f_X1_7 (Or.inr ⟨rfl, _, _, _, cb1⟩) hhla rfl dX1_init_6 rfl ?_
  refine X_nmM (fun M1 eM1 => ?_)
  have hw := hw M1 eM1
  refine X_aload_n 10 dX1_init_9 rfl rfl ?_
  refine X_iload_n 11 dX1_init_10 rfl rfl ?_
  refine X_putI 14 f_X1_13 (Or.inr ⟨rfl, _, _, _, cb1⟩) hhla rfl dX1_init_11 rfl ?_
  refine X_nmM (fun M2 eM2 => ?_)
  have hw := hw M2 eM2
  exact X_retV rfl dX1_init_14 ⟨_, rfl, rfl, hw⟩
def w_X6_init (th : Nat) (L : Lay) (rc rs : Nat) (M : Mem) (Q : Lay → Mem → Prop) : Prop := 1 ≤ rc ∧ (14 ≤ rs ∧ (∀ (L3 : Lay) (M4 : Mem), (L3, M4) = alc (L, M) (20, 14) → (∀ L6 : Lay, L6 = sr L3 th 0 (some (L.1)) → (1 ≤ (rc - 1) ∧ (64 ≤ (rs - 14) ∧ (∀ (L9 : Lay) (M10 : Mem), (L9, M10) = alc (L6, M4) (20, 64) → (∀ L12 : Lay, L12 = sr L9 th 1 (some (L6.1)) → (Q L12 M10))))))))
set_option maxRecDepth 20000 in
theorem s_X6_init {L : Lay} {th : Nat} {rc rs : Nat} {M : Mem} {Q : Lay → Mem → Prop} (hhth : OB L th 6) (hw : w_X6_init th L rc rs M Q) : MX yX6_init cX6_init none 1 2 rc rs [.ref th] (L, M) (QC L Q) := by
  unfold w_X6_init at hw
  obtain ⟨L0, eL0⟩ : ∃ L0, L0 = L := ⟨L, rfl⟩
  rw [show QC L Q = QC L0 Q from by rw [eL0]]
  refine MX_of (by decide) [.ref th] (by rfl) (by exact Nat.le_of_ble_eq_true rfl) ?_
  show X (FM (QC L0 Q)) RX6 cX6_init none 1 "<init>" 2 rc rs (L, M) 0 [.ref th] []
  refine X_aload_n 1 dX6_init_0 rfl rfl ?_
  refine X_objInit 4 l_X6_3 oi_i oi_c (by decide) (Nat.le_of_ble_eq_true rfl) dX6_init_1 rfl ?_
  refine X_aload_n 5 dX6_init_4 rfl rfl ?_
  refine X_bipush 7 (v := 14) dX6_init_5 rfl rfl ?_
  obtain ⟨c1, hw⟩ := hw
  obtain ⟨c2, hw⟩ := hw
  refine X_newa 9 (t := 0) (n := 14) (by decide) rfl ac0 (by decide) (by decide) (by decide) c1 c2 dX6_init_7 rfl ?_
  refine X_nmH (fun L3 M4 e5 => ?_)
  have hw := hw L3 M4 e5
  have obL3 := AR.of_alc e5
  have leL3 := LE.of_alc e5
  have hhth := leL3.ob hhth
  refine X_putR (x := (some (L.1))) 12 f_X6_9 (Or.inr ⟨_, rfl⟩) (Or.inr ⟨rfl, _, _, _, cb6⟩) hhth rfl dX6_init_9 rfl ?_
  refine X_nmLy (fun L6 eL6 => ?_)
  have hw := hw L6 eL6
  have hhth := (SRE.mk eL6).ob hhth
  refine X_aload_n 13 dX6_init_12 rfl rfl ?_
  refine X_bipush 15 (v := 64) dX6_init_13 rfl rfl ?_
  obtain ⟨c7, hw⟩ := hw
  obtain ⟨c8, hw⟩ := hw
  refine X_newa 17 (t := 0) (n := 64) (by decide) rfl ac0 (by decide) (by decide) (by decide) c7 c8 dX6_init_15 rfl ?_
  refine X_nmH (fun L9 M10 e11 => ?_)
  have hw := hw L9 M10 e11
  have obL9 := AR.of_alc e11
  have leL9 := LE.of_alc e11
  have hhth := leL9.ob hhth
  refine X_putR (x := (some (L6.1))) 20 f_X6_15 (Or.inr ⟨_, rfl⟩) (Or.inr ⟨rfl, _, _, _, cb6⟩) hhth rfl dX6_init_17 rfl ?_
  refine X_nmLy (fun L12 eL12 => ?_)
  have hw := hw L12 eL12
  have hhth := (SRE.mk eL12).ob hhth
  exact X_retV rfl dX6_init_20 ⟨_, _, rfl, rfl, hw⟩
def w_X3_init (L : Lay) (ow : Nat) (M : Mem) (Q : Mem → Prop) : Prop := Q M
set_option maxRecDepth 20000 in
theorem s_X3_init {L : Lay} {ow : Nat} (hhow : OB L ow 3) {M : Mem} {Q : Mem → Prop} (hw : w_X3_init L ow M Q) : MX yX3_init cX3_init none 1 2 0 0 [.ref ow] (L, M) (QV L Q) := by
  unfold w_X3_init at hw
  refine MX_of (by decide) [.ref ow] (by rfl) (by exact Nat.le_of_ble_eq_true rfl) ?_
  show X (FM (QV L Q)) RX3 cX3_init none 1 "<init>" 2 0 0 (L, M) 0 [.ref ow] []
  refine X_aload_n 1 dX3_init_0 rfl rfl ?_
  refine X_objInit 4 l_X3_1 oi_i oi_c (by decide) (Nat.le_of_ble_eq_true rfl) dX3_init_1 rfl ?_
  exact X_retV rfl dX3_init_4 ⟨_, rfl, rfl, hw⟩
def w_X9_init (th : Nat) (L : Lay) (rc rs : Nat) (M : Mem) (Q : Lay → Mem → Prop) : Prop := 1 ≤ rc ∧ (12 ≤ rs ∧ (∀ (L3 : Lay) (M4 : Mem), (L3, M4) = alc (L, M) (20, 12) → (∀ L6 : Lay, L6 = sr L3 th 6 (some (L.1)) → (Q L6 M4))))
set_option maxRecDepth 20000 in
theorem s_X9_init {L : Lay} {th : Nat} {rc rs : Nat} {M : Mem} {Q : Lay → Mem → Prop} (hhth : OB L th 9) (hw : w_X9_init th L rc rs M Q) : MX yX9_init cX9_init none 1 2 rc rs [.ref th] (L, M) (QC L Q) := by
  unfold w_X9_init at hw
  obtain ⟨L0, eL0⟩ : ∃ L0, L0 = L := ⟨L, rfl⟩
  rw [show QC L Q = QC L0 Q from by rw [eL0]]
  refine MX_of (by decide) [.ref th] (by rfl) (by exact Nat.le_of_ble_eq_true rfl) ?_
  show X (FM (QC L0 Q)) RX9 cX9_init none 1 "<init>" 2 rc rs (L, M) 0 [.ref th] []
  refine X_aload_n 1 dX9_init_0 rfl rfl ?_
  refine X_objInit 4 l_X9_3 oi_i oi_c (by decide) (Nat.le_of_ble_eq_true rfl) dX9_init_1 rfl ?_
  refine X_aload_n 5 dX9_init_4 rfl rfl ?_
  refine X_bipush 7 (v := 12) dX9_init_5 rfl rfl ?_
  obtain ⟨c1, hw⟩ := hw
  obtain ⟨c2, hw⟩ := hw
  refine X_newa 9 (t := 0) (n := 12) (by decide) rfl ac0 (by decide) (by decide) (by decide) c1 c2 dX9_init_7 rfl ?_
  refine X_nmH (fun L3 M4 e5 => ?_)
  have hw := hw L3 M4 e5
  have obL3 := AR.of_alc e5
  have leL3 := LE.of_alc e5
  have hhth := leL3.ob hhth
  refine X_putR (x := (some (L.1))) 12 f_X9_9 (Or.inr ⟨_, rfl⟩) (Or.inr ⟨rfl, _, _, _, cb9⟩) hhth rfl dX9_init_9 rfl ?_
  refine X_nmLy (fun L6 eL6 => ?_)
  have hw := hw L6 eL6
  have hhth := (SRE.mk eL6).ob hhth
  exact X_retV rfl dX9_init_12 ⟨_, _, rfl, rfl, hw⟩
def w_X2_init (th : Nat) (L : Lay) (rc rs : Nat) (M : Mem) (Q : Lay → Mem → Prop) : Prop := 1 ≤ rc ∧ (24 ≤ rs ∧ (∀ (L3 : Lay) (M4 : Mem), (L3, M4) = alc (L, M) (27, 24) → (∀ L6 : Lay, L6 = sr L3 th 0 (some (L.1)) → (1 ≤ (rc - 1) ∧ (240 ≤ (rs - 24) ∧ (∀ (L9 : Lay) (M10 : Mem), (L9, M10) = alc (L6, M4) (20, 240) → (∀ L12 : Lay, L12 = sr L9 th 1 (some (L6.1)) → (1 ≤ ((rc - 1) - 1) ∧ (240 ≤ ((rs - 24) - 240) ∧ (∀ (L15 : Lay) (M16 : Mem), (L15, M16) = alc (L12, M10) (20, 240) → (∀ L18 : Lay, L18 = sr L15 th 2 (some (L12.1)) → (1 ≤ (((rc - 1) - 1) - 1) ∧ (240 ≤ (((rs - 24) - 240) - 240) ∧ (∀ (L21 : Lay) (M22 : Mem), (L21, M22) = alc (L18, M16) (21, 240) → (∀ L24 : Lay, L24 = sr L21 th 3 (some (L18.1)) → (Q L24 M22))))))))))))))))
set_option maxRecDepth 20000 in
theorem s_X2_init {L : Lay} {th : Nat} {rc rs : Nat} {M : Mem} {Q : Lay → Mem → Prop} (hhth : OB L th 2) (hw : w_X2_init th L rc rs M Q) : MX yX2_init cX2_init none 1 2 rc rs [.ref th] (L, M) (QC L Q) := by
  unfold w_X2_init at hw
  obtain ⟨L0, eL0⟩ : ∃ L0, L0 = L := ⟨L, rfl⟩
  rw [show QC L Q = QC L0 Q from by rw [eL0]]
  refine MX_of (by decide) [.ref th] (by rfl) (by exact Nat.le_of_ble_eq_true rfl) ?_
  show X (FM (QC L0 Q)) RX2 cX2_init none 1 "<init>" 2 rc rs (L, M) 0 [.ref th] []
  refine X_aload_n 1 dX2_init_0 rfl rfl ?_
  refine X_objInit 4 l_X2_3 oi_i oi_c (by decide) (Nat.le_of_ble_eq_true rfl) dX2_init_1 rfl ?_
  refine X_aload_n 5 dX2_init_4 rfl rfl ?_
  refine X_bipush 7 (v := 24) dX2_init_5 rfl rfl ?_
  obtain ⟨c1, hw⟩ := hw
  obtain ⟨c2, hw⟩ := hw
  refine X_newq 10 (t := 7) (n := 24) (by decide) (by decide) ⟨_, rfl, n_X2_9⟩ (by decide) (by decide) (by decide) c1 c2 dX2_init_7 rfl ?_
  refine X_nmH (fun L3 M4 e5 => ?_)
  have hw := hw L3 M4 e5
  have obL3 := AR.of_alc e5
  have leL3 := LE.of_alc e5
  have hhth := leL3.ob hhth
  refine X_putR (x := (some (L.1))) 13 f_X2_11 (Or.inr ⟨_, rfl⟩) (Or.inr ⟨rfl, _, _, _, cb2⟩) hhth rfl dX2_init_10 rfl ?_
  refine X_nmLy (fun L6 eL6 => ?_)
  have hw := hw L6 eL6
  have hhth := (SRE.mk eL6).ob hhth
  refine X_aload_n 14 dX2_init_13 rfl rfl ?_
  refine X_sipush 17 (v := 240) dX2_init_14 rfl rfl ?_
  obtain ⟨c7, hw⟩ := hw
  obtain ⟨c8, hw⟩ := hw
  refine X_newa 19 (t := 0) (n := 240) (by decide) rfl ac0 (by decide) (by decide) (by decide) c7 c8 dX2_init_17 rfl ?_
  refine X_nmH (fun L9 M10 e11 => ?_)
  have hw := hw L9 M10 e11
  have obL9 := AR.of_alc e11
  have leL9 := LE.of_alc e11
  have hhth := leL9.ob hhth
  refine X_putR (x := (some (L6.1))) 22 f_X2_17 (Or.inr ⟨_, rfl⟩) (Or.inr ⟨rfl, _, _, _, cb2⟩) hhth rfl dX2_init_19 rfl ?_
  refine X_nmLy (fun L12 eL12 => ?_)
  have hw := hw L12 eL12
  have hhth := (SRE.mk eL12).ob hhth
  refine X_aload_n 23 dX2_init_22 rfl rfl ?_
  refine X_sipush 26 (v := 240) dX2_init_23 rfl rfl ?_
  obtain ⟨c13, hw⟩ := hw
  obtain ⟨c14, hw⟩ := hw
  refine X_newa 28 (t := 0) (n := 240) (by decide) rfl ac0 (by decide) (by decide) (by decide) c13 c14 dX2_init_26 rfl ?_
  refine X_nmH (fun L15 M16 e17 => ?_)
  have hw := hw L15 M16 e17
  have obL15 := AR.of_alc e17
  have leL15 := LE.of_alc e17
  have hhth := leL15.ob hhth
  refine X_putR (x := (some (L12.1))) 31 f_X2_21 (Or.inr ⟨_, rfl⟩) (Or.inr ⟨rfl, _, _, _, cb2⟩) hhth rfl dX2_init_28 rfl ?_
  refine X_nmLy (fun L18 eL18 => ?_)
  have hw := hw L18 eL18
  have hhth := (SRE.mk eL18).ob hhth
  refine X_aload_n 32 dX2_init_31 rfl rfl ?_
  refine X_sipush 35 (v := 240) dX2_init_32 rfl rfl ?_
  obtain ⟨c19, hw⟩ := hw
  obtain ⟨c20, hw⟩ := hw
  refine X_newa 37 (t := 1) (n := 240) (by decide) rfl ac1 (by decide) (by decide) (by decide) c19 c20 dX2_init_35 rfl ?_
  refine X_nmH (fun L21 M22 e23 => ?_)
  have hw := hw L21 M22 e23
  have obL21 := AR.of_alc e23
  have leL21 := LE.of_alc e23
  have hhth := leL21.ob hhth
  refine X_putR (x := (some (L18.1))) 40 f_X2_24 (Or.inr ⟨_, rfl⟩) (Or.inr ⟨rfl, _, _, _, cb2⟩) hhth rfl dX2_init_37 rfl ?_
  refine X_nmLy (fun L24 eL24 => ?_)
  have hw := hw L24 eL24
  have hhth := (SRE.mk eL24).ob hhth
  exact X_retV rfl dX2_init_40 ⟨_, _, rfl, rfl, hw⟩
def w_X7_init (th : Nat) (L : Lay) (rc rs : Nat) (M : Mem) (Q : Lay → Mem → Prop) : Prop := 1 ≤ rc ∧ (200 ≤ rs ∧ (∀ (L3 : Lay) (M4 : Mem), (L3, M4) = alc (L, M) (20, 200) → (∀ L6 : Lay, L6 = sr L3 th 3 (some (L.1)) → (1 ≤ (rc - 1) ∧ (200 ≤ (rs - 200) ∧ (∀ (L9 : Lay) (M10 : Mem), (L9, M10) = alc (L6, M4) (20, 200) → (∀ L12 : Lay, L12 = sr L9 th 4 (some (L6.1)) → (1 ≤ ((rc - 1) - 1) ∧ (200 ≤ ((rs - 200) - 200) ∧ (∀ (L15 : Lay) (M16 : Mem), (L15, M16) = alc (L12, M10) (20, 200) → (∀ L18 : Lay, L18 = sr L15 th 5 (some (L12.1)) → (1 ≤ (((rc - 1) - 1) - 1) ∧ (200 ≤ (((rs - 200) - 200) - 200) ∧ (∀ (L21 : Lay) (M22 : Mem), (L21, M22) = alc (L18, M16) (20, 200) → (∀ L24 : Lay, L24 = sr L21 th 6 (some (L18.1)) → (Q L24 M22))))))))))))))))
set_option maxRecDepth 20000 in
theorem s_X7_init {L : Lay} {th : Nat} {rc rs : Nat} {M : Mem} {Q : Lay → Mem → Prop} (hhth : OB L th 7) (hw : w_X7_init th L rc rs M Q) : MX yX7_init cX7_init none 1 2 rc rs [.ref th] (L, M) (QC L Q) := by
  unfold w_X7_init at hw
  obtain ⟨L0, eL0⟩ : ∃ L0, L0 = L := ⟨L, rfl⟩
  rw [show QC L Q = QC L0 Q from by rw [eL0]]
  refine MX_of (by decide) [.ref th] (by rfl) (by exact Nat.le_of_ble_eq_true rfl) ?_
  show X (FM (QC L0 Q)) RX7 cX7_init none 1 "<init>" 2 rc rs (L, M) 0 [.ref th] []
  refine X_aload_n 1 dX7_init_0 rfl rfl ?_
  refine X_objInit 4 l_X7_3 oi_i oi_c (by decide) (Nat.le_of_ble_eq_true rfl) dX7_init_1 rfl ?_
  refine X_aload_n 5 dX7_init_4 rfl rfl ?_
  refine X_sipush 8 (v := 200) dX7_init_5 rfl rfl ?_
  obtain ⟨c1, hw⟩ := hw
  obtain ⟨c2, hw⟩ := hw
  refine X_newa 10 (t := 0) (n := 200) (by decide) rfl ac0 (by decide) (by decide) (by decide) c1 c2 dX7_init_8 rfl ?_
  refine X_nmH (fun L3 M4 e5 => ?_)
  have hw := hw L3 M4 e5
  have obL3 := AR.of_alc e5
  have leL3 := LE.of_alc e5
  have hhth := leL3.ob hhth
  refine X_putR (x := (some (L.1))) 13 f_X7_11 (Or.inr ⟨_, rfl⟩) (Or.inr ⟨rfl, _, _, _, cb7⟩) hhth rfl dX7_init_10 rfl ?_
  refine X_nmLy (fun L6 eL6 => ?_)
  have hw := hw L6 eL6
  have hhth := (SRE.mk eL6).ob hhth
  refine X_aload_n 14 dX7_init_13 rfl rfl ?_
  refine X_sipush 17 (v := 200) dX7_init_14 rfl rfl ?_
  obtain ⟨c7, hw⟩ := hw
  obtain ⟨c8, hw⟩ := hw
  refine X_newa 19 (t := 0) (n := 200) (by decide) rfl ac0 (by decide) (by decide) (by decide) c7 c8 dX7_init_17 rfl ?_
  refine X_nmH (fun L9 M10 e11 => ?_)
  have hw := hw L9 M10 e11
  have obL9 := AR.of_alc e11
  have leL9 := LE.of_alc e11
  have hhth := leL9.ob hhth
  refine X_putR (x := (some (L6.1))) 22 f_X7_15 (Or.inr ⟨_, rfl⟩) (Or.inr ⟨rfl, _, _, _, cb7⟩) hhth rfl dX7_init_19 rfl ?_
  refine X_nmLy (fun L12 eL12 => ?_)
  have hw := hw L12 eL12
  have hhth := (SRE.mk eL12).ob hhth
  refine X_aload_n 23 dX7_init_22 rfl rfl ?_
  refine X_sipush 26 (v := 200) dX7_init_23 rfl rfl ?_
  obtain ⟨c13, hw⟩ := hw
  obtain ⟨c14, hw⟩ := hw
  refine X_newa 28 (t := 0) (n := 200) (by decide) rfl ac0 (by decide) (by decide) (by decide) c13 c14 dX7_init_26 rfl ?_
  refine X_nmH (fun L15 M16 e17 => ?_)
  have hw := hw L15 M16 e17
  have obL15 := AR.of_alc e17
  have leL15 := LE.of_alc e17
  have hhth := leL15.ob hhth
  refine X_putR (x := (some (L12.1))) 31 f_X7_18 (Or.inr ⟨_, rfl⟩) (Or.inr ⟨rfl, _, _, _, cb7⟩) hhth rfl dX7_init_28 rfl ?_
  refine X_nmLy (fun L18 eL18 => ?_)
  have hw := hw L18 eL18
  have hhth := (SRE.mk eL18).ob hhth
  refine X_aload_n 32 dX7_init_31 rfl rfl ?_
  refine X_sipush 35 (v := 200) dX7_init_32 rfl rfl ?_
  obtain ⟨c19, hw⟩ := hw
  obtain ⟨c20, hw⟩ := hw
  refine X_newa 37 (t := 0) (n := 200) (by decide) rfl ac0 (by decide) (by decide) (by decide) c19 c20 dX7_init_35 rfl ?_
  refine X_nmH (fun L21 M22 e23 => ?_)
  have hw := hw L21 M22 e23
  have obL21 := AR.of_alc e23
  have leL21 := LE.of_alc e23
  have hhth := leL21.ob hhth
  refine X_putR (x := (some (L18.1))) 40 f_X7_21 (Or.inr ⟨_, rfl⟩) (Or.inr ⟨rfl, _, _, _, cb7⟩) hhth rfl dX7_init_37 rfl ?_
  refine X_nmLy (fun L24 eL24 => ?_)
  have hw := hw L24 eL24
  have hhth := (SRE.mk eL24).ob hhth
  exact X_retV rfl dX7_init_40 ⟨_, _, rfl, rfl, hw⟩
def w_X8_init (th : Nat) (L : Lay) (rc rs : Nat) (M : Mem) (Q : Lay → Mem → Prop) : Prop := 1 ≤ rc ∧ (60 ≤ rs ∧ (∀ (L3 : Lay) (M4 : Mem), (L3, M4) = alc (L, M) (20, 60) → (∀ L6 : Lay, L6 = sr L3 th 1 (some (L.1)) → (1 ≤ (rc - 1) ∧ (60 ≤ (rs - 60) ∧ (∀ (L9 : Lay) (M10 : Mem), (L9, M10) = alc (L6, M4) (20, 60) → (∀ L12 : Lay, L12 = sr L9 th 2 (some (L6.1)) → (1 ≤ ((rc - 1) - 1) ∧ (60 ≤ ((rs - 60) - 60) ∧ (∀ (L15 : Lay) (M16 : Mem), (L15, M16) = alc (L12, M10) (20, 60) → (∀ L18 : Lay, L18 = sr L15 th 3 (some (L12.1)) → (1 ≤ (((rc - 1) - 1) - 1) ∧ (60 ≤ (((rs - 60) - 60) - 60) ∧ (∀ (L21 : Lay) (M22 : Mem), (L21, M22) = alc (L18, M16) (20, 60) → (∀ L24 : Lay, L24 = sr L21 th 4 (some (L18.1)) → (Q L24 M22))))))))))))))))
set_option maxRecDepth 20000 in
theorem s_X8_init {L : Lay} {th : Nat} {rc rs : Nat} {M : Mem} {Q : Lay → Mem → Prop} (hhth : OB L th 8) (hw : w_X8_init th L rc rs M Q) : MX yX8_init cX8_init none 1 2 rc rs [.ref th] (L, M) (QC L Q) := by
  unfold w_X8_init at hw
  obtain ⟨L0, eL0⟩ : ∃ L0, L0 = L := ⟨L, rfl⟩
  rw [show QC L Q = QC L0 Q from by rw [eL0]]
  refine MX_of (by decide) [.ref th] (by rfl) (by exact Nat.le_of_ble_eq_true rfl) ?_
  show X (FM (QC L0 Q)) RX8 cX8_init none 1 "<init>" 2 rc rs (L, M) 0 [.ref th] []
  refine X_aload_n 1 dX8_init_0 rfl rfl ?_
  refine X_objInit 4 l_X8_3 oi_i oi_c (by decide) (Nat.le_of_ble_eq_true rfl) dX8_init_1 rfl ?_
  refine X_aload_n 5 dX8_init_4 rfl rfl ?_
  refine X_bipush 7 (v := 60) dX8_init_5 rfl rfl ?_
  obtain ⟨c1, hw⟩ := hw
  obtain ⟨c2, hw⟩ := hw
  refine X_newa 9 (t := 0) (n := 60) (by decide) rfl ac0 (by decide) (by decide) (by decide) c1 c2 dX8_init_7 rfl ?_
  refine X_nmH (fun L3 M4 e5 => ?_)
  have hw := hw L3 M4 e5
  have obL3 := AR.of_alc e5
  have leL3 := LE.of_alc e5
  have hhth := leL3.ob hhth
  refine X_putR (x := (some (L.1))) 12 f_X8_11 (Or.inr ⟨_, rfl⟩) (Or.inr ⟨rfl, _, _, _, cb8⟩) hhth rfl dX8_init_9 rfl ?_
  refine X_nmLy (fun L6 eL6 => ?_)
  have hw := hw L6 eL6
  have hhth := (SRE.mk eL6).ob hhth
  refine X_aload_n 13 dX8_init_12 rfl rfl ?_
  refine X_bipush 15 (v := 60) dX8_init_13 rfl rfl ?_
  obtain ⟨c7, hw⟩ := hw
  obtain ⟨c8, hw⟩ := hw
  refine X_newa 17 (t := 0) (n := 60) (by decide) rfl ac0 (by decide) (by decide) (by decide) c7 c8 dX8_init_15 rfl ?_
  refine X_nmH (fun L9 M10 e11 => ?_)
  have hw := hw L9 M10 e11
  have obL9 := AR.of_alc e11
  have leL9 := LE.of_alc e11
  have hhth := leL9.ob hhth
  refine X_putR (x := (some (L6.1))) 20 f_X8_15 (Or.inr ⟨_, rfl⟩) (Or.inr ⟨rfl, _, _, _, cb8⟩) hhth rfl dX8_init_17 rfl ?_
  refine X_nmLy (fun L12 eL12 => ?_)
  have hw := hw L12 eL12
  have hhth := (SRE.mk eL12).ob hhth
  refine X_aload_n 21 dX8_init_20 rfl rfl ?_
  refine X_bipush 23 (v := 60) dX8_init_21 rfl rfl ?_
  obtain ⟨c13, hw⟩ := hw
  obtain ⟨c14, hw⟩ := hw
  refine X_newa 25 (t := 0) (n := 60) (by decide) rfl ac0 (by decide) (by decide) (by decide) c13 c14 dX8_init_23 rfl ?_
  refine X_nmH (fun L15 M16 e17 => ?_)
  have hw := hw L15 M16 e17
  have obL15 := AR.of_alc e17
  have leL15 := LE.of_alc e17
  have hhth := leL15.ob hhth
  refine X_putR (x := (some (L12.1))) 28 f_X8_18 (Or.inr ⟨_, rfl⟩) (Or.inr ⟨rfl, _, _, _, cb8⟩) hhth rfl dX8_init_25 rfl ?_
  refine X_nmLy (fun L18 eL18 => ?_)
  have hw := hw L18 eL18
  have hhth := (SRE.mk eL18).ob hhth
  refine X_aload_n 29 dX8_init_28 rfl rfl ?_
  refine X_bipush 31 (v := 60) dX8_init_29 rfl rfl ?_
  obtain ⟨c19, hw⟩ := hw
  obtain ⟨c20, hw⟩ := hw
  refine X_newa 33 (t := 0) (n := 60) (by decide) rfl ac0 (by decide) (by decide) (by decide) c19 c20 dX8_init_31 rfl ?_
  refine X_nmH (fun L21 M22 e23 => ?_)
  have hw := hw L21 M22 e23
  have obL21 := AR.of_alc e23
  have leL21 := LE.of_alc e23
  have hhth := leL21.ob hhth
  refine X_putR (x := (some (L18.1))) 36 f_X8_21 (Or.inr ⟨_, rfl⟩) (Or.inr ⟨rfl, _, _, _, cb8⟩) hhth rfl dX8_init_33 rfl ?_
  refine X_nmLy (fun L24 eL24 => ?_)
  have hw := hw L24 eL24
  have hhth := (SRE.mk eL24).ob hhth
  exact X_retV rfl dX8_init_36 ⟨_, _, rfl, rfl, hw⟩
def w_X4_init (L : Lay) (pa : Nat) (M : Mem) (Q : Mem → Prop) : Prop := ∀ M1 : Mem, M1 = si M pa 5 (-1 : Int32) → (∀ M2 : Mem, M2 = si M1 pa 6 (-1 : Int32) → (Q M2))
set_option maxRecDepth 20000 in
theorem s_X4_init {L : Lay} {pa : Nat} (hhpa : OB L pa 4) {M : Mem} {Q : Mem → Prop} (hw : w_X4_init L pa M Q) : MX yX4_init cX4_init none 1 2 0 0 [.ref pa] (L, M) (QV L Q) := by
  unfold w_X4_init at hw
  refine MX_of (by decide) [.ref pa] (by rfl) (by exact Nat.le_of_ble_eq_true rfl) ?_
  show X (FM (QV L Q)) RX4 cX4_init none 1 "<init>" 2 0 0 (L, M) 0 [.ref pa] []
  refine X_aload_n 1 dX4_init_0 rfl rfl ?_
  refine X_objInit 4 l_X4_3 oi_i oi_c (by decide) (Nat.le_of_ble_eq_true rfl) dX4_init_1 rfl ?_
  refine X_aload_n 5 dX4_init_4 rfl rfl ?_
  refine X_iconst 6 (v := -1) dX4_init_5 rfl rfl ?_
  refine X_putI 9 f_X4_9 (Or.inl rfl) hhpa rfl dX4_init_6 rfl ?_
  refine X_nmM (fun M1 eM1 => ?_)
  have hw := hw M1 eM1
  refine X_aload_n 10 dX4_init_9 rfl rfl ?_
  refine X_iconst 11 (v := -1) dX4_init_10 rfl rfl ?_
  refine X_putI 14 f_X4_15 (Or.inl rfl) hhpa rfl dX4_init_11 rfl ?_
  refine X_nmM (fun M2 eM2 => ?_)
  have hw := hw M2 eM2
  exact X_retV rfl dX4_init_14 ⟨_, rfl, rfl, hw⟩
def w_X4_hasTold (L : Lay) (pa : Nat) (p0 : Int32) (M : Mem) (Q : Int32 → Mem → Prop) : Prop := ((p0 = (0 : Int32) → ((((mp M pa 0) = none → (Q (0 : Int32) M)) ∧ ∀ a3 : Nat, (mp M pa 0) = some a3 → (Q (1 : Int32) M)))) ∧ (¬ p0 = (0 : Int32) → (((p0 = (1 : Int32) → ((((mp M pa 1) = none → (Q (0 : Int32) M)) ∧ ∀ a6 : Nat, (mp M pa 1) = some a6 → (Q (1 : Int32) M)))) ∧ (¬ p0 = (1 : Int32) → (((p0 = (2 : Int32) → ((((mp M pa 2) = none → (Q (0 : Int32) M)) ∧ ∀ a9 : Nat, (mp M pa 2) = some a9 → (Q (1 : Int32) M)))) ∧ (¬ p0 = (2 : Int32) → (((p0 = (3 : Int32) → (Q (0 : Int32) M)) ∧ (¬ p0 = (3 : Int32) → (((p0 = (4 : Int32) → (∀ x12 : Int32, x12 = (if (mi M pa 5) = (-1 : Int32) then (0 : Int32) else (1 : Int32)) → (Q x12 M))) ∧ (¬ p0 = (4 : Int32) → (((p0 = (5 : Int32) → (∀ x15 : Int32, x15 = (if (mi M pa 6) = (-1 : Int32) then (0 : Int32) else (1 : Int32)) → (Q x15 M))) ∧ (¬ p0 = (5 : Int32) → (Q (0 : Int32) M))))))))))))))))))
set_option maxRecDepth 20000 in
theorem s_X4_hasTold {L : Lay} (hL : LY L) {pa : Nat} {p0 : Int32} (hhpa : OB L pa 4) {M : Mem} {Q : Int32 → Mem → Prop} (hw : w_X4_hasTold L pa p0 M Q) : MX yX4_hasTold cX4_hasTold (some .boolean) 2 1 0 0 [.ref pa, .int p0] (L, M) (QZ L Q) := by
  unfold w_X4_hasTold at hw
  refine MX_of (by decide) [.ref pa, .int p0] (by rfl) (by exact Nat.le_of_ble_eq_true rfl) ?_
  show X (FM (QZ L Q)) RX4 cX4_hasTold (some .boolean) 2 "hasTold" 1 0 0 (L, M) 0 [.ref pa, .int p0] []
  refine X_iload_n 1 dX4_hasTold_0 rfl rfl ?_
  by_cases c1 : p0 = (0 : Int32)
  · have hw := hw.1 c1
    refine Y_tableIn 40 (k := 0) (off := 39) c1 dX4_hasTold_1 (by decide) (by decide) rfl rfl ?_
    refine X_aload_n 41 dX4_hasTold_40 rfl rfl ?_
    refine X_getQ 44 f_X4_18 hhpa rfl dX4_hasTold_41 rfl ?_
    refine X_ifnull 51 47 dX4_hasTold_44 rfl rfl (fun c2 => ?_) (fun a3 c2 => ?_)
    · have hw := hw.1 c2
      refine X_iconst 52 (v := 0) dX4_hasTold_51 rfl rfl ?_
      exact X_ret rfl (nar_bool (Or.inl rfl)) dX4_hasTold_52 ⟨_, _, rfl, Or.inl rfl, rfl, hw⟩
    · have hw := hw.2 a3 c2
      refine X_iconst 48 (v := 1) dX4_hasTold_47 rfl rfl ?_
      refine X_goto 52 dX4_hasTold_48 rfl ?_
      exact X_ret rfl (nar_bool (Or.inr rfl)) dX4_hasTold_52 ⟨_, _, rfl, Or.inr rfl, rfl, hw⟩
  · have hw := hw.2 c1
    by_cases c4 : p0 = (1 : Int32)
    · have hw := hw.1 c4
      refine Y_tableIn 53 (k := 1) (off := 52) c4 dX4_hasTold_1 (by decide) (by decide) rfl rfl ?_
      refine X_aload_n 54 dX4_hasTold_53 rfl rfl ?_
      refine X_getQ 57 f_X4_22 hhpa rfl dX4_hasTold_54 rfl ?_
      refine X_ifnull 64 60 dX4_hasTold_57 rfl rfl (fun c5 => ?_) (fun a6 c5 => ?_)
      · have hw := hw.1 c5
        refine X_iconst 65 (v := 0) dX4_hasTold_64 rfl rfl ?_
        exact X_ret rfl (nar_bool (Or.inl rfl)) dX4_hasTold_65 ⟨_, _, rfl, Or.inl rfl, rfl, hw⟩
      · have hw := hw.2 a6 c5
        refine X_iconst 61 (v := 1) dX4_hasTold_60 rfl rfl ?_
        refine X_goto 65 dX4_hasTold_61 rfl ?_
        exact X_ret rfl (nar_bool (Or.inr rfl)) dX4_hasTold_65 ⟨_, _, rfl, Or.inr rfl, rfl, hw⟩
    · have hw := hw.2 c4
      by_cases c7 : p0 = (2 : Int32)
      · have hw := hw.1 c7
        refine Y_tableIn 66 (k := 2) (off := 65) c7 dX4_hasTold_1 (by decide) (by decide) rfl rfl ?_
        refine X_aload_n 67 dX4_hasTold_66 rfl rfl ?_
        refine X_getQ 70 f_X4_25 hhpa rfl dX4_hasTold_67 rfl ?_
        refine X_ifnull 77 73 dX4_hasTold_70 rfl rfl (fun c8 => ?_) (fun a9 c8 => ?_)
        · have hw := hw.1 c8
          refine X_iconst 78 (v := 0) dX4_hasTold_77 rfl rfl ?_
          exact X_ret rfl (nar_bool (Or.inl rfl)) dX4_hasTold_78 ⟨_, _, rfl, Or.inl rfl, rfl, hw⟩
        · have hw := hw.2 a9 c8
          refine X_iconst 74 (v := 1) dX4_hasTold_73 rfl rfl ?_
          refine X_goto 78 dX4_hasTold_74 rfl ?_
          exact X_ret rfl (nar_bool (Or.inr rfl)) dX4_hasTold_78 ⟨_, _, rfl, Or.inr rfl, rfl, hw⟩
      · have hw := hw.2 c7
        by_cases c10 : p0 = (3 : Int32)
        · have hw := hw.1 c10
          refine Y_tableIn 107 (k := 3) (off := 106) c10 dX4_hasTold_1 (by decide) (by decide) rfl rfl ?_
          refine X_iconst 108 (v := 0) dX4_hasTold_107 rfl rfl ?_
          exact X_ret rfl (nar_bool (Or.inl rfl)) dX4_hasTold_108 ⟨_, _, rfl, Or.inl rfl, rfl, hw⟩
        · have hw := hw.2 c10
          by_cases c11 : p0 = (4 : Int32)
          · have hw := hw.1 c11
            refine Y_tableIn 79 (k := 4) (off := 78) c11 dX4_hasTold_1 (by decide) (by decide) rfl rfl ?_
            refine X_aload_n 80 dX4_hasTold_79 rfl rfl ?_
            refine X_getI 83 f_X4_9 hhpa rfl dX4_hasTold_80 rfl ?_
            refine X_iconst 84 (v := -1) dX4_hasTold_83 rfl rfl ?_
            obtain ⟨x12, ex12⟩ : ∃ x12 : Int32, x12 = (if (mi M pa 5) = (-1 : Int32) then (0 : Int32) else (1 : Int32)) := ⟨_, rfl⟩
            have hw := hw x12 ex12
            have bx12 : BZ x12 := by rw [ex12]; (repeat' split) <;> first | exact Or.inl rfl | exact Or.inr rfl
            have hJ : X (FM (QZ L Q)) RX4 cX4_hasTold (some .boolean) 2 "hasTold" 1 0 0 (L, M) 92 [.ref pa, .int p0] [.int x12] := by
              exact X_ret rfl (nar_bool (bx12)) dX4_hasTold_92 ⟨_, _, rfl, bx12, rfl, hw⟩
            refine X_icmp_eq 91 87 dX4_hasTold_84 rfl rfl (fun c13 => ?_) (fun c13 => ?_)
            · refine X_iconst 92 (v := 0) dX4_hasTold_91 rfl rfl ?_
              rw [if_pos c13] at ex12
              rw [ex12] at hJ
              exact hJ
            · refine X_iconst 88 (v := 1) dX4_hasTold_87 rfl rfl ?_
              refine X_goto 92 dX4_hasTold_88 rfl ?_
              rw [if_neg c13] at ex12
              rw [ex12] at hJ
              exact hJ
          · have hw := hw.2 c11
            by_cases c14 : p0 = (5 : Int32)
            · have hw := hw.1 c14
              refine Y_tableIn 93 (k := 5) (off := 92) c14 dX4_hasTold_1 (by decide) (by decide) rfl rfl ?_
              refine X_aload_n 94 dX4_hasTold_93 rfl rfl ?_
              refine X_getI 97 f_X4_15 hhpa rfl dX4_hasTold_94 rfl ?_
              refine X_iconst 98 (v := -1) dX4_hasTold_97 rfl rfl ?_
              obtain ⟨x15, ex15⟩ : ∃ x15 : Int32, x15 = (if (mi M pa 6) = (-1 : Int32) then (0 : Int32) else (1 : Int32)) := ⟨_, rfl⟩
              have hw := hw x15 ex15
              have bx15 : BZ x15 := by rw [ex15]; (repeat' split) <;> first | exact Or.inl rfl | exact Or.inr rfl
              have hJ : X (FM (QZ L Q)) RX4 cX4_hasTold (some .boolean) 2 "hasTold" 1 0 0 (L, M) 106 [.ref pa, .int p0] [.int x15] := by
                exact X_ret rfl (nar_bool (bx15)) dX4_hasTold_106 ⟨_, _, rfl, bx15, rfl, hw⟩
              refine X_icmp_eq 105 101 dX4_hasTold_98 rfl rfl (fun c16 => ?_) (fun c16 => ?_)
              · refine X_iconst 106 (v := 0) dX4_hasTold_105 rfl rfl ?_
                rw [if_pos c16] at ex15
                rw [ex15] at hJ
                exact hJ
              · refine X_iconst 102 (v := 1) dX4_hasTold_101 rfl rfl ?_
                refine X_goto 106 dX4_hasTold_102 rfl ?_
                rw [if_neg c16] at ex15
                rw [ex15] at hJ
                exact hJ
            · have hw := hw.2 c14
              have hout : p0.toInt < 0 ∨ 5 < p0.toInt := by
                have hc1 : ¬ p0.toInt = 0 := fun h => c1 (Int32.toInt_inj.mp (h.trans (by decide)))
                have hc4 : ¬ p0.toInt = 1 := fun h => c4 (Int32.toInt_inj.mp (h.trans (by decide)))
                have hc7 : ¬ p0.toInt = 2 := fun h => c7 (Int32.toInt_inj.mp (h.trans (by decide)))
                have hc10 : ¬ p0.toInt = 3 := fun h => c10 (Int32.toInt_inj.mp (h.trans (by decide)))
                have hc11 : ¬ p0.toInt = 4 := fun h => c11 (Int32.toInt_inj.mp (h.trans (by decide)))
                have hc14 : ¬ p0.toInt = 5 := fun h => c14 (Int32.toInt_inj.mp (h.trans (by decide)))
                omega
              refine X_tableOut 107 dX4_hasTold_1 hout rfl ?_
              refine X_iconst 108 (v := 0) dX4_hasTold_107 rfl rfl ?_
              exact X_ret rfl (nar_bool (Or.inl rfl)) dX4_hasTold_108 ⟨_, _, rfl, Or.inl rfl, rfl, hw⟩
def w_J7_copyOf_59c91 (ar : Nat) (arn : Nat) (p1 : Int32) (L : Lay) (rc rs : Nat) (M : Mem) (Q : Option Nat → Lay → Mem → Prop) : Prop := ((p1 = (nI arn) → (False)) ∧ (¬ p1 = (nI arn) → (1 ≤ rc ∧ ((¬ p1 < 0 ∧ tn p1 ≤ 50000) ∧ ((tn p1) ≤ rs ∧ (∀ (L5 : Lay) (M6 : Mem), (L5, M6) = alc (L, M) (20, (tn p1)) → ((¬ (0 : Int32) < 0 ∧ ¬ (0 : Int32) < 0 ∧ ¬ (jmin (nI arn) p1) < 0 ∧ tn (0 : Int32) + tn (jmin (nI arn) p1) ≤ arn ∧ tn (0 : Int32) + tn (jmin (nI arn) p1) ≤ (tn p1)) ∧ (∀ M9 : Mem, M9 = cpy M6 ar (L.1) (tn (0 : Int32)) (tn (0 : Int32)) (tn (jmin (nI arn) p1)) → (Q (some (L.1)) L5 M9)))))))))
set_option maxRecDepth 20000 in
theorem s_J7_copyOf_59c91 {L : Lay} {ar : Nat} {arn : Nat} {p1 : Int32} {rc rs : Nat} {M : Mem} {Q : Option Nat → Lay → Mem → Prop} (hL : LY L) (hhar : AR L ar 0 arn) (hw : w_J7_copyOf_59c91 ar arn p1 L rc rs M Q) : MX yJ7_copyOf_59c91 cJ7_copyOf_59c91 (some (.array .int)) 3 2 rc rs [.ref ar, .int p1] (L, M) (QRa L Q) := by
  unfold w_J7_copyOf_59c91 at hw
  obtain ⟨L0, eL0⟩ : ∃ L0, L0 = L := ⟨L, rfl⟩
  rw [show QRa L Q = QRa L0 Q from by rw [eL0]]
  have hLE : LE L0 L := by rw [eL0]; exact LE.rf L
  refine MX_of (by decide) [.ref ar, .int p1, junk] (by rfl) (by exact Nat.le_of_ble_eq_true rfl) ?_
  show X (FM (QRa L0 Q)) RJ7 cJ7_copyOf_59c91 (some (.array .int)) 3 "copyOf" 2 rc rs (L, M) 0 [.ref ar, .int p1, junk] []
  refine X_iload_n 1 dJ7_copyOf_59c91_0 rfl rfl ?_
  refine X_aload_n 2 dJ7_copyOf_59c91_1 rfl rfl ?_
  refine X_alen 3 (t := 0) (by decide) hhar dJ7_copyOf_59c91_2 rfl ?_
  refine X_icmp_ne 14 6 dJ7_copyOf_59c91_3 rfl rfl (fun c1 => ?_) (fun c1 => ?_)
  · have hw := hw.2 c1
    refine X_iload_n 15 dJ7_copyOf_59c91_14 rfl rfl ?_
    obtain ⟨c2, hw⟩ := hw
    obtain ⟨c3, hw⟩ := hw
    obtain ⟨c4, hw⟩ := hw
    refine X_newa 17 (t := 0) (n := (tn p1)) (by decide) rfl ac0 c3.1 rfl c3.2 c2 c4 dJ7_copyOf_59c91_15 rfl ?_
    refine X_nmH (fun L5 M6 e7 => ?_)
    have hw := hw L5 M6 e7
    have obL5 := AR.of_alc e7
    have leL5 := LE.of_alc e7
    have hLE := hLE.tr leL5
    have hL := leL5.ly hL
    have hhar := leL5.ar hhar
    refine X_astore_n 18 (ls' := [.ref ar, .int p1, .ref (L.1)]) dJ7_copyOf_59c91_17 rfl rfl (Nat.le_of_ble_eq_true rfl) rfl (Or.inr (Or.inr ⟨_, rfl, rfl⟩)) ?_
    refine X_aload_n 19 dJ7_copyOf_59c91_18 rfl rfl ?_
    refine X_iconst 20 (v := 0) dJ7_copyOf_59c91_19 rfl rfl ?_
    refine X_aload_n 21 dJ7_copyOf_59c91_20 rfl rfl ?_
    refine X_iconst 22 (v := 0) dJ7_copyOf_59c91_21 rfl rfl ?_
    refine X_aload_n 23 dJ7_copyOf_59c91_22 rfl rfl ?_
    refine X_alen 24 (t := 0) (by decide) hhar dJ7_copyOf_59c91_23 rfl ?_
    refine X_iload_n 25 dJ7_copyOf_59c91_24 rfl rfl ?_
    refine Y_mmin 28 l_J7_304 (by decide) (Nat.le_of_ble_eq_true rfl) dJ7_copyOf_59c91_25 rfl ?_
    obtain ⟨c8, hw⟩ := hw
    refine X_acopy 31 w_J7_150 hhar obL5 c8 (by decide) (Nat.le_of_ble_eq_true rfl) dJ7_copyOf_59c91_28 rfl ?_
    refine X_nmM (fun M9 eM9 => ?_)
    have hw := hw M9 eM9
    refine X_aload_n 32 dJ7_copyOf_59c91_31 rfl rfl ?_
    exact X_retA (o := (some (L.1))) rfl (Or.inr ⟨_, rfl⟩) dJ7_copyOf_59c91_32 ⟨_, _, _, rfl, rfl, hLE, hw⟩
  · have hw := hw.1 c1
    refine X_aload_n 7 dJ7_copyOf_59c91_6 rfl rfl ?_
    exact hw.elim
def w_X4_addFall (pa : Nat) (p0 : Option Nat) (L : Lay) (rc rs : Nat) (M : Mem) (Q : Lay → Mem → Prop) : Prop := ∀ M1 : Mem, M1 = si M pa 4 ((mi M pa 4) + (1 : Int32)) → ((((mp M1 pa 3) = none → (∀ M4 : Mem, M4 = sq M1 pa 3 p0 → (Q L M4))) ∧ ∀ a3 : Nat, (mp M1 pa 3) = some a3 → (((p0 = none → (∀ M7 : Mem, M7 = sq M1 pa 3 p0 → (Q L M7))) ∧ ∀ a6 : Nat, p0 = some a6 → (∃ a8 a8n : Nat, (mp M1 pa 3) = some a8 ∧ AR L a8 0 a8n ∧ (∃ a9 a9n : Nat, (mp M1 pa 3) = some a9 ∧ AR L a9 0 a9n ∧ (∃ a10 a10n : Nat, p0 = some a10 ∧ AR L a10 0 a10n ∧ (∃ n11 n12 : Nat, n11 ≤ rc ∧ n12 ≤ rs ∧ w_J7_copyOf_59c91 a8 a8n (((nI a9n) + (nI a10n)) + (1 : Int32)) L n11 n12 M1 (fun x15 L13 M14 => (∃ a16 a16n : Nat, x15 = some a16 ∧ AR L13 a16 0 a16n ∧ (∃ a17 a17n : Nat, p0 = some a17 ∧ AR L13 a17 0 a17n ∧ (∃ a18 a18n : Nat, (mp M14 pa 3) = some a18 ∧ AR L13 a18 0 a18n ∧ (∃ a19 a19n : Nat, p0 = some a19 ∧ AR L13 a19 0 a19n ∧ ((¬ (0 : Int32) < 0 ∧ ¬ (nI a18n) < 0 ∧ ¬ (nI a19n) < 0 ∧ tn (0 : Int32) + tn (nI a19n) ≤ a17n ∧ tn (nI a18n) + tn (nI a19n) ≤ a16n) ∧ (∀ M21 : Mem, M21 = cpy M14 a17 a16 (tn (0 : Int32)) (tn (nI a18n)) (tn (nI a19n)) → (vp_in ((nI a16n) - (1 : Int32)) a16n ∧ (∀ M23 : Mem, M23 = si M21 a16 (tn ((nI a16n) - (1 : Int32))) (20010 : Int32) → (∀ M24 : Mem, M24 = sq M23 pa 3 (some a16) → (Q L13 M24)))))))))))))))))))
set_option maxRecDepth 20000 in
theorem s_X4_addFall {L : Lay} {pa : Nat} {p0 : Option Nat} {rc rs : Nat} {M : Mem} {Q : Lay → Mem → Prop} (hL : LY L) (hhpa : OB L pa 4) (hw : w_X4_addFall pa p0 L rc rs M Q) : MX yX4_addFall cX4_addFall none 3 3 rc rs [.ref pa, va_rf p0] (L, M) (QVa L Q) := by
  unfold w_X4_addFall at hw
  obtain ⟨L0, eL0⟩ : ∃ L0, L0 = L := ⟨L, rfl⟩
  rw [show QVa L Q = QVa L0 Q from by rw [eL0]]
  have hLE : LE L0 L := by rw [eL0]; exact LE.rf L
  refine MX_of (by decide) [.ref pa, va_rf p0, junk] (by cases p0 <;> rfl) (by cases p0 <;> exact Nat.le_of_ble_eq_true rfl) ?_
  show X (FM (QVa L0 Q)) RX4 cX4_addFall none 3 "addFall" 3 rc rs (L, M) 0 [.ref pa, va_rf p0, junk] []
  refine X_aload_n 1 dX4_addFall_0 rfl rfl ?_
  refine X_dup 2 dX4_addFall_1 rfl rfl ?_
  refine X_getI 5 f_X4_28 hhpa rfl dX4_addFall_2 rfl ?_
  refine X_iconst 6 (v := 1) dX4_addFall_5 rfl rfl ?_
  refine X_iadd 7 dX4_addFall_6 rfl ?_
  refine X_putI 10 f_X4_28 (Or.inl rfl) hhpa rfl dX4_addFall_7 rfl ?_
  refine X_nmM (fun M1 eM1 => ?_)
  have hw := hw M1 eM1
  refine X_aload_n 11 dX4_addFall_10 rfl rfl ?_
  refine X_getQ 14 f_X4_31 hhpa rfl dX4_addFall_11 rfl ?_
  refine X_ifnull 21 17 dX4_addFall_14 rfl rfl (fun c2 => ?_) (fun a3 c2 => ?_)
  · have hw := hw.1 c2
    refine X_aload_n 22 dX4_addFall_21 rfl rfl ?_
    refine X_aloadQ_n 23 dX4_addFall_22 rfl rfl ?_
    refine X_putQ (x := p0) 26 f_X4_31 (Or.inr ⟨_, rfl⟩) (Or.inl rfl) hhpa rfl dX4_addFall_23 rfl ?_
    refine X_nmM (fun M4 eM4 => ?_)
    have hw := hw M4 eM4
    exact X_retV rfl dX4_addFall_26 ⟨_, _, rfl, rfl, hLE, hw⟩
  · have hw := hw.2 a3 c2
    refine X_aloadQ_n 18 dX4_addFall_17 rfl rfl ?_
    refine X_ifnonnull 27 21 dX4_addFall_18 rfl rfl (fun a6 c5 => ?_) (fun c5 => ?_)
    · have hw := hw.2 a6 c5
      refine X_aload_n 28 dX4_addFall_27 rfl rfl ?_
      refine X_getQ 31 f_X4_31 hhpa rfl dX4_addFall_28 rfl ?_
      obtain ⟨a8, a8n, ea8, ha8, hw⟩ := hw
      refine X_rfS ea8 ?_
      refine X_aload_n 32 dX4_addFall_31 rfl rfl ?_
      refine X_getQ 35 f_X4_31 hhpa rfl dX4_addFall_32 rfl ?_
      obtain ⟨a9, a9n, ea9, ha9, hw⟩ := hw
      refine X_rfS ea9 ?_
      refine X_alen 36 (t := 0) (by decide) ha9 dX4_addFall_35 rfl ?_
      refine X_aloadQ_n 37 dX4_addFall_36 rfl rfl ?_
      obtain ⟨a10, a10n, ea10, ha10, hw⟩ := hw
      refine X_rfS ea10 ?_
      refine X_alen 38 (t := 0) (by decide) ha10 dX4_addFall_37 rfl ?_
      refine X_iadd 39 dX4_addFall_38 rfl ?_
      refine X_iconst 40 (v := 1) dX4_addFall_39 rfl rfl ?_
      refine X_iadd 41 dX4_addFall_40 rfl ?_
      obtain ⟨n11, n12, hn11, hn12, hw⟩ := hw
      refine Y_aSR 44 (as := [.ref a8, .int ((((nI a9n) + (nI a10n)) + (1 : Int32)))]) m_X4_34 (s_J7_copyOf_59c91 hL ha8 hw) rfl (by decide) hn11 hn12 (Nat.le_of_ble_eq_true rfl) dX4_addFall_41 rfl rfl (fun x15 L13 M14 leL13 hw => ?_)
      have hLE := hLE.tr leL13
      have hL := leL13.ly hL
      have hhpa := leL13.ob hhpa
      obtain ⟨a16, a16n, ea16, ha16, hw⟩ := hw
      refine X_rfS ea16 ?_
      refine X_astore_n 45 (ls' := [.ref pa, va_rf p0, .ref a16]) dX4_addFall_44 rfl rfl (Nat.le_of_ble_eq_true rfl) rfl (Or.inr (Or.inr ⟨_, rfl, by cases p0 <;> rfl⟩)) ?_
      refine X_aloadQ_n 46 dX4_addFall_45 rfl rfl ?_
      obtain ⟨a17, a17n, ea17, ha17, hw⟩ := hw
      refine X_rfS ea17 ?_
      refine X_iconst 47 (v := 0) dX4_addFall_46 rfl rfl ?_
      refine X_aload_n 48 dX4_addFall_47 rfl rfl ?_
      refine X_aload_n 49 dX4_addFall_48 rfl rfl ?_
      refine X_getQ 52 f_X4_31 hhpa rfl dX4_addFall_49 rfl ?_
      obtain ⟨a18, a18n, ea18, ha18, hw⟩ := hw
      refine X_rfS ea18 ?_
      refine X_alen 53 (t := 0) (by decide) ha18 dX4_addFall_52 rfl ?_
      refine X_aloadQ_n 54 dX4_addFall_53 rfl rfl ?_
      obtain ⟨a19, a19n, ea19, ha19, hw⟩ := hw
      refine X_rfS ea19 ?_
      refine X_alen 55 (t := 0) (by decide) ha19 dX4_addFall_54 rfl ?_
      obtain ⟨c20, hw⟩ := hw
      refine X_acopy 58 w_X4_40 ha17 ha16 c20 (by decide) (Nat.le_of_ble_eq_true rfl) dX4_addFall_55 rfl ?_
      refine X_nmM (fun M21 eM21 => ?_)
      have hw := hw M21 eM21
      refine X_aload_n 59 dX4_addFall_58 rfl rfl ?_
      refine X_aload_n 60 dX4_addFall_59 rfl rfl ?_
      refine X_alen 61 (t := 0) (by decide) ha16 dX4_addFall_60 rfl ?_
      refine X_iconst 62 (v := 1) dX4_addFall_61 rfl rfl ?_
      refine X_isub 63 dX4_addFall_62 rfl ?_
      refine X_sipush 66 (v := 20010) dX4_addFall_63 rfl rfl ?_
      obtain ⟨c22, hw⟩ := hw
      refine Y_iast 67 (k := (tn ((nI a16n) - (1 : Int32)))) ha16 c22 rfl dX4_addFall_66 rfl ?_
      refine X_nmM (fun M23 eM23 => ?_)
      have hw := hw M23 eM23
      refine X_aload_n 68 dX4_addFall_67 rfl rfl ?_
      refine X_aload_n 69 dX4_addFall_68 rfl rfl ?_
      refine X_putQ (x := (some a16)) 72 f_X4_31 (Or.inr ⟨_, rfl⟩) (Or.inl rfl) hhpa rfl dX4_addFall_69 rfl ?_
      refine X_nmM (fun M24 eM24 => ?_)
      have hw := hw M24 eM24
      exact X_retV rfl dX4_addFall_72 ⟨_, _, rfl, rfl, hLE, hw⟩
    · have hw := hw.1 c5
      refine X_aload_n 22 dX4_addFall_21 rfl rfl ?_
      refine X_aloadQ_n 23 dX4_addFall_22 rfl rfl ?_
      refine X_putQ (x := p0) 26 f_X4_31 (Or.inr ⟨_, rfl⟩) (Or.inl rfl) hhpa rfl dX4_addFall_23 rfl ?_
      refine X_nmM (fun M7 eM7 => ?_)
      have hw := hw M7 eM7
      exact X_retV rfl dX4_addFall_26 ⟨_, _, rfl, rfl, hLE, hw⟩
def w_X4_setLine (L : Lay) (pa : Nat) (p0 : Int32) (p1 : Option Nat) (M : Mem) (Q : Mem → Prop) : Prop := ((p0 = 0 → (∀ M5 : Mem, M5 = sq M pa 0 p1 → (Q M5))) ∧ (¬ p0 = 0 → (((p0 = (1 : Int32) → (∀ M4 : Mem, M4 = sq M pa 1 p1 → (Q M4))) ∧ (¬ p0 = (1 : Int32) → (∀ M3 : Mem, M3 = sq M pa 2 p1 → (Q M3)))))))
set_option maxRecDepth 20000 in
theorem s_X4_setLine {L : Lay} (hL : LY L) {pa : Nat} {p0 : Int32} {p1 : Option Nat} (hhpa : OB L pa 4) {M : Mem} {Q : Mem → Prop} (hw : w_X4_setLine L pa p0 p1 M Q) : MX yX4_setLine cX4_setLine none 3 1 0 0 [.ref pa, .int p0, va_rf p1] (L, M) (QV L Q) := by
  unfold w_X4_setLine at hw
  refine MX_of (by decide) [.ref pa, .int p0, va_rf p1] (by cases p1 <;> rfl) (by cases p1 <;> exact Nat.le_of_ble_eq_true rfl) ?_
  show X (FM (QV L Q)) RX4 cX4_setLine none 3 "setLine" 1 0 0 (L, M) 0 [.ref pa, .int p0, va_rf p1] []
  refine X_iload_n 1 dX4_setLine_0 rfl rfl ?_
  refine X_if_ne 12 4 (y := 0) dX4_setLine_1 rfl rfl (fun c1 => ?_) (fun c1 => ?_)
  · have hw := hw.2 c1
    refine X_iload_n 13 dX4_setLine_12 rfl rfl ?_
    refine X_iconst 14 (v := 1) dX4_setLine_13 rfl rfl ?_
    refine X_icmp_ne 25 17 dX4_setLine_14 rfl rfl (fun c2 => ?_) (fun c2 => ?_)
    · have hw := hw.2 c2
      refine X_aload_n 26 dX4_setLine_25 rfl rfl ?_
      refine X_aloadQ_n 27 dX4_setLine_26 rfl rfl ?_
      refine X_putQ (x := p1) 30 f_X4_25 (Or.inr ⟨_, rfl⟩) (Or.inl rfl) hhpa rfl dX4_setLine_27 rfl ?_
      refine X_nmM (fun M3 eM3 => ?_)
      have hw := hw M3 eM3
      exact X_retV rfl dX4_setLine_30 ⟨_, rfl, rfl, hw⟩
    · have hw := hw.1 c2
      refine X_aload_n 18 dX4_setLine_17 rfl rfl ?_
      refine X_aloadQ_n 19 dX4_setLine_18 rfl rfl ?_
      refine X_putQ (x := p1) 22 f_X4_22 (Or.inr ⟨_, rfl⟩) (Or.inl rfl) hhpa rfl dX4_setLine_19 rfl ?_
      refine X_nmM (fun M4 eM4 => ?_)
      have hw := hw M4 eM4
      refine X_goto 30 dX4_setLine_22 rfl ?_
      exact X_retV rfl dX4_setLine_30 ⟨_, rfl, rfl, hw⟩
  · have hw := hw.1 c1
    refine X_aload_n 5 dX4_setLine_4 rfl rfl ?_
    refine X_aloadQ_n 6 dX4_setLine_5 rfl rfl ?_
    refine X_putQ (x := p1) 9 f_X4_18 (Or.inr ⟨_, rfl⟩) (Or.inl rfl) hhpa rfl dX4_setLine_6 rfl ?_
    refine X_nmM (fun M5 eM5 => ?_)
    have hw := hw M5 eM5
    refine X_goto 30 dX4_setLine_9 rfl ?_
    exact X_retV rfl dX4_setLine_30 ⟨_, rfl, rfl, hw⟩
def w_J7_fill_53178_5 (L : Lay) (ar : Nat) (arn : Nat) (p1 : Int32) (K5 : Int32 → Int32 → Mem → Prop) (v2 : Int32) (v3 : Int32) (M : Mem) (Q : Mem → Prop) : Prop := ((v2 < v3 → (vp_in v2 arn ∧ (∀ M4 : Mem, M4 = si M ar (tn v2) p1 → (∀ x5 : Int32, x5 = v2 + (1 : Int32) → (K5 x5 v3 M4))))) ∧ (¬ v2 < v3 → (Q M)))
set_option maxRecDepth 20000 in
theorem t_J7_fill_53178_5 {L : Lay} (hL : LY L) {ar : Nat} {arn : Nat} {p1 : Int32} (hhar : AR L ar 0 arn) {K5 : Int32 → Int32 → Mem → Prop} {v2 : Int32} {v3 : Int32}  {M : Mem} {Q : Mem → Prop} (hw : w_J7_fill_53178_5 L ar arn p1 K5 v2 v3 M Q) (hK5 : ∀ (v2 : Int32) (v3 : Int32) (M : Mem), K5 v2 v3 M → X (FM (QV L Q)) RJ7 cJ7_fill_53178 none 4 "fill" 1 0 0 (L, M) 5 [.ref ar, .int p1, .int v2, .int v3] []) : X (FM (QV L Q)) RJ7 cJ7_fill_53178 none 4 "fill" 1 0 0 (L, M) 5 [.ref ar, .int p1, .int v2, .int v3] [] := by
  unfold w_J7_fill_53178_5 at hw
  refine X_iload_n 6 dJ7_fill_53178_5 rfl rfl ?_
  refine X_iload_n 7 dJ7_fill_53178_6 rfl rfl ?_
  refine X_icmp_ge 20 10 dJ7_fill_53178_7 rfl rfl (fun c2 => ?_) (fun c2 => ?_)
  · have hw := hw.2 c2
    exact X_retV rfl dJ7_fill_53178_20 ⟨_, rfl, rfl, hw⟩
  · have hw := hw.1 c2
    refine X_aload_n 11 dJ7_fill_53178_10 rfl rfl ?_
    refine X_iload_n 12 dJ7_fill_53178_11 rfl rfl ?_
    refine X_iload_n 13 dJ7_fill_53178_12 rfl rfl ?_
    obtain ⟨c3, hw⟩ := hw
    refine Y_iast 14 (k := (tn v2)) hhar c3 rfl dJ7_fill_53178_13 rfl ?_
    refine X_nmM (fun M4 eM4 => ?_)
    have hw := hw M4 eM4
    obtain ⟨x5, ex5⟩ : ∃ x5 : Int32, x5 = v2 + (1 : Int32) := ⟨_, rfl⟩
    have hw := hw x5 ex5
    refine X_iinc 17 (v := x5) (ls' := [.ref ar, .int p1, .int x5, .int v3]) dJ7_fill_53178_14 rfl rfl (by rw [ex5]; rfl) rfl (Or.inr (Or.inr ⟨_, rfl, rfl⟩)) ?_
    refine X_goto 5 dJ7_fill_53178_17 rfl ?_
    exact hK5 x5 v3 M4 hw
def w_J7_fill_53178 (L : Lay) (ar : Nat) (arn : Nat) (p1 : Int32) (M : Mem) (Q : Mem → Prop) : Prop := ∀ x1 : Int32, x1 = (nI arn) → (LP3 (fun K5 v2 v3 M => w_J7_fill_53178_5 L ar arn p1  K5 v2 v3 M Q) (0 : Int32) x1 M)
set_option maxRecDepth 20000 in
theorem s_J7_fill_53178 {L : Lay} (hL : LY L) {ar : Nat} {arn : Nat} {p1 : Int32} (hhar : AR L ar 0 arn) {M : Mem} {Q : Mem → Prop} (hw : w_J7_fill_53178 L ar arn p1 M Q) : MX yJ7_fill_53178 cJ7_fill_53178 none 4 1 0 0 [.ref ar, .int p1] (L, M) (QV L Q) := by
  unfold w_J7_fill_53178 at hw
  refine MX_of (by decide) [.ref ar, .int p1, junk, junk] (by rfl) (by exact Nat.le_of_ble_eq_true rfl) ?_
  show X (FM (QV L Q)) RJ7 cJ7_fill_53178 none 4 "fill" 1 0 0 (L, M) 0 [.ref ar, .int p1, junk, junk] []
  refine X_iconst 1 (v := 0) dJ7_fill_53178_0 rfl rfl ?_
  refine X_istore_n 2 (ls' := [.ref ar, .int p1, .int (0 : Int32), junk]) dJ7_fill_53178_1 rfl rfl (Nat.le_of_ble_eq_true rfl) rfl (Or.inr (Or.inr ⟨_, rfl, rfl⟩)) ?_
  refine X_aload_n 3 dJ7_fill_53178_2 rfl rfl ?_
  refine X_alen 4 (t := 0) (by decide) hhar dJ7_fill_53178_3 rfl ?_
  refine X_nmI (fun x1 ex1 => ?_)
  have hw := hw x1 ex1
  refine X_istore_n 5 (ls' := [.ref ar, .int p1, .int (0 : Int32), .int x1]) dJ7_fill_53178_4 rfl rfl (Nat.le_of_ble_eq_true rfl) rfl (Or.inr (Or.inr ⟨_, rfl, rfl⟩)) ?_
  exact LP3_s hw (G := fun v2 v3 M => X (FM (QV L Q)) RJ7 cJ7_fill_53178 none 4 "fill" 1 0 0 (L, M) 5 [.ref ar, .int p1, .int v2, .int v3] []) (fun K5 v2 v3 M hb hK => t_J7_fill_53178_5 hL hhar hb  hK)
def w_X6_clear (L : Lay) (re : Nat) (M : Mem) (Q : Mem → Prop) : Prop := w_J7_fill_53178 L (re + 1) 14 (0 : Int32) M (fun M1 => (Q M1))
set_option maxRecDepth 20000 in
theorem s_X6_clear {L : Lay} (hL : LY L) {re : Nat} (hhre : IsR L re) {M : Mem} {Q : Mem → Prop} (hw : w_X6_clear L re M Q) : MX yX6_clear cX6_clear none 1 2 0 0 [.ref re] (L, M) (QV L Q) := by
  unfold w_X6_clear at hw
  refine MX_of (by decide) [.ref re] (by rfl) (by exact Nat.le_of_ble_eq_true rfl) ?_
  show X (FM (QV L Q)) RX6 cX6_clear none 1 "clear" 2 0 0 (L, M) 0 [.ref re] []
  refine X_aload_n 1 dX6_clear_0 rfl rfl ?_
  refine X_getR 4 f_X6_9 hhre.1 rfl hhre.2.1 dX6_clear_1 rfl ?_
  refine X_iconst 5 (v := 0) dX6_clear_4 rfl rfl ?_
  refine Y_cSV 8 (as := [.ref ((re + 1)), .int (0 : Int32)]) m_X6_18 (s_J7_fill_53178 hL hhre.2.2.2.1 hw) rfl (by decide) (Nat.le_of_ble_eq_true rfl) dX6_clear_5 rfl rfl (fun M1 hw => ?_)
  exact X_retV rfl dX6_clear_8 ⟨_, rfl, rfl, hw⟩
def w_X0_priceOf_35 (L : Lay) (ci : Nat) (p0 : Int32)  (y0 : Int32) (M : Mem) (Q : Int32 → Mem → Prop) : Prop := Q (jmax (1 : Int32) (y0 + (((mi M ci 2) * p0) / (20 : Int32)))) M
set_option maxRecDepth 20000 in
theorem t_X0_priceOf_35 {L : Lay} (hL : LY L) {ci : Nat} {p0 : Int32} (hhci : OB L ci 0)  {y0 : Int32}  {M : Mem} {Q : Int32 → Mem → Prop} (hw : w_X0_priceOf_35 L ci p0  y0 M Q)  : X (FM (QI L Q)) RX0 cX0_priceOf (some .int) 4 "priceOf" 2 0 0 (L, M) 35 [.ref ci, .int p0, junk, junk] [.int y0] := by
  unfold w_X0_priceOf_35 at hw
  refine X_istore_n 36 (ls' := [.ref ci, .int p0, junk, .int y0]) dX0_priceOf_35 rfl rfl (Nat.le_of_ble_eq_true rfl) rfl (Or.inr (Or.inl rfl)) ?_
  refine X_iconst 37 (v := 1) dX0_priceOf_36 rfl rfl ?_
  refine X_iload_n 38 dX0_priceOf_37 rfl rfl ?_
  refine X_aload_n 39 dX0_priceOf_38 rfl rfl ?_
  refine X_getI 42 f_X0_15 hhci rfl dX0_priceOf_39 rfl ?_
  refine X_iload_n 43 dX0_priceOf_42 rfl rfl ?_
  refine X_imul 44 dX0_priceOf_43 rfl ?_
  refine X_bipush 46 (v := 20) dX0_priceOf_44 rfl rfl ?_
  refine X_idiv 47 dX0_priceOf_46 rfl (by decide) ?_
  refine X_iadd 48 dX0_priceOf_47 rfl ?_
  refine Y_mmax 51 l_X0_21 (by decide) (Nat.le_of_ble_eq_true rfl) dX0_priceOf_48 rfl ?_
  exact X_ret rfl rfl dX0_priceOf_51 ⟨_, _, rfl, rfl, hw⟩
def w_X0_priceOf (L : Lay) (ci : Nat) (p0 : Int32) (M : Mem) (Q : Int32 → Mem → Prop) : Prop := ∀ x1 : Int32, x1 = ((mi M ci 0) + ((30 : Int32) * (mi M ci 1))) → (((x1 = 0 → (w_X0_priceOf_35 L ci p0  (0 : Int32) M Q)) ∧ (¬ x1 = 0 → (¬ x1 = 0 ∧ (w_X0_priceOf_35 L ci p0  ((((mi M ci 2) * (60 : Int32)) * (mi M ci 1)) / x1) M Q)))))
set_option maxRecDepth 20000 in
theorem s_X0_priceOf {L : Lay} (hL : LY L) {ci : Nat} {p0 : Int32} (hhci : OB L ci 0) {M : Mem} {Q : Int32 → Mem → Prop} (hw : w_X0_priceOf L ci p0 M Q) : MX yX0_priceOf cX0_priceOf (some .int) 4 2 0 0 [.ref ci, .int p0] (L, M) (QI L Q) := by
  unfold w_X0_priceOf at hw
  refine MX_of (by decide) [.ref ci, .int p0, junk, junk] (by rfl) (by exact Nat.le_of_ble_eq_true rfl) ?_
  show X (FM (QI L Q)) RX0 cX0_priceOf (some .int) 4 "priceOf" 2 0 0 (L, M) 0 [.ref ci, .int p0, junk, junk] []
  refine X_aload_n 1 dX0_priceOf_0 rfl rfl ?_
  refine X_getI 4 f_X0_18 hhci rfl dX0_priceOf_1 rfl ?_
  refine X_bipush 6 (v := 30) dX0_priceOf_4 rfl rfl ?_
  refine X_aload_n 7 dX0_priceOf_6 rfl rfl ?_
  refine X_getI 10 f_X0_9 hhci rfl dX0_priceOf_7 rfl ?_
  refine X_imul 11 dX0_priceOf_10 rfl ?_
  refine X_iadd 12 dX0_priceOf_11 rfl ?_
  refine X_nmI (fun x1 ex1 => ?_)
  have hw := hw x1 ex1
  refine X_istore_n 13 (ls' := [.ref ci, .int p0, .int x1, junk]) dX0_priceOf_12 rfl rfl (Nat.le_of_ble_eq_true rfl) rfl (Or.inr (Or.inr ⟨_, rfl, rfl⟩)) ?_
  refine X_iload_n 14 dX0_priceOf_13 rfl rfl ?_
  refine X_if_ne 21 17 (y := 0) dX0_priceOf_14 rfl rfl (fun c2 => ?_) (fun c2 => ?_)
  · have hw := hw.2 c2
    refine X_aload_n 22 dX0_priceOf_21 rfl rfl ?_
    refine X_getI 25 f_X0_15 hhci rfl dX0_priceOf_22 rfl ?_
    refine X_bipush 27 (v := 60) dX0_priceOf_25 rfl rfl ?_
    refine X_imul 28 dX0_priceOf_27 rfl ?_
    refine X_aload_n 29 dX0_priceOf_28 rfl rfl ?_
    refine X_getI 32 f_X0_9 hhci rfl dX0_priceOf_29 rfl ?_
    refine X_imul 33 dX0_priceOf_32 rfl ?_
    refine X_iload_n 34 dX0_priceOf_33 rfl rfl ?_
    obtain ⟨c3, hw⟩ := hw
    refine X_idiv 35 dX0_priceOf_34 rfl c3 ?_
    refine X_weak (ls' := [.ref ci, .int p0, junk, junk]) (WK.s (WK.s (WK.j (WK.s WK.n)))) (Nat.le_of_ble_eq_true rfl) ?_
    exact t_X0_priceOf_35 hL hhci  hw 
  · have hw := hw.1 c2
    refine X_iconst 18 (v := 0) dX0_priceOf_17 rfl rfl ?_
    refine X_goto 35 dX0_priceOf_18 rfl ?_
    refine X_weak (ls' := [.ref ci, .int p0, junk, junk]) (WK.s (WK.s (WK.j (WK.s WK.n)))) (Nat.le_of_ble_eq_true rfl) ?_
    exact t_X0_priceOf_35 hL hhci  hw 
def w_X6_setFact (L : Lay) (re : Nat) (p0 : Int32) (p1 : Int32) (M : Mem) (Q : Mem → Prop) : Prop := ((p0 < (13 : Int32) → (Q M)) ∧ (¬ p0 < (13 : Int32) → ((((26 : Int32) < p0 → (Q M)) ∧ (¬ (26 : Int32) < p0 → (vp_in (p0 - (13 : Int32)) 14 ∧ (∀ M4 : Mem, M4 = si M (re + 1) (tn (p0 - (13 : Int32))) p1 → (Q M4))))))))
set_option maxRecDepth 20000 in
theorem s_X6_setFact {L : Lay} (hL : LY L) {re : Nat} {p0 : Int32} {p1 : Int32} (hhre : IsR L re) {M : Mem} {Q : Mem → Prop} (hw : w_X6_setFact L re p0 p1 M Q) : MX yX6_setFact cX6_setFact none 3 1 0 0 [.ref re, .int p0, .int p1] (L, M) (QV L Q) := by
  unfold w_X6_setFact at hw
  refine MX_of (by decide) [.ref re, .int p0, .int p1] (by rfl) (by exact Nat.le_of_ble_eq_true rfl) ?_
  show X (FM (QV L Q)) RX6 cX6_setFact none 3 "setFact" 1 0 0 (L, M) 0 [.ref re, .int p0, .int p1] []
  refine X_iload_n 1 dX6_setFact_0 rfl rfl ?_
  refine X_bipush 3 (v := 13) dX6_setFact_1 rfl rfl ?_
  refine X_icmp_lt 22 6 dX6_setFact_3 rfl rfl (fun c1 => ?_) (fun c1 => ?_)
  · have hw := hw.1 c1
    exact X_retV rfl dX6_setFact_22 ⟨_, rfl, rfl, hw⟩
  · have hw := hw.2 c1
    refine X_iload_n 7 dX6_setFact_6 rfl rfl ?_
    refine X_bipush 9 (v := 26) dX6_setFact_7 rfl rfl ?_
    refine X_icmp_gt 22 12 dX6_setFact_9 rfl rfl (fun c2 => ?_) (fun c2 => ?_)
    · have hw := hw.1 c2
      exact X_retV rfl dX6_setFact_22 ⟨_, rfl, rfl, hw⟩
    · have hw := hw.2 c2
      refine X_aload_n 13 dX6_setFact_12 rfl rfl ?_
      refine X_getR 16 f_X6_9 hhre.1 rfl hhre.2.1 dX6_setFact_13 rfl ?_
      refine X_iload_n 17 dX6_setFact_16 rfl rfl ?_
      refine X_bipush 19 (v := 13) dX6_setFact_17 rfl rfl ?_
      refine X_isub 20 dX6_setFact_19 rfl ?_
      refine X_iload_n 21 dX6_setFact_20 rfl rfl ?_
      obtain ⟨c3, hw⟩ := hw
      refine Y_iast 22 (k := (tn (p0 - (13 : Int32)))) hhre.2.2.2.1 c3 rfl dX6_setFact_21 rfl ?_
      refine X_nmM (fun M4 eM4 => ?_)
      have hw := hw M4 eM4
      exact X_retV rfl dX6_setFact_22 ⟨_, rfl, rfl, hw⟩
def w_J6_bitCount_0f7a4 (L : Lay) (p0 : Int32) (M : Mem) (Q : Int32 → Mem → Prop) : Prop := ∀ x1 : Int32, x1 = (p0 - ((jushr p0 (1 : Int32)) &&& (1431655765 : Int32))) → (∀ x2 : Int32, x2 = ((x1 &&& (858993459 : Int32)) + ((jushr x1 (2 : Int32)) &&& (858993459 : Int32))) → (∀ x3 : Int32, x3 = ((x2 + (jushr x2 (4 : Int32))) &&& (252645135 : Int32)) → (∀ x4 : Int32, x4 = (x3 + (jushr x3 (8 : Int32))) → (∀ x5 : Int32, x5 = (x4 + (jushr x4 (16 : Int32))) → (Q (x5 &&& (63 : Int32)) M)))))
set_option maxRecDepth 20000 in
theorem s_J6_bitCount_0f7a4 {L : Lay} (hL : LY L) {p0 : Int32}  {M : Mem} {Q : Int32 → Mem → Prop} (hw : w_J6_bitCount_0f7a4 L p0 M Q) : MX yJ6_bitCount_0f7a4 cJ6_bitCount_0f7a4 (some .int) 1 1 0 0 [.int p0] (L, M) (QI L Q) := by
  unfold w_J6_bitCount_0f7a4 at hw
  refine MX_of (by decide) [.int p0] (by rfl) (by exact Nat.le_of_ble_eq_true rfl) ?_
  show X (FM (QI L Q)) RJ6 cJ6_bitCount_0f7a4 (some .int) 1 "bitCount" 1 0 0 (L, M) 0 [.int p0] []
  refine X_iload_n 1 dJ6_bitCount_0f7a4_0 rfl rfl ?_
  refine X_iload_n 2 dJ6_bitCount_0f7a4_1 rfl rfl ?_
  refine X_iconst 3 (v := 1) dJ6_bitCount_0f7a4_2 rfl rfl ?_
  refine Y_iushr 4 dJ6_bitCount_0f7a4_3 rfl ?_
  refine X_ldcw 7 dJ6_bitCount_0f7a4_4 rfl k_J6_265 ?_
  refine X_iand 8 dJ6_bitCount_0f7a4_7 rfl ?_
  refine X_isub 9 dJ6_bitCount_0f7a4_8 rfl ?_
  refine X_nmI (fun x1 ex1 => ?_)
  have hw := hw x1 ex1
  refine X_istore_n 10 (ls' := [.int x1]) dJ6_bitCount_0f7a4_9 rfl rfl (Nat.le_of_ble_eq_true rfl) rfl (Or.inl rfl) ?_
  refine X_iload_n 11 dJ6_bitCount_0f7a4_10 rfl rfl ?_
  refine X_ldcw 14 dJ6_bitCount_0f7a4_11 rfl k_J6_266 ?_
  refine X_iand 15 dJ6_bitCount_0f7a4_14 rfl ?_
  refine X_iload_n 16 dJ6_bitCount_0f7a4_15 rfl rfl ?_
  refine X_iconst 17 (v := 2) dJ6_bitCount_0f7a4_16 rfl rfl ?_
  refine Y_iushr 18 dJ6_bitCount_0f7a4_17 rfl ?_
  refine X_ldcw 21 dJ6_bitCount_0f7a4_18 rfl k_J6_266 ?_
  refine X_iand 22 dJ6_bitCount_0f7a4_21 rfl ?_
  refine X_iadd 23 dJ6_bitCount_0f7a4_22 rfl ?_
  refine X_nmI (fun x2 ex2 => ?_)
  have hw := hw x2 ex2
  refine X_istore_n 24 (ls' := [.int x2]) dJ6_bitCount_0f7a4_23 rfl rfl (Nat.le_of_ble_eq_true rfl) rfl (Or.inl rfl) ?_
  refine X_iload_n 25 dJ6_bitCount_0f7a4_24 rfl rfl ?_
  refine X_iload_n 26 dJ6_bitCount_0f7a4_25 rfl rfl ?_
  refine X_iconst 27 (v := 4) dJ6_bitCount_0f7a4_26 rfl rfl ?_
  refine Y_iushr 28 dJ6_bitCount_0f7a4_27 rfl ?_
  refine X_iadd 29 dJ6_bitCount_0f7a4_28 rfl ?_
  refine X_ldcw 32 dJ6_bitCount_0f7a4_29 rfl k_J6_267 ?_
  refine X_iand 33 dJ6_bitCount_0f7a4_32 rfl ?_
  refine X_nmI (fun x3 ex3 => ?_)
  have hw := hw x3 ex3
  refine X_istore_n 34 (ls' := [.int x3]) dJ6_bitCount_0f7a4_33 rfl rfl (Nat.le_of_ble_eq_true rfl) rfl (Or.inl rfl) ?_
  refine X_iload_n 35 dJ6_bitCount_0f7a4_34 rfl rfl ?_
  refine X_iload_n 36 dJ6_bitCount_0f7a4_35 rfl rfl ?_
  refine X_bipush 38 (v := 8) dJ6_bitCount_0f7a4_36 rfl rfl ?_
  refine Y_iushr 39 dJ6_bitCount_0f7a4_38 rfl ?_
  refine X_iadd 40 dJ6_bitCount_0f7a4_39 rfl ?_
  refine X_nmI (fun x4 ex4 => ?_)
  have hw := hw x4 ex4
  refine X_istore_n 41 (ls' := [.int x4]) dJ6_bitCount_0f7a4_40 rfl rfl (Nat.le_of_ble_eq_true rfl) rfl (Or.inl rfl) ?_
  refine X_iload_n 42 dJ6_bitCount_0f7a4_41 rfl rfl ?_
  refine X_iload_n 43 dJ6_bitCount_0f7a4_42 rfl rfl ?_
  refine X_bipush 45 (v := 16) dJ6_bitCount_0f7a4_43 rfl rfl ?_
  refine Y_iushr 46 dJ6_bitCount_0f7a4_45 rfl ?_
  refine X_iadd 47 dJ6_bitCount_0f7a4_46 rfl ?_
  refine X_nmI (fun x5 ex5 => ?_)
  have hw := hw x5 ex5
  refine X_istore_n 48 (ls' := [.int x5]) dJ6_bitCount_0f7a4_47 rfl rfl (Nat.le_of_ble_eq_true rfl) rfl (Or.inl rfl) ?_
  refine X_iload_n 49 dJ6_bitCount_0f7a4_48 rfl rfl ?_
  refine X_bipush 51 (v := 63) dJ6_bitCount_0f7a4_49 rfl rfl ?_
  refine X_iand 52 dJ6_bitCount_0f7a4_51 rfl ?_
  exact X_ret rfl rfl dJ6_bitCount_0f7a4_52 ⟨_, _, rfl, rfl, hw⟩
def w_X0_hungryOfLast30 (L : Lay) (ci : Nat) (M : Mem) (Q : Int32 → Mem → Prop) : Prop := w_J6_bitCount_0f7a4 L (mi M ci 4) M (fun x2 M1 => (Q x2 M1))
set_option maxRecDepth 20000 in
theorem s_X0_hungryOfLast30 {L : Lay} (hL : LY L) {ci : Nat} (hhci : OB L ci 0) {M : Mem} {Q : Int32 → Mem → Prop} (hw : w_X0_hungryOfLast30 L ci M Q) : MX yX0_hungryOfLast30 cX0_hungryOfLast30 (some .int) 1 2 0 0 [.ref ci] (L, M) (QI L Q) := by
  unfold w_X0_hungryOfLast30 at hw
  refine MX_of (by decide) [.ref ci] (by rfl) (by exact Nat.le_of_ble_eq_true rfl) ?_
  show X (FM (QI L Q)) RX0 cX0_hungryOfLast30 (some .int) 1 "hungryOfLast30" 2 0 0 (L, M) 0 [.ref ci] []
  refine X_aload_n 1 dX0_hungryOfLast30_0 rfl rfl ?_
  refine X_getI 4 f_X0_31 hhci rfl dX0_hungryOfLast30_1 rfl ?_
  refine Y_cSI 7 (as := [.int ((mi M ci 4))]) m_X0_38 (s_J6_bitCount_0f7a4 hL  hw) rfl (by decide) (Nat.le_of_ble_eq_true rfl) dX0_hungryOfLast30_4 rfl rfl (fun x2 M1 hw => ?_)
  exact X_ret rfl rfl dX0_hungryOfLast30_7 ⟨_, _, rfl, rfl, hw⟩
def w_X1_isVoid (L : Lay) (la : Nat) (p0 : Int32) (M : Mem) (Q : Int32 → Mem → Prop) : Prop := ∀ x1 : Int32, x1 = (if ((jshr (mi M la 0) p0) &&& (1 : Int32)) = (1 : Int32) then (1 : Int32) else (0 : Int32)) → (Q x1 M)
set_option maxRecDepth 20000 in
theorem s_X1_isVoid {L : Lay} (hL : LY L) {la : Nat} {p0 : Int32} (hhla : OB L la 1) {M : Mem} {Q : Int32 → Mem → Prop} (hw : w_X1_isVoid L la p0 M Q) : MX yX1_isVoid cX1_isVoid (some .boolean) 2 1 0 0 [.ref la, .int p0] (L, M) (QZ L Q) := by
  unfold w_X1_isVoid at hw
  refine MX_of (by decide) [.ref la, .int p0] (by rfl) (by exact Nat.le_of_ble_eq_true rfl) ?_
  show X (FM (QZ L Q)) RX1 cX1_isVoid (some .boolean) 2 "isVoid" 1 0 0 (L, M) 0 [.ref la, .int p0] []
  refine X_aload_n 1 dX1_isVoid_0 rfl rfl ?_
  refine X_getI 4 f_X1_7 hhla rfl dX1_isVoid_1 rfl ?_
  refine X_iload_n 5 dX1_isVoid_4 rfl rfl ?_
  refine Y_ishr 6 dX1_isVoid_5 rfl ?_
  refine X_iconst 7 (v := 1) dX1_isVoid_6 rfl rfl ?_
  refine X_iand 8 dX1_isVoid_7 rfl ?_
  refine X_iconst 9 (v := 1) dX1_isVoid_8 rfl rfl ?_
  obtain ⟨x1, ex1⟩ : ∃ x1 : Int32, x1 = (if ((jshr (mi M la 0) p0) &&& (1 : Int32)) = (1 : Int32) then (1 : Int32) else (0 : Int32)) := ⟨_, rfl⟩
  have hw := hw x1 ex1
  have bx1 : BZ x1 := by rw [ex1]; (repeat' split) <;> first | exact Or.inl rfl | exact Or.inr rfl
  have hJ : X (FM (QZ L Q)) RX1 cX1_isVoid (some .boolean) 2 "isVoid" 1 0 0 (L, M) 17 [.ref la, .int p0] [.int x1] := by
    exact X_ret rfl (nar_bool (bx1)) dX1_isVoid_17 ⟨_, _, rfl, bx1, rfl, hw⟩
  refine X_icmp_ne 16 12 dX1_isVoid_9 rfl rfl (fun c2 => ?_) (fun c2 => ?_)
  · refine X_iconst 17 (v := 0) dX1_isVoid_16 rfl rfl ?_
    rw [if_neg c2] at ex1
    rw [ex1] at hJ
    exact hJ
  · refine X_iconst 13 (v := 1) dX1_isVoid_12 rfl rfl ?_
    refine X_goto 17 dX1_isVoid_13 rfl ?_
    rw [if_pos c2] at ex1
    rw [ex1] at hJ
    exact hJ
def w_X6_factOf (L : Lay) (re : Nat) (p0 : Int32) (M : Mem) (Q : Int32 → Mem → Prop) : Prop := ((p0 < (13 : Int32) → (Q (0 : Int32) M)) ∧ (¬ p0 < (13 : Int32) → ((((26 : Int32) < p0 → (Q (0 : Int32) M)) ∧ (¬ (26 : Int32) < p0 → (vp_in (p0 - (13 : Int32)) 14 ∧ (Q (mi M (re + 1) (tn (p0 - (13 : Int32)))) M)))))))
set_option maxRecDepth 20000 in
theorem s_X6_factOf {L : Lay} (hL : LY L) {re : Nat} {p0 : Int32} (hhre : IsR L re) {M : Mem} {Q : Int32 → Mem → Prop} (hw : w_X6_factOf L re p0 M Q) : MX yX6_factOf cX6_factOf (some .int) 2 1 0 0 [.ref re, .int p0] (L, M) (QI L Q) := by
  unfold w_X6_factOf at hw
  refine MX_of (by decide) [.ref re, .int p0] (by rfl) (by exact Nat.le_of_ble_eq_true rfl) ?_
  show X (FM (QI L Q)) RX6 cX6_factOf (some .int) 2 "factOf" 1 0 0 (L, M) 0 [.ref re, .int p0] []
  refine X_iload_n 1 dX6_factOf_0 rfl rfl ?_
  refine X_bipush 3 (v := 13) dX6_factOf_1 rfl rfl ?_
  refine X_icmp_lt 24 6 dX6_factOf_3 rfl rfl (fun c1 => ?_) (fun c1 => ?_)
  · have hw := hw.1 c1
    refine X_iconst 25 (v := 0) dX6_factOf_24 rfl rfl ?_
    exact X_ret rfl rfl dX6_factOf_25 ⟨_, _, rfl, rfl, hw⟩
  · have hw := hw.2 c1
    refine X_iload_n 7 dX6_factOf_6 rfl rfl ?_
    refine X_bipush 9 (v := 26) dX6_factOf_7 rfl rfl ?_
    refine X_icmp_gt 24 12 dX6_factOf_9 rfl rfl (fun c2 => ?_) (fun c2 => ?_)
    · have hw := hw.1 c2
      refine X_iconst 25 (v := 0) dX6_factOf_24 rfl rfl ?_
      exact X_ret rfl rfl dX6_factOf_25 ⟨_, _, rfl, rfl, hw⟩
    · have hw := hw.2 c2
      refine X_aload_n 13 dX6_factOf_12 rfl rfl ?_
      refine X_getR 16 f_X6_9 hhre.1 rfl hhre.2.1 dX6_factOf_13 rfl ?_
      refine X_iload_n 17 dX6_factOf_16 rfl rfl ?_
      refine X_bipush 19 (v := 13) dX6_factOf_17 rfl rfl ?_
      refine X_isub 20 dX6_factOf_19 rfl ?_
      obtain ⟨c3, hw⟩ := hw
      refine Y_iald 21 (k := (tn (p0 - (13 : Int32)))) hhre.2.2.2.1 c3 rfl dX6_factOf_20 rfl ?_
      refine X_goto 25 dX6_factOf_21 rfl ?_
      exact X_ret rfl rfl dX6_factOf_25 ⟨_, _, rfl, rfl, hw⟩
def w_X6_combine (L : Lay) (p0 : Int32) (p1 : Int32) (p2 : Int32) (M : Mem) (Q : Int32 → Mem → Prop) : Prop := ((p0 = (9 : Int32) → (∀ x2 : Int32, x2 = (if p1 = 0 then (0 : Int32) else (if p2 = 0 then (0 : Int32) else (1 : Int32))) → (Q x2 M))) ∧ (¬ p0 = (9 : Int32) → (((p0 = (10 : Int32) → (∀ x6 : Int32, x6 = (if p1 = 0 then (if p2 = 0 then (0 : Int32) else (1 : Int32)) else (1 : Int32)) → (Q x6 M))) ∧ (¬ p0 = (10 : Int32) → (((p0 = (42 : Int32) → (Q (p1 * p2) M)) ∧ (¬ p0 = (42 : Int32) → (((p0 = (43 : Int32) → (Q (p1 + p2) M)) ∧ (¬ p0 = (43 : Int32) → (((p0 = (45 : Int32) → (Q (p1 - p2) M)) ∧ (¬ p0 = (45 : Int32) → (((p0 = (60 : Int32) → (∀ x13 : Int32, x13 = (if p1 < p2 then (1 : Int32) else (0 : Int32)) → (Q x13 M))) ∧ (¬ p0 = (60 : Int32) → (((p0 = (61 : Int32) → (∀ x16 : Int32, x16 = (if p1 = p2 then (1 : Int32) else (0 : Int32)) → (Q x16 M))) ∧ (¬ p0 = (61 : Int32) → (((p2 = 0 → (Q (0 : Int32) M)) ∧ (¬ p2 = 0 → (¬ p2 = 0 ∧ (Q (p1 / p2) M)))))))))))))))))))))))))
set_option maxRecDepth 20000 in
theorem s_X6_combine {L : Lay} (hL : LY L) {p0 : Int32} {p1 : Int32} {p2 : Int32}  {M : Mem} {Q : Int32 → Mem → Prop} (hw : w_X6_combine L p0 p1 p2 M Q) : MX yX6_combine cX6_combine (some .int) 3 1 0 0 [.int p0, .int p1, .int p2] (L, M) (QI L Q) := by
  unfold w_X6_combine at hw
  refine MX_of (by decide) [.int p0, .int p1, .int p2] (by rfl) (by exact Nat.le_of_ble_eq_true rfl) ?_
  show X (FM (QI L Q)) RX6 cX6_combine (some .int) 3 "combine" 1 0 0 (L, M) 0 [.int p0, .int p1, .int p2] []
  refine X_iload_n 1 dX6_combine_0 rfl rfl ?_
  by_cases c1 : p0 = (9 : Int32)
  · have hw := hw.1 c1
    refine Y_lookIn 68 (k := 9) (off := 67) c1 dX6_combine_1 (by decide) (by decide) rfl ?_
    refine X_iload_n 69 dX6_combine_68 rfl rfl ?_
    obtain ⟨x2, ex2⟩ : ∃ x2 : Int32, x2 = (if p1 = 0 then (0 : Int32) else (if p2 = 0 then (0 : Int32) else (1 : Int32))) := ⟨_, rfl⟩
    have hw := hw x2 ex2
    have bx2 : BZ x2 := by rw [ex2]; (repeat' split) <;> first | exact Or.inl rfl | exact Or.inr rfl
    have hJ : X (FM (QI L Q)) RX6 cX6_combine (some .int) 3 "combine" 1 0 0 (L, M) 81 [.int p0, .int p1, .int p2] [.int x2] := by
      exact X_ret rfl rfl dX6_combine_81 ⟨_, _, rfl, rfl, hw⟩
    refine X_if_eq 80 72 (y := 0) dX6_combine_69 rfl rfl (fun c3 => ?_) (fun c3 => ?_)
    · refine X_iconst 81 (v := 0) dX6_combine_80 rfl rfl ?_
      rw [if_pos c3] at ex2
      rw [ex2] at hJ
      exact hJ
    · refine X_iload_n 73 dX6_combine_72 rfl rfl ?_
      refine X_if_eq 80 76 (y := 0) dX6_combine_73 rfl rfl (fun c4 => ?_) (fun c4 => ?_)
      · refine X_iconst 81 (v := 0) dX6_combine_80 rfl rfl ?_
        rw [if_neg c3, if_pos c4] at ex2
        rw [ex2] at hJ
        exact hJ
      · refine X_iconst 77 (v := 1) dX6_combine_76 rfl rfl ?_
        refine X_goto 81 dX6_combine_77 rfl ?_
        rw [if_neg c3, if_neg c4] at ex2
        rw [ex2] at hJ
        exact hJ
  · have hw := hw.2 c1
    by_cases c5 : p0 = (10 : Int32)
    · have hw := hw.1 c5
      refine Y_lookIn 82 (k := 10) (off := 81) c5 dX6_combine_1 (by decide) (by decide) rfl ?_
      refine X_iload_n 83 dX6_combine_82 rfl rfl ?_
      obtain ⟨x6, ex6⟩ : ∃ x6 : Int32, x6 = (if p1 = 0 then (if p2 = 0 then (0 : Int32) else (1 : Int32)) else (1 : Int32)) := ⟨_, rfl⟩
      have hw := hw x6 ex6
      have bx6 : BZ x6 := by rw [ex6]; (repeat' split) <;> first | exact Or.inl rfl | exact Or.inr rfl
      have hJ : X (FM (QI L Q)) RX6 cX6_combine (some .int) 3 "combine" 1 0 0 (L, M) 95 [.int p0, .int p1, .int p2] [.int x6] := by
        exact X_ret rfl rfl dX6_combine_95 ⟨_, _, rfl, rfl, hw⟩
      refine X_if_ne 90 86 (y := 0) dX6_combine_83 rfl rfl (fun c7 => ?_) (fun c7 => ?_)
      · refine X_iconst 91 (v := 1) dX6_combine_90 rfl rfl ?_
        refine X_goto 95 dX6_combine_91 rfl ?_
        rw [if_neg c7] at ex6
        rw [ex6] at hJ
        exact hJ
      · refine X_iload_n 87 dX6_combine_86 rfl rfl ?_
        refine X_if_eq 94 90 (y := 0) dX6_combine_87 rfl rfl (fun c8 => ?_) (fun c8 => ?_)
        · refine X_iconst 95 (v := 0) dX6_combine_94 rfl rfl ?_
          rw [if_pos c7, if_pos c8] at ex6
          rw [ex6] at hJ
          exact hJ
        · refine X_iconst 91 (v := 1) dX6_combine_90 rfl rfl ?_
          refine X_goto 95 dX6_combine_91 rfl ?_
          rw [if_pos c7, if_neg c8] at ex6
          rw [ex6] at hJ
          exact hJ
    · have hw := hw.2 c5
      by_cases c9 : p0 = (42 : Int32)
      · have hw := hw.1 c9
        refine Y_lookIn 126 (k := 42) (off := 125) c9 dX6_combine_1 (by decide) (by decide) rfl ?_
        refine X_iload_n 127 dX6_combine_126 rfl rfl ?_
        refine X_iload_n 128 dX6_combine_127 rfl rfl ?_
        refine X_imul 129 dX6_combine_128 rfl ?_
        exact X_ret rfl rfl dX6_combine_129 ⟨_, _, rfl, rfl, hw⟩
      · have hw := hw.2 c9
        by_cases c10 : p0 = (43 : Int32)
        · have hw := hw.1 c10
          refine Y_lookIn 118 (k := 43) (off := 117) c10 dX6_combine_1 (by decide) (by decide) rfl ?_
          refine X_iload_n 119 dX6_combine_118 rfl rfl ?_
          refine X_iload_n 120 dX6_combine_119 rfl rfl ?_
          refine X_iadd 121 dX6_combine_120 rfl ?_
          exact X_ret rfl rfl dX6_combine_121 ⟨_, _, rfl, rfl, hw⟩
        · have hw := hw.2 c10
          by_cases c11 : p0 = (45 : Int32)
          · have hw := hw.1 c11
            refine Y_lookIn 122 (k := 45) (off := 121) c11 dX6_combine_1 (by decide) (by decide) rfl ?_
            refine X_iload_n 123 dX6_combine_122 rfl rfl ?_
            refine X_iload_n 124 dX6_combine_123 rfl rfl ?_
            refine X_isub 125 dX6_combine_124 rfl ?_
            exact X_ret rfl rfl dX6_combine_125 ⟨_, _, rfl, rfl, hw⟩
          · have hw := hw.2 c11
            by_cases c12 : p0 = (60 : Int32)
            · have hw := hw.1 c12
              refine Y_lookIn 96 (k := 60) (off := 95) c12 dX6_combine_1 (by decide) (by decide) rfl ?_
              refine X_iload_n 97 dX6_combine_96 rfl rfl ?_
              refine X_iload_n 98 dX6_combine_97 rfl rfl ?_
              obtain ⟨x13, ex13⟩ : ∃ x13 : Int32, x13 = (if p1 < p2 then (1 : Int32) else (0 : Int32)) := ⟨_, rfl⟩
              have hw := hw x13 ex13
              have bx13 : BZ x13 := by rw [ex13]; (repeat' split) <;> first | exact Or.inl rfl | exact Or.inr rfl
              have hJ : X (FM (QI L Q)) RX6 cX6_combine (some .int) 3 "combine" 1 0 0 (L, M) 106 [.int p0, .int p1, .int p2] [.int x13] := by
                exact X_ret rfl rfl dX6_combine_106 ⟨_, _, rfl, rfl, hw⟩
              refine X_icmp_ge 105 101 dX6_combine_98 rfl rfl (fun c14 => ?_) (fun c14 => ?_)
              · refine X_iconst 106 (v := 0) dX6_combine_105 rfl rfl ?_
                rw [if_neg c14] at ex13
                rw [ex13] at hJ
                exact hJ
              · refine X_iconst 102 (v := 1) dX6_combine_101 rfl rfl ?_
                refine X_goto 106 dX6_combine_102 rfl ?_
                rw [if_pos c14] at ex13
                rw [ex13] at hJ
                exact hJ
            · have hw := hw.2 c12
              by_cases c15 : p0 = (61 : Int32)
              · have hw := hw.1 c15
                refine Y_lookIn 107 (k := 61) (off := 106) c15 dX6_combine_1 (by decide) (by decide) rfl ?_
                refine X_iload_n 108 dX6_combine_107 rfl rfl ?_
                refine X_iload_n 109 dX6_combine_108 rfl rfl ?_
                obtain ⟨x16, ex16⟩ : ∃ x16 : Int32, x16 = (if p1 = p2 then (1 : Int32) else (0 : Int32)) := ⟨_, rfl⟩
                have hw := hw x16 ex16
                have bx16 : BZ x16 := by rw [ex16]; (repeat' split) <;> first | exact Or.inl rfl | exact Or.inr rfl
                have hJ : X (FM (QI L Q)) RX6 cX6_combine (some .int) 3 "combine" 1 0 0 (L, M) 117 [.int p0, .int p1, .int p2] [.int x16] := by
                  exact X_ret rfl rfl dX6_combine_117 ⟨_, _, rfl, rfl, hw⟩
                refine X_icmp_ne 116 112 dX6_combine_109 rfl rfl (fun c17 => ?_) (fun c17 => ?_)
                · refine X_iconst 117 (v := 0) dX6_combine_116 rfl rfl ?_
                  rw [if_neg c17] at ex16
                  rw [ex16] at hJ
                  exact hJ
                · refine X_iconst 113 (v := 1) dX6_combine_112 rfl rfl ?_
                  refine X_goto 117 dX6_combine_113 rfl ?_
                  rw [if_pos c17] at ex16
                  rw [ex16] at hJ
                  exact hJ
              · have hw := hw.2 c15
                refine X_lookup 130 dX6_combine_1 (by decide) ((lv_osw c1 (by decide)).trans ((lv_osw c5 (by decide)).trans ((lv_osw c9 (by decide)).trans ((lv_osw c10 (by decide)).trans ((lv_osw c11 (by decide)).trans ((lv_osw c12 (by decide)).trans ((lv_osw c15 (by decide)).trans rfl))))))) rfl ?_
                refine X_iload_n 131 dX6_combine_130 rfl rfl ?_
                refine X_if_ne 138 134 (y := 0) dX6_combine_131 rfl rfl (fun c18 => ?_) (fun c18 => ?_)
                · have hw := hw.2 c18
                  refine X_iload_n 139 dX6_combine_138 rfl rfl ?_
                  refine X_iload_n 140 dX6_combine_139 rfl rfl ?_
                  obtain ⟨c19, hw⟩ := hw
                  refine X_idiv 141 dX6_combine_140 rfl c19 ?_
                  exact X_ret rfl rfl dX6_combine_141 ⟨_, _, rfl, rfl, hw⟩
                · have hw := hw.1 c18
                  refine X_iconst 135 (v := 0) dX6_combine_134 rfl rfl ?_
                  refine X_goto 141 dX6_combine_135 rfl ?_
                  exact X_ret rfl rfl dX6_combine_141 ⟨_, _, rfl, rfl, hw⟩
def w_X6_reckon_69 (L : Lay) (re : Nat) (p0 : Option Nat) (p1 : Int32) (K11 : Int32 → Int32 → Mem → Prop) (v3 : Int32) (v4 : Int32) (y0 : Int32) (y1 : Int32) (M : Mem) (Q : Int32 → Mem → Prop) : Prop := vp_in y1 64 ∧ (∀ M34 : Mem, M34 = si M (re + 2) (tn y1) y0 → (∀ x35 : Int32, x35 = v3 + (1 : Int32) → (∀ x36 : Int32, x36 = v4 + (1 : Int32) → (K11 x35 x36 M34))))
set_option maxRecDepth 20000 in
theorem t_X6_reckon_69 {L : Lay} (hL : LY L) {re : Nat} {p0 : Option Nat} {p1 : Int32} (hhre : IsR L re) {K11 : Int32 → Int32 → Mem → Prop} {v3 : Int32} {v4 : Int32} {y0 : Int32} {y1 : Int32}  {M : Mem} {Q : Int32 → Mem → Prop} (hw : w_X6_reckon_69 L re p0 p1 K11 v3 v4 y0 y1 M Q) (hK11 : ∀ (v3 : Int32) (v4 : Int32) (M : Mem), K11 v3 v4 M → X (FM (QI L Q)) RX6 cX6_reckon (some .int) 6 "reckon" 2 0 0 (L, M) 11 [.ref re, va_rf p0, .int p1, .int v3, .int v4, junk] []) : X (FM (QI L Q)) RX6 cX6_reckon (some .int) 6 "reckon" 2 0 0 (L, M) 69 [.ref re, va_rf p0, .int p1, .int v3, .int v4, junk] [.int y0, .int y1, .ref ((re + 2))] := by
  unfold w_X6_reckon_69 at hw
  obtain ⟨c33, hw⟩ := hw
  refine Y_iast 70 (k := (tn y1)) hhre.2.2.2.2 c33 rfl dX6_reckon_69 rfl ?_
  refine X_nmM (fun M34 eM34 => ?_)
  have hw := hw M34 eM34
  obtain ⟨x35, ex35⟩ : ∃ x35 : Int32, x35 = v3 + (1 : Int32) := ⟨_, rfl⟩
  have hw := hw x35 ex35
  refine X_iinc 73 (v := x35) (ls' := [.ref re, va_rf p0, .int p1, .int x35, .int v4, junk]) dX6_reckon_70 rfl rfl (by rw [ex35]; rfl) rfl (Or.inr (Or.inr ⟨_, rfl, rfl⟩)) ?_
  refine X_goto 154 dX6_reckon_73 rfl ?_
  obtain ⟨x36, ex36⟩ : ∃ x36 : Int32, x36 = v4 + (1 : Int32) := ⟨_, rfl⟩
  have hw := hw x36 ex36
  refine X_iinc 157 (v := x36) (ls' := [.ref re, va_rf p0, .int p1, .int x35, .int x36, junk]) dX6_reckon_154 rfl rfl (by rw [ex36]; rfl) rfl (Or.inr (Or.inr ⟨_, rfl, rfl⟩)) ?_
  refine X_goto 11 dX6_reckon_157 rfl ?_
  exact hK11 x35 x36 M34 hw
def w_X6_reckon_11 (L : Lay) (re : Nat) (p0 : Option Nat) (p1 : Int32) (K11 : Int32 → Int32 → Mem → Prop) (v3 : Int32) (v4 : Int32) (M : Mem) (Q : Int32 → Mem → Prop) : Prop := ∃ a3 a3n : Nat, p0 = some a3 ∧ AR L a3 0 a3n ∧ (((v4 < (nI a3n) → (∃ a7 a7n : Nat, p0 = some a7 ∧ AR L a7 0 a7n ∧ (vp_in v4 a7n ∧ (∀ x9 : Int32, x9 = (mi M a7 (tn v4)) → (((x9 < (20000 : Int32) → (((v3 < (nI 64) → (((x9 < (10000 : Int32) → (w_X6_reckon_69 L re p0 p1 K11 v3 v4 x9 v3 M Q)) ∧ (¬ x9 < (10000 : Int32) → (w_X6_factOf L re (x9 - (10000 : Int32)) M (fun x32 M31 => (w_X6_reckon_69 L re p0 p1 K11 v3 v4 x32 v3 M31 Q))))))) ∧ (¬ v3 < (nI 64) → (∀ x29 : Int32, x29 = v4 + (1 : Int32) → (K11 v3 x29 M)))))) ∧ (¬ x9 < (20000 : Int32) → (((x9 = (20011 : Int32) → (((0 < v3 → (vp_in (v3 - (1 : Int32)) 64 ∧ (∀ x24 : Int32, x24 = (if (mi M (re + 2) (tn (v3 - (1 : Int32)))) = 0 then (1 : Int32) else (0 : Int32)) → (∀ M25 : Mem, M25 = si M (re + 2) (tn (v3 - (1 : Int32))) x24 → (∀ x26 : Int32, x26 = v4 + (1 : Int32) → (K11 v3 x26 M25)))))) ∧ (¬ 0 < v3 → (∀ x22 : Int32, x22 = v4 + (1 : Int32) → (K11 v3 x22 M)))))) ∧ (¬ x9 = (20011 : Int32) → ((((1 : Int32) < v3 → (∀ x14 : Int32, x14 = v3 + (-1 : Int32) → (vp_in (x14 - (1 : Int32)) 64 ∧ (vp_in x14 64 ∧ (w_X6_combine L (x9 - (20000 : Int32)) (mi M (re + 2) (tn (x14 - (1 : Int32)))) (mi M (re + 2) (tn x14)) M (fun x18 M17 => (∀ M19 : Mem, M19 = si M17 (re + 2) (tn (x14 - (1 : Int32))) x18 → (∀ x20 : Int32, x20 = v4 + (1 : Int32) → (K11 x14 x20 M19))))))))) ∧ (¬ (1 : Int32) < v3 → (∀ x13 : Int32, x13 = v4 + (1 : Int32) → (K11 v3 x13 M))))))))))))))) ∧ (¬ v4 < (nI a3n) → (((0 < v3 → (vp_in (v3 - (1 : Int32)) 64 ∧ (Q (mi M (re + 2) (tn (v3 - (1 : Int32)))) M))) ∧ (¬ 0 < v3 → (Q p1 M)))))))
set_option maxRecDepth 20000 in
theorem t_X6_reckon_11 {L : Lay} (hL : LY L) {re : Nat} {p0 : Option Nat} {p1 : Int32} (hhre : IsR L re) {K11 : Int32 → Int32 → Mem → Prop} {v3 : Int32} {v4 : Int32}  {M : Mem} {Q : Int32 → Mem → Prop} (hw : w_X6_reckon_11 L re p0 p1 K11 v3 v4 M Q) (hK11 : ∀ (v3 : Int32) (v4 : Int32) (M : Mem), K11 v3 v4 M → X (FM (QI L Q)) RX6 cX6_reckon (some .int) 6 "reckon" 2 0 0 (L, M) 11 [.ref re, va_rf p0, .int p1, .int v3, .int v4, junk] []) : X (FM (QI L Q)) RX6 cX6_reckon (some .int) 6 "reckon" 2 0 0 (L, M) 11 [.ref re, va_rf p0, .int p1, .int v3, .int v4, junk] [] := by
  unfold w_X6_reckon_11 at hw
  refine X_iload 13 dX6_reckon_11 rfl rfl ?_
  refine X_aloadQ_n 14 dX6_reckon_13 rfl rfl ?_
  obtain ⟨a3, a3n, ea3, ha3, hw⟩ := hw
  refine X_rfS ea3 ?_
  refine X_alen 15 (t := 0) (by decide) ha3 dX6_reckon_14 rfl ?_
  refine X_icmp_ge 160 18 dX6_reckon_15 rfl rfl (fun c4 => ?_) (fun c4 => ?_)
  · have hw := hw.2 c4
    refine X_iload_n 161 dX6_reckon_160 rfl rfl ?_
    refine X_if_le 175 164 (y := 0) dX6_reckon_161 rfl rfl (fun c5 => ?_) (fun c5 => ?_)
    · have hw := hw.2 c5
      refine X_iload_n 176 dX6_reckon_175 rfl rfl ?_
      exact X_ret rfl rfl dX6_reckon_176 ⟨_, _, rfl, rfl, hw⟩
    · have hw := hw.1 c5
      refine X_aload_n 165 dX6_reckon_164 rfl rfl ?_
      refine X_getR 168 f_X6_15 hhre.1 rfl hhre.2.2.1 dX6_reckon_165 rfl ?_
      refine X_iload_n 169 dX6_reckon_168 rfl rfl ?_
      refine X_iconst 170 (v := 1) dX6_reckon_169 rfl rfl ?_
      refine X_isub 171 dX6_reckon_170 rfl ?_
      obtain ⟨c6, hw⟩ := hw
      refine Y_iald 172 (k := (tn (v3 - (1 : Int32)))) hhre.2.2.2.2 c6 rfl dX6_reckon_171 rfl ?_
      refine X_goto 176 dX6_reckon_172 rfl ?_
      exact X_ret rfl rfl dX6_reckon_176 ⟨_, _, rfl, rfl, hw⟩
  · have hw := hw.1 c4
    refine X_aloadQ_n 19 dX6_reckon_18 rfl rfl ?_
    obtain ⟨a7, a7n, ea7, ha7, hw⟩ := hw
    refine X_rfS ea7 ?_
    refine X_iload 21 dX6_reckon_19 rfl rfl ?_
    obtain ⟨c8, hw⟩ := hw
    refine Y_iald 22 (k := (tn v4)) ha7 c8 rfl dX6_reckon_21 rfl ?_
    refine X_nmI (fun x9 ex9 => ?_)
    have hw := hw x9 ex9
    refine X_istore 24 (ls' := [.ref re, va_rf p0, .int p1, .int v3, .int v4, .int x9]) dX6_reckon_22 rfl (Nat.le_of_ble_eq_true rfl) rfl (Or.inr (Or.inr ⟨_, rfl, rfl⟩)) ?_
    refine X_iload 26 dX6_reckon_24 rfl rfl ?_
    refine X_sipush 29 (v := 20000) dX6_reckon_26 rfl rfl ?_
    refine X_icmp_ge 76 32 dX6_reckon_29 rfl rfl (fun c10 => ?_) (fun c10 => ?_)
    · have hw := hw.2 c10
      refine X_iload 78 dX6_reckon_76 rfl rfl ?_
      refine X_sipush 81 (v := 20011) dX6_reckon_78 rfl rfl ?_
      refine X_icmp_ne 115 84 dX6_reckon_81 rfl rfl (fun c11 => ?_) (fun c11 => ?_)
      · have hw := hw.2 c11
        refine X_iload_n 116 dX6_reckon_115 rfl rfl ?_
        refine X_iconst 117 (v := 1) dX6_reckon_116 rfl rfl ?_
        refine X_icmp_le 154 120 dX6_reckon_117 rfl rfl (fun c12 => ?_) (fun c12 => ?_)
        · have hw := hw.2 c12
          obtain ⟨x13, ex13⟩ : ∃ x13 : Int32, x13 = v4 + (1 : Int32) := ⟨_, rfl⟩
          have hw := hw x13 ex13
          refine X_iinc 157 (v := x13) (ls' := [.ref re, va_rf p0, .int p1, .int v3, .int x13, .int x9]) dX6_reckon_154 rfl rfl (by rw [ex13]; rfl) rfl (Or.inr (Or.inr ⟨_, rfl, rfl⟩)) ?_
          refine X_goto 11 dX6_reckon_157 rfl ?_
          refine X_weak (ls' := [.ref re, va_rf p0, .int p1, .int v3, .int x13, junk]) (WK.s (WK.s (WK.s (WK.s (WK.s (WK.j WK.n)))))) (Nat.le_of_ble_eq_true rfl) ?_
          exact hK11 v3 x13 M hw
        · have hw := hw.1 c12
          obtain ⟨x14, ex14⟩ : ∃ x14 : Int32, x14 = v3 + (-1 : Int32) := ⟨_, rfl⟩
          have hw := hw x14 ex14
          refine X_iinc 123 (v := x14) (ls' := [.ref re, va_rf p0, .int p1, .int x14, .int v4, .int x9]) dX6_reckon_120 rfl rfl (by rw [ex14]; rfl) rfl (Or.inr (Or.inr ⟨_, rfl, rfl⟩)) ?_
          refine X_aload_n 124 dX6_reckon_123 rfl rfl ?_
          refine X_getR 127 f_X6_15 hhre.1 rfl hhre.2.2.1 dX6_reckon_124 rfl ?_
          refine X_iload_n 128 dX6_reckon_127 rfl rfl ?_
          refine X_iconst 129 (v := 1) dX6_reckon_128 rfl rfl ?_
          refine X_isub 130 dX6_reckon_129 rfl ?_
          refine X_iload 132 dX6_reckon_130 rfl rfl ?_
          refine X_sipush 135 (v := 20000) dX6_reckon_132 rfl rfl ?_
          refine X_isub 136 dX6_reckon_135 rfl ?_
          refine X_aload_n 137 dX6_reckon_136 rfl rfl ?_
          refine X_getR 140 f_X6_15 hhre.1 rfl hhre.2.2.1 dX6_reckon_137 rfl ?_
          refine X_iload_n 141 dX6_reckon_140 rfl rfl ?_
          refine X_iconst 142 (v := 1) dX6_reckon_141 rfl rfl ?_
          refine X_isub 143 dX6_reckon_142 rfl ?_
          obtain ⟨c15, hw⟩ := hw
          refine Y_iald 144 (k := (tn (x14 - (1 : Int32)))) hhre.2.2.2.2 c15 rfl dX6_reckon_143 rfl ?_
          refine X_aload_n 145 dX6_reckon_144 rfl rfl ?_
          refine X_getR 148 f_X6_15 hhre.1 rfl hhre.2.2.1 dX6_reckon_145 rfl ?_
          refine X_iload_n 149 dX6_reckon_148 rfl rfl ?_
          obtain ⟨c16, hw⟩ := hw
          refine Y_iald 150 (k := (tn x14)) hhre.2.2.2.2 c16 rfl dX6_reckon_149 rfl ?_
          refine Y_cSI 153 (as := [.int ((x9 - (20000 : Int32))), .int ((mi M (re + 2) (tn (x14 - (1 : Int32))))), .int ((mi M (re + 2) (tn x14)))]) m_X6_53 (s_X6_combine hL  hw) rfl (by decide) (Nat.le_of_ble_eq_true rfl) dX6_reckon_150 rfl rfl (fun x18 M17 hw => ?_)
          refine Y_iast 154 (k := (tn (x14 - (1 : Int32)))) hhre.2.2.2.2 c15 rfl dX6_reckon_153 rfl ?_
          refine X_nmM (fun M19 eM19 => ?_)
          have hw := hw M19 eM19
          obtain ⟨x20, ex20⟩ : ∃ x20 : Int32, x20 = v4 + (1 : Int32) := ⟨_, rfl⟩
          have hw := hw x20 ex20
          refine X_iinc 157 (v := x20) (ls' := [.ref re, va_rf p0, .int p1, .int x14, .int x20, .int x9]) dX6_reckon_154 rfl rfl (by rw [ex20]; rfl) rfl (Or.inr (Or.inr ⟨_, rfl, rfl⟩)) ?_
          refine X_goto 11 dX6_reckon_157 rfl ?_
          refine X_weak (ls' := [.ref re, va_rf p0, .int p1, .int x14, .int x20, junk]) (WK.s (WK.s (WK.s (WK.s (WK.s (WK.j WK.n)))))) (Nat.le_of_ble_eq_true rfl) ?_
          exact hK11 x14 x20 M19 hw
      · have hw := hw.1 c11
        refine X_iload_n 85 dX6_reckon_84 rfl rfl ?_
        refine X_if_le 154 88 (y := 0) dX6_reckon_85 rfl rfl (fun c21 => ?_) (fun c21 => ?_)
        · have hw := hw.2 c21
          obtain ⟨x22, ex22⟩ : ∃ x22 : Int32, x22 = v4 + (1 : Int32) := ⟨_, rfl⟩
          have hw := hw x22 ex22
          refine X_iinc 157 (v := x22) (ls' := [.ref re, va_rf p0, .int p1, .int v3, .int x22, .int x9]) dX6_reckon_154 rfl rfl (by rw [ex22]; rfl) rfl (Or.inr (Or.inr ⟨_, rfl, rfl⟩)) ?_
          refine X_goto 11 dX6_reckon_157 rfl ?_
          refine X_weak (ls' := [.ref re, va_rf p0, .int p1, .int v3, .int x22, junk]) (WK.s (WK.s (WK.s (WK.s (WK.s (WK.j WK.n)))))) (Nat.le_of_ble_eq_true rfl) ?_
          exact hK11 v3 x22 M hw
        · have hw := hw.1 c21
          refine X_aload_n 89 dX6_reckon_88 rfl rfl ?_
          refine X_getR 92 f_X6_15 hhre.1 rfl hhre.2.2.1 dX6_reckon_89 rfl ?_
          refine X_iload_n 93 dX6_reckon_92 rfl rfl ?_
          refine X_iconst 94 (v := 1) dX6_reckon_93 rfl rfl ?_
          refine X_isub 95 dX6_reckon_94 rfl ?_
          refine X_aload_n 96 dX6_reckon_95 rfl rfl ?_
          refine X_getR 99 f_X6_15 hhre.1 rfl hhre.2.2.1 dX6_reckon_96 rfl ?_
          refine X_iload_n 100 dX6_reckon_99 rfl rfl ?_
          refine X_iconst 101 (v := 1) dX6_reckon_100 rfl rfl ?_
          refine X_isub 102 dX6_reckon_101 rfl ?_
          obtain ⟨c23, hw⟩ := hw
          refine Y_iald 103 (k := (tn (v3 - (1 : Int32)))) hhre.2.2.2.2 c23 rfl dX6_reckon_102 rfl ?_
          obtain ⟨x24, ex24⟩ : ∃ x24 : Int32, x24 = (if (mi M (re + 2) (tn (v3 - (1 : Int32)))) = 0 then (1 : Int32) else (0 : Int32)) := ⟨_, rfl⟩
          have hw := hw x24 ex24
          have bx24 : BZ x24 := by rw [ex24]; (repeat' split) <;> first | exact Or.inl rfl | exact Or.inr rfl
          have hJ : X (FM (QI L Q)) RX6 cX6_reckon (some .int) 6 "reckon" 2 0 0 (L, M) 111 [.ref re, va_rf p0, .int p1, .int v3, .int v4, .int x9] [.int x24, .int ((v3 - (1 : Int32))), .ref ((re + 2))] := by
            refine Y_iast 112 (k := (tn (v3 - (1 : Int32)))) hhre.2.2.2.2 c23 rfl dX6_reckon_111 rfl ?_
            refine X_nmM (fun M25 eM25 => ?_)
            have hw := hw M25 eM25
            refine X_goto 154 dX6_reckon_112 rfl ?_
            obtain ⟨x26, ex26⟩ : ∃ x26 : Int32, x26 = v4 + (1 : Int32) := ⟨_, rfl⟩
            have hw := hw x26 ex26
            refine X_iinc 157 (v := x26) (ls' := [.ref re, va_rf p0, .int p1, .int v3, .int x26, .int x9]) dX6_reckon_154 rfl rfl (by rw [ex26]; rfl) rfl (Or.inr (Or.inr ⟨_, rfl, rfl⟩)) ?_
            refine X_goto 11 dX6_reckon_157 rfl ?_
            refine X_weak (ls' := [.ref re, va_rf p0, .int p1, .int v3, .int x26, junk]) (WK.s (WK.s (WK.s (WK.s (WK.s (WK.j WK.n)))))) (Nat.le_of_ble_eq_true rfl) ?_
            exact hK11 v3 x26 M25 hw
          refine X_if_ne 110 106 (y := 0) dX6_reckon_103 rfl rfl (fun c27 => ?_) (fun c27 => ?_)
          · refine X_iconst 111 (v := 0) dX6_reckon_110 rfl rfl ?_
            rw [if_neg c27] at ex24
            rw [ex24] at hJ
            exact hJ
          · refine X_iconst 107 (v := 1) dX6_reckon_106 rfl rfl ?_
            refine X_goto 111 dX6_reckon_107 rfl ?_
            rw [if_pos c27] at ex24
            rw [ex24] at hJ
            exact hJ
    · have hw := hw.1 c10
      refine X_iload_n 33 dX6_reckon_32 rfl rfl ?_
      refine X_aload_n 34 dX6_reckon_33 rfl rfl ?_
      refine X_getR 37 f_X6_15 hhre.1 rfl hhre.2.2.1 dX6_reckon_34 rfl ?_
      refine X_alen 38 (t := 0) (by decide) hhre.2.2.2.2 dX6_reckon_37 rfl ?_
      refine X_icmp_ge 154 41 dX6_reckon_38 rfl rfl (fun c28 => ?_) (fun c28 => ?_)
      · have hw := hw.2 c28
        obtain ⟨x29, ex29⟩ : ∃ x29 : Int32, x29 = v4 + (1 : Int32) := ⟨_, rfl⟩
        have hw := hw x29 ex29
        refine X_iinc 157 (v := x29) (ls' := [.ref re, va_rf p0, .int p1, .int v3, .int x29, .int x9]) dX6_reckon_154 rfl rfl (by rw [ex29]; rfl) rfl (Or.inr (Or.inr ⟨_, rfl, rfl⟩)) ?_
        refine X_goto 11 dX6_reckon_157 rfl ?_
        refine X_weak (ls' := [.ref re, va_rf p0, .int p1, .int v3, .int x29, junk]) (WK.s (WK.s (WK.s (WK.s (WK.s (WK.j WK.n)))))) (Nat.le_of_ble_eq_true rfl) ?_
        exact hK11 v3 x29 M hw
      · have hw := hw.1 c28
        refine X_aload_n 42 dX6_reckon_41 rfl rfl ?_
        refine X_getR 45 f_X6_15 hhre.1 rfl hhre.2.2.1 dX6_reckon_42 rfl ?_
        refine X_iload_n 46 dX6_reckon_45 rfl rfl ?_
        refine X_iload 48 dX6_reckon_46 rfl rfl ?_
        refine X_sipush 51 (v := 10000) dX6_reckon_48 rfl rfl ?_
        refine X_icmp_ge 59 54 dX6_reckon_51 rfl rfl (fun c30 => ?_) (fun c30 => ?_)
        · have hw := hw.2 c30
          refine X_aload_n 60 dX6_reckon_59 rfl rfl ?_
          refine X_iload 62 dX6_reckon_60 rfl rfl ?_
          refine X_sipush 65 (v := 10000) dX6_reckon_62 rfl rfl ?_
          refine X_isub 66 dX6_reckon_65 rfl ?_
          refine Y_cVI 69 (as := [.int ((x9 - (10000 : Int32)))]) m_X6_49 (s_X6_factOf hL hhre hw) hhre.1 rfl (by decide) (Nat.le_of_ble_eq_true rfl) dX6_reckon_66 rfl rfl (fun x32 M31 hw => ?_)
          refine X_weak (ls' := [.ref re, va_rf p0, .int p1, .int v3, .int v4, junk]) (WK.s (WK.s (WK.s (WK.s (WK.s (WK.j WK.n)))))) (Nat.le_of_ble_eq_true rfl) ?_
          exact t_X6_reckon_69 hL hhre  hw hK11
        · have hw := hw.1 c30
          refine X_iload 56 dX6_reckon_54 rfl rfl ?_
          refine X_goto 69 dX6_reckon_56 rfl ?_
          refine X_weak (ls' := [.ref re, va_rf p0, .int p1, .int v3, .int v4, junk]) (WK.s (WK.s (WK.s (WK.s (WK.s (WK.j WK.n)))))) (Nat.le_of_ble_eq_true rfl) ?_
          exact t_X6_reckon_69 hL hhre  hw hK11
def w_X6_reckon (L : Lay) (re : Nat) (p0 : Option Nat) (p1 : Int32) (M : Mem) (Q : Int32 → Mem → Prop) : Prop := ((p0 = none → (Q p1 M)) ∧ ∀ a2 : Nat, p0 = some a2 → (LP3 (fun K11 v3 v4 M => w_X6_reckon_11 L re p0 p1  K11 v3 v4 M Q) (0 : Int32) (0 : Int32) M))
set_option maxRecDepth 20000 in
theorem s_X6_reckon {L : Lay} (hL : LY L) {re : Nat} {p0 : Option Nat} {p1 : Int32} (hhre : IsR L re) {M : Mem} {Q : Int32 → Mem → Prop} (hw : w_X6_reckon L re p0 p1 M Q) : MX yX6_reckon cX6_reckon (some .int) 6 2 0 0 [.ref re, va_rf p0, .int p1] (L, M) (QI L Q) := by
  unfold w_X6_reckon at hw
  refine MX_of (by decide) [.ref re, va_rf p0, .int p1, junk, junk, junk] (by cases p0 <;> rfl) (by cases p0 <;> exact Nat.le_of_ble_eq_true rfl) ?_
  show X (FM (QI L Q)) RX6 cX6_reckon (some .int) 6 "reckon" 2 0 0 (L, M) 0 [.ref re, va_rf p0, .int p1, junk, junk, junk] []
  refine X_aloadQ_n 1 dX6_reckon_0 rfl rfl ?_
  refine X_ifnonnull 6 4 dX6_reckon_1 rfl rfl (fun a2 c1 => ?_) (fun c1 => ?_)
  · have hw := hw.2 a2 c1
    refine X_iconst 7 (v := 0) dX6_reckon_6 rfl rfl ?_
    refine X_istore_n 8 (ls' := [.ref re, va_rf p0, .int p1, .int (0 : Int32), junk, junk]) dX6_reckon_7 rfl rfl (Nat.le_of_ble_eq_true rfl) rfl (Or.inr (Or.inr ⟨_, rfl, rfl⟩)) ?_
    refine X_iconst 9 (v := 0) dX6_reckon_8 rfl rfl ?_
    refine X_istore 11 (ls' := [.ref re, va_rf p0, .int p1, .int (0 : Int32), .int (0 : Int32), junk]) dX6_reckon_9 rfl (Nat.le_of_ble_eq_true rfl) rfl (Or.inr (Or.inr ⟨_, rfl, rfl⟩)) ?_
    exact LP3_s hw (G := fun v3 v4 M => X (FM (QI L Q)) RX6 cX6_reckon (some .int) 6 "reckon" 2 0 0 (L, M) 11 [.ref re, va_rf p0, .int p1, .int v3, .int v4, junk] []) (fun K11 v3 v4 M hb hK => t_X6_reckon_11 hL hhre hb  hK)
  · have hw := hw.1 c1
    refine X_iload_n 5 dX6_reckon_4 rfl rfl ?_
    exact X_ret rfl rfl dX6_reckon_5 ⟨_, _, rfl, rfl, hw⟩
def w_X6_setOwner (L : Lay) (re : Nat) (ow : Nat) (M : Mem) (Q : Mem → Prop) : Prop := w_X6_setFact L re (13 : Int32) (mi M ow 1) M (fun M1 => (w_X6_setFact L re (14 : Int32) (mi M1 ow 0) M1 (fun M2 => (w_X6_setFact L re (15 : Int32) (mi M2 ow 2) M2 (fun M3 => (w_X6_setFact L re (16 : Int32) (mi M3 ow 6) M3 (fun M4 => (w_X6_setFact L re (17 : Int32) (mi M4 ow 10) M4 (fun M5 => (w_X6_setFact L re (18 : Int32) (mi M5 ow 11) M5 (fun M6 => (Q M6))))))))))))
set_option maxRecDepth 20000 in
theorem s_X6_setOwner {L : Lay} (hL : LY L) {re : Nat} {ow : Nat} (hhre : IsR L re) (hhow : OB L ow 3) {M : Mem} {Q : Mem → Prop} (hw : w_X6_setOwner L re ow M Q) : MX yX6_setOwner cX6_setOwner none 2 2 0 0 [.ref re, .ref ow] (L, M) (QV L Q) := by
  unfold w_X6_setOwner at hw
  refine MX_of (by decide) [.ref re, .ref ow] (by rfl) (by exact Nat.le_of_ble_eq_true rfl) ?_
  show X (FM (QV L Q)) RX6 cX6_setOwner none 2 "setOwner" 2 0 0 (L, M) 0 [.ref re, .ref ow] []
  refine X_aload_n 1 dX6_setOwner_0 rfl rfl ?_
  refine X_bipush 3 (v := 13) dX6_setOwner_1 rfl rfl ?_
  refine X_aload_n 4 dX6_setOwner_3 rfl rfl ?_
  refine X_getI 7 f_X6_24 hhow rfl dX6_setOwner_4 rfl ?_
  refine Y_cVV 10 (as := [.int (13 : Int32), .int ((mi M ow 1))]) m_X6_30 (s_X6_setFact hL hhre hw) hhre.1 rfl (by decide) (Nat.le_of_ble_eq_true rfl) dX6_setOwner_7 rfl rfl (fun M1 hw => ?_)
  refine X_aload_n 11 dX6_setOwner_10 rfl rfl ?_
  refine X_bipush 13 (v := 14) dX6_setOwner_11 rfl rfl ?_
  refine X_aload_n 14 dX6_setOwner_13 rfl rfl ?_
  refine X_getI 17 f_X6_34 hhow rfl dX6_setOwner_14 rfl ?_
  refine Y_cVV 20 (as := [.int (14 : Int32), .int ((mi M1 ow 0))]) m_X6_30 (s_X6_setFact hL hhre hw) hhre.1 rfl (by decide) (Nat.le_of_ble_eq_true rfl) dX6_setOwner_17 rfl rfl (fun M2 hw => ?_)
  refine X_aload_n 21 dX6_setOwner_20 rfl rfl ?_
  refine X_bipush 23 (v := 15) dX6_setOwner_21 rfl rfl ?_
  refine X_aload_n 24 dX6_setOwner_23 rfl rfl ?_
  refine X_getI 27 f_X6_37 hhow rfl dX6_setOwner_24 rfl ?_
  refine Y_cVV 30 (as := [.int (15 : Int32), .int ((mi M2 ow 2))]) m_X6_30 (s_X6_setFact hL hhre hw) hhre.1 rfl (by decide) (Nat.le_of_ble_eq_true rfl) dX6_setOwner_27 rfl rfl (fun M3 hw => ?_)
  refine X_aload_n 31 dX6_setOwner_30 rfl rfl ?_
  refine X_bipush 33 (v := 16) dX6_setOwner_31 rfl rfl ?_
  refine X_aload_n 34 dX6_setOwner_33 rfl rfl ?_
  refine X_getI 37 f_X6_40 hhow rfl dX6_setOwner_34 rfl ?_
  refine Y_cVV 40 (as := [.int (16 : Int32), .int ((mi M3 ow 6))]) m_X6_30 (s_X6_setFact hL hhre hw) hhre.1 rfl (by decide) (Nat.le_of_ble_eq_true rfl) dX6_setOwner_37 rfl rfl (fun M4 hw => ?_)
  refine X_aload_n 41 dX6_setOwner_40 rfl rfl ?_
  refine X_bipush 43 (v := 17) dX6_setOwner_41 rfl rfl ?_
  refine X_aload_n 44 dX6_setOwner_43 rfl rfl ?_
  refine X_getI 47 f_X6_43 hhow rfl dX6_setOwner_44 rfl ?_
  refine Y_cVV 50 (as := [.int (17 : Int32), .int ((mi M4 ow 10))]) m_X6_30 (s_X6_setFact hL hhre hw) hhre.1 rfl (by decide) (Nat.le_of_ble_eq_true rfl) dX6_setOwner_47 rfl rfl (fun M5 hw => ?_)
  refine X_aload_n 51 dX6_setOwner_50 rfl rfl ?_
  refine X_bipush 53 (v := 18) dX6_setOwner_51 rfl rfl ?_
  refine X_aload_n 54 dX6_setOwner_53 rfl rfl ?_
  refine X_getI 57 f_X6_46 hhow rfl dX6_setOwner_54 rfl ?_
  refine Y_cVV 60 (as := [.int (18 : Int32), .int ((mi M5 ow 11))]) m_X6_30 (s_X6_setFact hL hhre hw) hhre.1 rfl (by decide) (Nat.le_of_ble_eq_true rfl) dX6_setOwner_57 rfl rfl (fun M6 hw => ?_)
  exact X_retV rfl dX6_setOwner_60 ⟨_, rfl, rfl, hw⟩
def w_X9_hasRoom (L : Lay) (sh : Nat) (M : Mem) (Q : Int32 → Mem → Prop) : Prop := ((((mi M sh 0) - ((8 : Int32) * (mi M sh 5))) < (8 : Int32) → (Q (0 : Int32) M)) ∧ (¬ ((mi M sh 0) - ((8 : Int32) * (mi M sh 5))) < (8 : Int32) → (∀ x2 : Int32, x2 = (if (mi M sh 5) < (nI 12) then (1 : Int32) else (0 : Int32)) → (Q x2 M))))
set_option maxRecDepth 20000 in
theorem s_X9_hasRoom {L : Lay} (hL : LY L) {sh : Nat} (hhsh : IsS L sh) {M : Mem} {Q : Int32 → Mem → Prop} (hw : w_X9_hasRoom L sh M Q) : MX yX9_hasRoom cX9_hasRoom (some .boolean) 1 1 0 0 [.ref sh] (L, M) (QZ L Q) := by
  unfold w_X9_hasRoom at hw
  refine MX_of (by decide) [.ref sh] (by rfl) (by exact Nat.le_of_ble_eq_true rfl) ?_
  show X (FM (QZ L Q)) RX9 cX9_hasRoom (some .boolean) 1 "hasRoom" 1 0 0 (L, M) 0 [.ref sh] []
  refine X_aload_n 1 dX9_hasRoom_0 rfl rfl ?_
  refine X_getI 4 f_X9_15 hhsh.1 rfl dX9_hasRoom_1 rfl ?_
  refine X_bipush 6 (v := 8) dX9_hasRoom_4 rfl rfl ?_
  refine X_aload_n 7 dX9_hasRoom_6 rfl rfl ?_
  refine X_getI 10 f_X9_19 hhsh.1 rfl dX9_hasRoom_7 rfl ?_
  refine X_imul 11 dX9_hasRoom_10 rfl ?_
  refine X_isub 12 dX9_hasRoom_11 rfl ?_
  refine X_bipush 14 (v := 8) dX9_hasRoom_12 rfl rfl ?_
  refine X_icmp_lt 33 17 dX9_hasRoom_14 rfl rfl (fun c1 => ?_) (fun c1 => ?_)
  · have hw := hw.1 c1
    refine X_iconst 34 (v := 0) dX9_hasRoom_33 rfl rfl ?_
    exact X_ret rfl (nar_bool (Or.inl rfl)) dX9_hasRoom_34 ⟨_, _, rfl, Or.inl rfl, rfl, hw⟩
  · have hw := hw.2 c1
    refine X_aload_n 18 dX9_hasRoom_17 rfl rfl ?_
    refine X_getI 21 f_X9_19 hhsh.1 rfl dX9_hasRoom_18 rfl ?_
    refine X_aload_n 22 dX9_hasRoom_21 rfl rfl ?_
    refine X_getR 25 f_X9_9 hhsh.1 rfl hhsh.2.1 dX9_hasRoom_22 rfl ?_
    refine X_alen 26 (t := 0) (by decide) hhsh.2.2 dX9_hasRoom_25 rfl ?_
    obtain ⟨x2, ex2⟩ : ∃ x2 : Int32, x2 = (if (mi M sh 5) < (nI 12) then (1 : Int32) else (0 : Int32)) := ⟨_, rfl⟩
    have hw := hw x2 ex2
    have bx2 : BZ x2 := by rw [ex2]; (repeat' split) <;> first | exact Or.inl rfl | exact Or.inr rfl
    have hJ : X (FM (QZ L Q)) RX9 cX9_hasRoom (some .boolean) 1 "hasRoom" 1 0 0 (L, M) 34 [.ref sh] [.int x2] := by
      exact X_ret rfl (nar_bool (bx2)) dX9_hasRoom_34 ⟨_, _, rfl, bx2, rfl, hw⟩
    refine X_icmp_ge 33 29 dX9_hasRoom_26 rfl rfl (fun c3 => ?_) (fun c3 => ?_)
    · refine X_iconst 34 (v := 0) dX9_hasRoom_33 rfl rfl ?_
      rw [if_neg c3] at ex2
      rw [ex2] at hJ
      exact hJ
    · refine X_iconst 30 (v := 1) dX9_hasRoom_29 rfl rfl ?_
      refine X_goto 34 dX9_hasRoom_30 rfl ?_
      rw [if_pos c3] at ex2
      rw [ex2] at hJ
      exact hJ
def w_X9_take (L : Lay) (sh : Nat) (p0 : Int32) (M : Mem) (Q : Mem → Prop) : Prop := (((mi M sh 5) < (nI 12) → (vp_in (mi M sh 5) 12 ∧ (∀ M3 : Mem, M3 = si M (sh + 1) (tn (mi M sh 5)) p0 → (∀ M4 : Mem, M4 = si M3 sh 5 ((mi M3 sh 5) + (1 : Int32)) → (Q M4))))) ∧ (¬ (mi M sh 5) < (nI 12) → (Q M)))
set_option maxRecDepth 20000 in
theorem s_X9_take {L : Lay} (hL : LY L) {sh : Nat} {p0 : Int32} (hhsh : IsS L sh) {M : Mem} {Q : Mem → Prop} (hw : w_X9_take L sh p0 M Q) : MX yX9_take cX9_take none 2 1 0 0 [.ref sh, .int p0] (L, M) (QV L Q) := by
  unfold w_X9_take at hw
  refine MX_of (by decide) [.ref sh, .int p0] (by rfl) (by exact Nat.le_of_ble_eq_true rfl) ?_
  show X (FM (QV L Q)) RX9 cX9_take none 2 "take" 1 0 0 (L, M) 0 [.ref sh, .int p0] []
  refine X_aload_n 1 dX9_take_0 rfl rfl ?_
  refine X_getI 4 f_X9_19 hhsh.1 rfl dX9_take_1 rfl ?_
  refine X_aload_n 5 dX9_take_4 rfl rfl ?_
  refine X_getR 8 f_X9_9 hhsh.1 rfl hhsh.2.1 dX9_take_5 rfl ?_
  refine X_alen 9 (t := 0) (by decide) hhsh.2.2 dX9_take_8 rfl ?_
  refine X_icmp_ge 32 12 dX9_take_9 rfl rfl (fun c1 => ?_) (fun c1 => ?_)
  · have hw := hw.2 c1
    exact X_retV rfl dX9_take_32 ⟨_, rfl, rfl, hw⟩
  · have hw := hw.1 c1
    refine X_aload_n 13 dX9_take_12 rfl rfl ?_
    refine X_getR 16 f_X9_9 hhsh.1 rfl hhsh.2.1 dX9_take_13 rfl ?_
    refine X_aload_n 17 dX9_take_16 rfl rfl ?_
    refine X_getI 20 f_X9_19 hhsh.1 rfl dX9_take_17 rfl ?_
    refine X_iload_n 21 dX9_take_20 rfl rfl ?_
    obtain ⟨c2, hw⟩ := hw
    refine Y_iast 22 (k := (tn (mi M sh 5))) hhsh.2.2 c2 rfl dX9_take_21 rfl ?_
    refine X_nmM (fun M3 eM3 => ?_)
    have hw := hw M3 eM3
    refine X_aload_n 23 dX9_take_22 rfl rfl ?_
    refine X_dup 24 dX9_take_23 rfl rfl ?_
    refine X_getI 27 f_X9_19 hhsh.1 rfl dX9_take_24 rfl ?_
    refine X_iconst 28 (v := 1) dX9_take_27 rfl rfl ?_
    refine X_iadd 29 dX9_take_28 rfl ?_
    refine X_putI 32 f_X9_19 (Or.inl rfl) hhsh.1 rfl dX9_take_29 rfl ?_
    refine X_nmM (fun M4 eM4 => ?_)
    have hw := hw M4 eM4
    exact X_retV rfl dX9_take_32 ⟨_, rfl, rfl, hw⟩
def w_X9_comesToCity_91 (L : Lay) (sh : Nat) (p0 : Int32) (p1 : Int32)   (M : Mem) (Q : Int32 → Mem → Prop) : Prop := ∀ x17 : Int32, x17 = (if p0 = (1 : Int32) then (if (mi M sh 2) = (1 : Int32) then (1 : Int32) else (if p0 = (2 : Int32) then (if (mi M sh 2) = (3 : Int32) then (1 : Int32) else (0 : Int32)) else (0 : Int32))) else (if p0 = (2 : Int32) then (if (mi M sh 2) = (3 : Int32) then (1 : Int32) else (0 : Int32)) else (0 : Int32))) → (((x17 = 0 → (Q (0 : Int32) M)) ∧ (¬ x17 = 0 → (∀ M19 : Mem, M19 = si M sh 3 ((mi M sh 3) - (1 : Int32)) → (((0 < (mi M19 sh 3) → (Q (0 : Int32) M19)) ∧ (¬ 0 < (mi M19 sh 3) → (∀ x21 : Int32, x21 = (if (mi M19 sh 2) = (1 : Int32) then (2 : Int32) else (0 : Int32)) → (∀ M22 : Mem, M22 = si M19 sh 2 x21 → (∀ M23 : Mem, M23 = si M22 sh 4 p1 → (∀ x24 : Int32, x24 = (if (mi M23 sh 2) = (2 : Int32) then (1 : Int32) else (0 : Int32)) → (Q x24 M23))))))))))))
set_option maxRecDepth 20000 in
theorem t_X9_comesToCity_91 {L : Lay} (hL : LY L) {sh : Nat} {p0 : Int32} {p1 : Int32} (hhsh : IsS L sh)    {M : Mem} {Q : Int32 → Mem → Prop} (hw : w_X9_comesToCity_91 L sh p0 p1   M Q)  : X (FM (QZ L Q)) RX9 cX9_comesToCity (some .boolean) 5 "comesToCity" 2 0 0 (L, M) 91 [.ref sh, .int p0, .int p1, junk, junk] [] := by
  unfold w_X9_comesToCity_91 at hw
  refine X_iload_n 92 dX9_comesToCity_91 rfl rfl ?_
  refine X_iconst 93 (v := 1) dX9_comesToCity_92 rfl rfl ?_
  obtain ⟨x17, ex17⟩ : ∃ x17 : Int32, x17 = (if p0 = (1 : Int32) then (if (mi M sh 2) = (1 : Int32) then (1 : Int32) else (if p0 = (2 : Int32) then (if (mi M sh 2) = (3 : Int32) then (1 : Int32) else (0 : Int32)) else (0 : Int32))) else (if p0 = (2 : Int32) then (if (mi M sh 2) = (3 : Int32) then (1 : Int32) else (0 : Int32)) else (0 : Int32))) := ⟨_, rfl⟩
  have hw := hw x17 ex17
  have bx17 : BZ x17 := by rw [ex17]; (repeat' split) <;> first | exact Or.inl rfl | exact Or.inr rfl
  have hJ : X (FM (QZ L Q)) RX9 cX9_comesToCity (some .boolean) 5 "comesToCity" 2 0 0 (L, M) 122 [.ref sh, .int p0, .int p1, junk, junk] [.int x17] := by
    refine X_istore 124 (ls' := [.ref sh, .int p0, .int p1, junk, .int x17]) dX9_comesToCity_122 rfl (Nat.le_of_ble_eq_true rfl) rfl (Or.inr (Or.inl rfl)) ?_
    refine X_iload 126 dX9_comesToCity_124 rfl rfl ?_
    refine X_if_ne 131 129 (y := 0) dX9_comesToCity_126 rfl rfl (fun c18 => ?_) (fun c18 => ?_)
    · have hw := hw.2 c18
      refine X_aload_n 132 dX9_comesToCity_131 rfl rfl ?_
      refine X_dup 133 dX9_comesToCity_132 rfl rfl ?_
      refine X_getI 136 f_X9_32 hhsh.1 rfl dX9_comesToCity_133 rfl ?_
      refine X_iconst 137 (v := 1) dX9_comesToCity_136 rfl rfl ?_
      refine X_isub 138 dX9_comesToCity_137 rfl ?_
      refine X_putI 141 f_X9_32 (Or.inl rfl) hhsh.1 rfl dX9_comesToCity_138 rfl ?_
      refine X_nmM (fun M19 eM19 => ?_)
      have hw := hw M19 eM19
      refine X_aload_n 142 dX9_comesToCity_141 rfl rfl ?_
      refine X_getI 145 f_X9_32 hhsh.1 rfl dX9_comesToCity_142 rfl ?_
      refine X_if_le 150 148 (y := 0) dX9_comesToCity_145 rfl rfl (fun c20 => ?_) (fun c20 => ?_)
      · have hw := hw.2 c20
        refine X_aload_n 151 dX9_comesToCity_150 rfl rfl ?_
        refine X_aload_n 152 dX9_comesToCity_151 rfl rfl ?_
        refine X_getI 155 f_X9_29 hhsh.1 rfl dX9_comesToCity_152 rfl ?_
        refine X_iconst 156 (v := 1) dX9_comesToCity_155 rfl rfl ?_
        obtain ⟨x21, ex21⟩ : ∃ x21 : Int32, x21 = (if (mi M19 sh 2) = (1 : Int32) then (2 : Int32) else (0 : Int32)) := ⟨_, rfl⟩
        have hw := hw x21 ex21
        have hJ : X (FM (QZ L Q)) RX9 cX9_comesToCity (some .boolean) 5 "comesToCity" 2 0 0 (L, M19) 164 [.ref sh, .int p0, .int p1, junk, .int x17] [.int x21, .ref sh] := by
          refine X_putI 167 f_X9_29 (Or.inl rfl) hhsh.1 rfl dX9_comesToCity_164 rfl ?_
          refine X_nmM (fun M22 eM22 => ?_)
          have hw := hw M22 eM22
          refine X_aload_n 168 dX9_comesToCity_167 rfl rfl ?_
          refine X_iload_n 169 dX9_comesToCity_168 rfl rfl ?_
          refine X_putI 172 f_X9_26 (Or.inl rfl) hhsh.1 rfl dX9_comesToCity_169 rfl ?_
          refine X_nmM (fun M23 eM23 => ?_)
          have hw := hw M23 eM23
          refine X_aload_n 173 dX9_comesToCity_172 rfl rfl ?_
          refine X_getI 176 f_X9_29 hhsh.1 rfl dX9_comesToCity_173 rfl ?_
          refine X_iconst 177 (v := 2) dX9_comesToCity_176 rfl rfl ?_
          obtain ⟨x24, ex24⟩ : ∃ x24 : Int32, x24 = (if (mi M23 sh 2) = (2 : Int32) then (1 : Int32) else (0 : Int32)) := ⟨_, rfl⟩
          have hw := hw x24 ex24
          have bx24 : BZ x24 := by rw [ex24]; (repeat' split) <;> first | exact Or.inl rfl | exact Or.inr rfl
          have hJ : X (FM (QZ L Q)) RX9 cX9_comesToCity (some .boolean) 5 "comesToCity" 2 0 0 (L, M23) 185 [.ref sh, .int p0, .int p1, junk, .int x17] [.int x24] := by
            exact X_ret rfl (nar_bool (bx24)) dX9_comesToCity_185 ⟨_, _, rfl, bx24, rfl, hw⟩
          refine X_icmp_ne 184 180 dX9_comesToCity_177 rfl rfl (fun c25 => ?_) (fun c25 => ?_)
          · refine X_iconst 185 (v := 0) dX9_comesToCity_184 rfl rfl ?_
            rw [if_neg c25] at ex24
            rw [ex24] at hJ
            exact hJ
          · refine X_iconst 181 (v := 1) dX9_comesToCity_180 rfl rfl ?_
            refine X_goto 185 dX9_comesToCity_181 rfl ?_
            rw [if_pos c25] at ex24
            rw [ex24] at hJ
            exact hJ
        refine X_icmp_ne 163 159 dX9_comesToCity_156 rfl rfl (fun c26 => ?_) (fun c26 => ?_)
        · refine X_iconst 164 (v := 0) dX9_comesToCity_163 rfl rfl ?_
          rw [if_neg c26] at ex21
          rw [ex21] at hJ
          exact hJ
        · refine X_iconst 160 (v := 2) dX9_comesToCity_159 rfl rfl ?_
          refine X_goto 164 dX9_comesToCity_160 rfl ?_
          rw [if_pos c26] at ex21
          rw [ex21] at hJ
          exact hJ
      · have hw := hw.1 c20
        refine X_iconst 149 (v := 0) dX9_comesToCity_148 rfl rfl ?_
        exact X_ret rfl (nar_bool (Or.inl rfl)) dX9_comesToCity_149 ⟨_, _, rfl, Or.inl rfl, rfl, hw⟩
    · have hw := hw.1 c18
      refine X_iconst 130 (v := 0) dX9_comesToCity_129 rfl rfl ?_
      exact X_ret rfl (nar_bool (Or.inl rfl)) dX9_comesToCity_130 ⟨_, _, rfl, Or.inl rfl, rfl, hw⟩
  refine X_icmp_ne 104 96 dX9_comesToCity_93 rfl rfl (fun c27 => ?_) (fun c27 => ?_)
  · refine X_iload_n 105 dX9_comesToCity_104 rfl rfl ?_
    refine X_iconst 106 (v := 2) dX9_comesToCity_105 rfl rfl ?_
    refine X_icmp_ne 121 109 dX9_comesToCity_106 rfl rfl (fun c28 => ?_) (fun c28 => ?_)
    · refine X_iconst 122 (v := 0) dX9_comesToCity_121 rfl rfl ?_
      rw [if_neg c27, if_neg c28] at ex17
      rw [ex17] at hJ
      exact hJ
    · refine X_aload_n 110 dX9_comesToCity_109 rfl rfl ?_
      refine X_getI 113 f_X9_29 hhsh.1 rfl dX9_comesToCity_110 rfl ?_
      refine X_iconst 114 (v := 3) dX9_comesToCity_113 rfl rfl ?_
      refine X_icmp_ne 121 117 dX9_comesToCity_114 rfl rfl (fun c29 => ?_) (fun c29 => ?_)
      · refine X_iconst 122 (v := 0) dX9_comesToCity_121 rfl rfl ?_
        rw [if_neg c27, if_pos c28, if_neg c29] at ex17
        rw [ex17] at hJ
        exact hJ
      · refine X_iconst 118 (v := 1) dX9_comesToCity_117 rfl rfl ?_
        refine X_goto 122 dX9_comesToCity_118 rfl ?_
        rw [if_neg c27, if_pos c28, if_pos c29] at ex17
        rw [ex17] at hJ
        exact hJ
  · refine X_aload_n 97 dX9_comesToCity_96 rfl rfl ?_
    refine X_getI 100 f_X9_29 hhsh.1 rfl dX9_comesToCity_97 rfl ?_
    refine X_iconst 101 (v := 1) dX9_comesToCity_100 rfl rfl ?_
    refine X_icmp_eq 117 104 dX9_comesToCity_101 rfl rfl (fun c30 => ?_) (fun c30 => ?_)
    · refine X_iconst 118 (v := 1) dX9_comesToCity_117 rfl rfl ?_
      refine X_goto 122 dX9_comesToCity_118 rfl ?_
      rw [if_pos c27, if_pos c30] at ex17
      rw [ex17] at hJ
      exact hJ
    · refine X_iload_n 105 dX9_comesToCity_104 rfl rfl ?_
      refine X_iconst 106 (v := 2) dX9_comesToCity_105 rfl rfl ?_
      refine X_icmp_ne 121 109 dX9_comesToCity_106 rfl rfl (fun c31 => ?_) (fun c31 => ?_)
      · refine X_iconst 122 (v := 0) dX9_comesToCity_121 rfl rfl ?_
        rw [if_pos c27, if_neg c30, if_neg c31] at ex17
        rw [ex17] at hJ
        exact hJ
      · refine X_aload_n 110 dX9_comesToCity_109 rfl rfl ?_
        refine X_getI 113 f_X9_29 hhsh.1 rfl dX9_comesToCity_110 rfl ?_
        refine X_iconst 114 (v := 3) dX9_comesToCity_113 rfl rfl ?_
        refine X_icmp_ne 121 117 dX9_comesToCity_114 rfl rfl (fun c32 => ?_) (fun c32 => ?_)
        · refine X_iconst 122 (v := 0) dX9_comesToCity_121 rfl rfl ?_
          rw [if_pos c27, if_neg c30, if_pos c31, if_neg c32] at ex17
          rw [ex17] at hJ
          exact hJ
        · refine X_iconst 118 (v := 1) dX9_comesToCity_117 rfl rfl ?_
          refine X_goto 122 dX9_comesToCity_118 rfl ?_
          rw [if_pos c27, if_neg c30, if_pos c31, if_pos c32] at ex17
          rw [ex17] at hJ
          exact hJ
def w_X9_comesToCity_60 (L : Lay) (sh : Nat) (p0 : Int32) (p1 : Int32)   (M : Mem) (Q : Int32 → Mem → Prop) : Prop := ((p0 = (2 : Int32) → ((((mi M sh 2) = (2 : Int32) → ((((mi M sh 4) < p1 → (∀ M15 : Mem, M15 = si M sh 2 (3 : Int32) → (∀ M16 : Mem, M16 = si M15 sh 3 (4 : Int32) → (w_X9_comesToCity_91 L sh p0 p1   M16 Q)))) ∧ (¬ (mi M sh 4) < p1 → (w_X9_comesToCity_91 L sh p0 p1   M Q))))) ∧ (¬ (mi M sh 2) = (2 : Int32) → (w_X9_comesToCity_91 L sh p0 p1   M Q))))) ∧ (¬ p0 = (2 : Int32) → (w_X9_comesToCity_91 L sh p0 p1   M Q)))
set_option maxRecDepth 20000 in
theorem t_X9_comesToCity_60 {L : Lay} (hL : LY L) {sh : Nat} {p0 : Int32} {p1 : Int32} (hhsh : IsS L sh)    {M : Mem} {Q : Int32 → Mem → Prop} (hw : w_X9_comesToCity_60 L sh p0 p1   M Q)  : X (FM (QZ L Q)) RX9 cX9_comesToCity (some .boolean) 5 "comesToCity" 2 0 0 (L, M) 60 [.ref sh, .int p0, .int p1, junk, junk] [] := by
  unfold w_X9_comesToCity_60 at hw
  refine X_iload_n 61 dX9_comesToCity_60 rfl rfl ?_
  refine X_iconst 62 (v := 2) dX9_comesToCity_61 rfl rfl ?_
  refine X_icmp_ne 91 65 dX9_comesToCity_62 rfl rfl (fun c12 => ?_) (fun c12 => ?_)
  · have hw := hw.2 c12
    exact t_X9_comesToCity_91 hL hhsh  hw 
  · have hw := hw.1 c12
    refine X_aload_n 66 dX9_comesToCity_65 rfl rfl ?_
    refine X_getI 69 f_X9_29 hhsh.1 rfl dX9_comesToCity_66 rfl ?_
    refine X_iconst 70 (v := 2) dX9_comesToCity_69 rfl rfl ?_
    refine X_icmp_ne 91 73 dX9_comesToCity_70 rfl rfl (fun c13 => ?_) (fun c13 => ?_)
    · have hw := hw.2 c13
      exact t_X9_comesToCity_91 hL hhsh  hw 
    · have hw := hw.1 c13
      refine X_aload_n 74 dX9_comesToCity_73 rfl rfl ?_
      refine X_getI 77 f_X9_26 hhsh.1 rfl dX9_comesToCity_74 rfl ?_
      refine X_iload_n 78 dX9_comesToCity_77 rfl rfl ?_
      refine X_icmp_ge 91 81 dX9_comesToCity_78 rfl rfl (fun c14 => ?_) (fun c14 => ?_)
      · have hw := hw.2 c14
        exact t_X9_comesToCity_91 hL hhsh  hw 
      · have hw := hw.1 c14
        refine X_aload_n 82 dX9_comesToCity_81 rfl rfl ?_
        refine X_iconst 83 (v := 3) dX9_comesToCity_82 rfl rfl ?_
        refine X_putI 86 f_X9_29 (Or.inl rfl) hhsh.1 rfl dX9_comesToCity_83 rfl ?_
        refine X_nmM (fun M15 eM15 => ?_)
        have hw := hw M15 eM15
        refine X_aload_n 87 dX9_comesToCity_86 rfl rfl ?_
        refine X_iconst 88 (v := 4) dX9_comesToCity_87 rfl rfl ?_
        refine X_putI 91 f_X9_32 (Or.inl rfl) hhsh.1 rfl dX9_comesToCity_88 rfl ?_
        refine X_nmM (fun M16 eM16 => ?_)
        have hw := hw M16 eM16
        exact t_X9_comesToCity_91 hL hhsh  hw 
def w_X9_comesToCity (L : Lay) (sh : Nat) (p0 : Int32) (p1 : Int32) (M : Mem) (Q : Int32 → Mem → Prop) : Prop := w_X9_hasRoom L sh M (fun x2 M1 => (∀ x3 : Int32, x3 = (if x2 = 0 then (1 : Int32) else (if 0 < (mi M1 sh 5) then (if (p1 - (mi M1 sh 4)) < (10 : Int32) then (0 : Int32) else (1 : Int32)) else (0 : Int32))) → (((p0 = (1 : Int32) → ((((mi M1 sh 2) = 0 → (((x3 = 0 → (w_X9_comesToCity_60 L sh p0 p1   M1 Q)) ∧ (¬ x3 = 0 → (∀ M7 : Mem, M7 = si M1 sh 2 (1 : Int32) → (∀ M8 : Mem, M8 = si M7 sh 3 (4 : Int32) → (w_X9_comesToCity_91 L sh p0 p1   M8 Q))))))) ∧ (¬ (mi M1 sh 2) = 0 → (w_X9_comesToCity_60 L sh p0 p1   M1 Q))))) ∧ (¬ p0 = (1 : Int32) → (w_X9_comesToCity_60 L sh p0 p1   M1 Q))))))
set_option maxRecDepth 20000 in
theorem s_X9_comesToCity {L : Lay} (hL : LY L) {sh : Nat} {p0 : Int32} {p1 : Int32} (hhsh : IsS L sh) {M : Mem} {Q : Int32 → Mem → Prop} (hw : w_X9_comesToCity L sh p0 p1 M Q) : MX yX9_comesToCity cX9_comesToCity (some .boolean) 5 2 0 0 [.ref sh, .int p0, .int p1] (L, M) (QZ L Q) := by
  unfold w_X9_comesToCity at hw
  refine MX_of (by decide) [.ref sh, .int p0, .int p1, junk, junk] (by rfl) (by exact Nat.le_of_ble_eq_true rfl) ?_
  show X (FM (QZ L Q)) RX9 cX9_comesToCity (some .boolean) 5 "comesToCity" 2 0 0 (L, M) 0 [.ref sh, .int p0, .int p1, junk, junk] []
  refine X_aload_n 1 dX9_comesToCity_0 rfl rfl ?_
  refine Y_cVZ 4 (as := []) m_X9_22 (s_X9_hasRoom hL hhsh hw) hhsh.1 rfl (by decide) (Nat.le_of_ble_eq_true rfl) dX9_comesToCity_1 rfl rfl (fun x2 M1 bx2 hw => ?_)
  obtain ⟨x3, ex3⟩ : ∃ x3 : Int32, x3 = (if x2 = 0 then (1 : Int32) else (if 0 < (mi M1 sh 5) then (if (p1 - (mi M1 sh 4)) < (10 : Int32) then (0 : Int32) else (1 : Int32)) else (0 : Int32))) := ⟨_, rfl⟩
  have hw := hw x3 ex3
  have bx3 : BZ x3 := by rw [ex3]; (repeat' split) <;> first | exact Or.inl rfl | exact Or.inr rfl
  have hJ : X (FM (QZ L Q)) RX9 cX9_comesToCity (some .boolean) 5 "comesToCity" 2 0 0 (L, M1) 30 [.ref sh, .int p0, .int p1, junk, junk] [.int x3] := by
    refine X_istore_n 31 (ls' := [.ref sh, .int p0, .int p1, .int x3, junk]) dX9_comesToCity_30 rfl rfl (Nat.le_of_ble_eq_true rfl) rfl (Or.inr (Or.inr ⟨_, rfl, rfl⟩)) ?_
    refine X_iload_n 32 dX9_comesToCity_31 rfl rfl ?_
    refine X_iconst 33 (v := 1) dX9_comesToCity_32 rfl rfl ?_
    refine X_icmp_ne 60 36 dX9_comesToCity_33 rfl rfl (fun c4 => ?_) (fun c4 => ?_)
    · have hw := hw.2 c4
      refine X_weak (ls' := [.ref sh, .int p0, .int p1, junk, junk]) (WK.s (WK.s (WK.s (WK.j (WK.s WK.n))))) (Nat.le_of_ble_eq_true rfl) ?_
      exact t_X9_comesToCity_60 hL hhsh  hw 
    · have hw := hw.1 c4
      refine X_aload_n 37 dX9_comesToCity_36 rfl rfl ?_
      refine X_getI 40 f_X9_29 hhsh.1 rfl dX9_comesToCity_37 rfl ?_
      refine X_if_ne 60 43 (y := 0) dX9_comesToCity_40 rfl rfl (fun c5 => ?_) (fun c5 => ?_)
      · have hw := hw.2 c5
        refine X_weak (ls' := [.ref sh, .int p0, .int p1, junk, junk]) (WK.s (WK.s (WK.s (WK.j (WK.s WK.n))))) (Nat.le_of_ble_eq_true rfl) ?_
        exact t_X9_comesToCity_60 hL hhsh  hw 
      · have hw := hw.1 c5
        refine X_iload_n 44 dX9_comesToCity_43 rfl rfl ?_
        refine X_if_eq 60 47 (y := 0) dX9_comesToCity_44 rfl rfl (fun c6 => ?_) (fun c6 => ?_)
        · have hw := hw.1 c6
          refine X_weak (ls' := [.ref sh, .int p0, .int p1, junk, junk]) (WK.s (WK.s (WK.s (WK.j (WK.s WK.n))))) (Nat.le_of_ble_eq_true rfl) ?_
          exact t_X9_comesToCity_60 hL hhsh  hw 
        · have hw := hw.2 c6
          refine X_aload_n 48 dX9_comesToCity_47 rfl rfl ?_
          refine X_iconst 49 (v := 1) dX9_comesToCity_48 rfl rfl ?_
          refine X_putI 52 f_X9_29 (Or.inl rfl) hhsh.1 rfl dX9_comesToCity_49 rfl ?_
          refine X_nmM (fun M7 eM7 => ?_)
          have hw := hw M7 eM7
          refine X_aload_n 53 dX9_comesToCity_52 rfl rfl ?_
          refine X_iconst 54 (v := 4) dX9_comesToCity_53 rfl rfl ?_
          refine X_putI 57 f_X9_32 (Or.inl rfl) hhsh.1 rfl dX9_comesToCity_54 rfl ?_
          refine X_nmM (fun M8 eM8 => ?_)
          have hw := hw M8 eM8
          refine X_goto 91 dX9_comesToCity_57 rfl ?_
          refine X_weak (ls' := [.ref sh, .int p0, .int p1, junk, junk]) (WK.s (WK.s (WK.s (WK.j (WK.s WK.n))))) (Nat.le_of_ble_eq_true rfl) ?_
          exact t_X9_comesToCity_91 hL hhsh  hw 
  refine X_if_eq 25 7 (y := 0) dX9_comesToCity_4 rfl rfl (fun c9 => ?_) (fun c9 => ?_)
  · refine X_iconst 26 (v := 1) dX9_comesToCity_25 rfl rfl ?_
    refine X_goto 30 dX9_comesToCity_26 rfl ?_
    rw [if_pos c9] at ex3
    rw [ex3] at hJ
    exact hJ
  · refine X_aload_n 8 dX9_comesToCity_7 rfl rfl ?_
    refine X_getI 11 f_X9_19 hhsh.1 rfl dX9_comesToCity_8 rfl ?_
    refine X_if_le 29 14 (y := 0) dX9_comesToCity_11 rfl rfl (fun c10 => ?_) (fun c10 => ?_)
    · refine X_iconst 30 (v := 0) dX9_comesToCity_29 rfl rfl ?_
      rw [if_neg c9, if_neg c10] at ex3
      rw [ex3] at hJ
      exact hJ
    · refine X_iload_n 15 dX9_comesToCity_14 rfl rfl ?_
      refine X_aload_n 16 dX9_comesToCity_15 rfl rfl ?_
      refine X_getI 19 f_X9_26 hhsh.1 rfl dX9_comesToCity_16 rfl ?_
      refine X_isub 20 dX9_comesToCity_19 rfl ?_
      refine X_bipush 22 (v := 10) dX9_comesToCity_20 rfl rfl ?_
      refine X_icmp_lt 29 25 dX9_comesToCity_22 rfl rfl (fun c11 => ?_) (fun c11 => ?_)
      · refine X_iconst 30 (v := 0) dX9_comesToCity_29 rfl rfl ?_
        rw [if_neg c9, if_pos c10, if_pos c11] at ex3
        rw [ex3] at hJ
        exact hJ
      · refine X_iconst 26 (v := 1) dX9_comesToCity_25 rfl rfl ?_
        refine X_goto 30 dX9_comesToCity_26 rfl ?_
        rw [if_neg c9, if_pos c10, if_neg c11] at ex3
        rw [ex3] at hJ
        exact hJ
def w_X0_addLoads (L : Lay) (ci : Nat) (p0 : Int32) (M : Mem) (Q : Mem → Prop) : Prop := ∀ M1 : Mem, M1 = si M ci 0 (jmin (99999 : Int32) ((mi M ci 0) + ((8 : Int32) * p0))) → (Q M1)
set_option maxRecDepth 20000 in
theorem s_X0_addLoads {L : Lay} (hL : LY L) {ci : Nat} {p0 : Int32} (hhci : OB L ci 0) {M : Mem} {Q : Mem → Prop} (hw : w_X0_addLoads L ci p0 M Q) : MX yX0_addLoads cX0_addLoads none 2 2 0 0 [.ref ci, .int p0] (L, M) (QV L Q) := by
  unfold w_X0_addLoads at hw
  refine MX_of (by decide) [.ref ci, .int p0] (by rfl) (by exact Nat.le_of_ble_eq_true rfl) ?_
  show X (FM (QV L Q)) RX0 cX0_addLoads none 2 "addLoads" 2 0 0 (L, M) 0 [.ref ci, .int p0] []
  refine X_aload_n 1 dX0_addLoads_0 rfl rfl ?_
  refine X_ldc 3 dX0_addLoads_1 rfl k_X0_27 ?_
  refine X_aload_n 4 dX0_addLoads_3 rfl rfl ?_
  refine X_getI 7 f_X0_18 hhci rfl dX0_addLoads_4 rfl ?_
  refine X_bipush 9 (v := 8) dX0_addLoads_7 rfl rfl ?_
  refine X_iload_n 10 dX0_addLoads_9 rfl rfl ?_
  refine X_imul 11 dX0_addLoads_10 rfl ?_
  refine X_iadd 12 dX0_addLoads_11 rfl ?_
  refine Y_mmin 15 l_X0_28 (by decide) (Nat.le_of_ble_eq_true rfl) dX0_addLoads_12 rfl ?_
  refine X_putI 18 f_X0_18 (Or.inl rfl) hhci rfl dX0_addLoads_15 rfl ?_
  refine X_nmM (fun M1 eM1 => ?_)
  have hw := hw M1 eM1
  exact X_retV rfl dX0_addLoads_18 ⟨_, rfl, rfl, hw⟩
def w_X0_useWant (L : Lay) (ci : Nat) (p0 : Int32) (M : Mem) (Q : Mem → Prop) : Prop := ∀ x1 : Int32, x1 = (if p0 = 0 then (mi M ci 1) else ((2 : Int32) * (mi M ci 1))) → (∀ x2 : Int32, x2 = (if (mi M ci 0) < x1 then (1 : Int32) else (0 : Int32)) → (∀ x3 : Int32, x3 = (if x2 = 0 then ((mi M ci 0) - x1) else (0 : Int32)) → (∀ M4 : Mem, M4 = si M ci 0 x3 → (∀ x5 : Int32, x5 = (if x2 = 0 then (0 : Int32) else (1 : Int32)) → (∀ M6 : Mem, M6 = si M4 ci 4 (((jshl (mi M4 ci 4) (1 : Int32)) ||| x5) &&& (1073741823 : Int32)) → (∀ x7 : Int32, x7 = (if x2 = 0 then (0 : Int32) else (1 : Int32)) → (∀ M8 : Mem, M8 = si M6 ci 3 ((mi M6 ci 3) + x7) → (Q M8))))))))
set_option maxRecDepth 20000 in
theorem s_X0_useWant {L : Lay} (hL : LY L) {ci : Nat} {p0 : Int32} (hhci : OB L ci 0) {M : Mem} {Q : Mem → Prop} (hw : w_X0_useWant L ci p0 M Q) : MX yX0_useWant cX0_useWant none 4 1 0 0 [.ref ci, .int p0] (L, M) (QV L Q) := by
  unfold w_X0_useWant at hw
  refine MX_of (by decide) [.ref ci, .int p0, junk, junk] (by rfl) (by exact Nat.le_of_ble_eq_true rfl) ?_
  show X (FM (QV L Q)) RX0 cX0_useWant none 4 "useWant" 1 0 0 (L, M) 0 [.ref ci, .int p0, junk, junk] []
  refine X_iload_n 1 dX0_useWant_0 rfl rfl ?_
  obtain ⟨x1, ex1⟩ : ∃ x1 : Int32, x1 = (if p0 = 0 then (mi M ci 1) else ((2 : Int32) * (mi M ci 1))) := ⟨_, rfl⟩
  have hw := hw x1 ex1
  have hJ : X (FM (QV L Q)) RX0 cX0_useWant none 4 "useWant" 1 0 0 (L, M) 17 [.ref ci, .int p0, junk, junk] [.int x1] := by
    refine X_istore_n 18 (ls' := [.ref ci, .int p0, .int x1, junk]) dX0_useWant_17 rfl rfl (Nat.le_of_ble_eq_true rfl) rfl (Or.inr (Or.inr ⟨_, rfl, rfl⟩)) ?_
    refine X_aload_n 19 dX0_useWant_18 rfl rfl ?_
    refine X_getI 22 f_X0_18 hhci rfl dX0_useWant_19 rfl ?_
    refine X_iload_n 23 dX0_useWant_22 rfl rfl ?_
    obtain ⟨x2, ex2⟩ : ∃ x2 : Int32, x2 = (if (mi M ci 0) < x1 then (1 : Int32) else (0 : Int32)) := ⟨_, rfl⟩
    have hw := hw x2 ex2
    have bx2 : BZ x2 := by rw [ex2]; (repeat' split) <;> first | exact Or.inl rfl | exact Or.inr rfl
    have hJ : X (FM (QV L Q)) RX0 cX0_useWant none 4 "useWant" 1 0 0 (L, M) 31 [.ref ci, .int p0, .int x1, junk] [.int x2] := by
      refine X_istore_n 32 (ls' := [.ref ci, .int p0, .int x1, .int x2]) dX0_useWant_31 rfl rfl (Nat.le_of_ble_eq_true rfl) rfl (Or.inr (Or.inr ⟨_, rfl, rfl⟩)) ?_
      refine X_aload_n 33 dX0_useWant_32 rfl rfl ?_
      refine X_iload_n 34 dX0_useWant_33 rfl rfl ?_
      obtain ⟨x3, ex3⟩ : ∃ x3 : Int32, x3 = (if x2 = 0 then ((mi M ci 0) - x1) else (0 : Int32)) := ⟨_, rfl⟩
      have hw := hw x3 ex3
      have hJ : X (FM (QV L Q)) RX0 cX0_useWant none 4 "useWant" 1 0 0 (L, M) 47 [.ref ci, .int p0, .int x1, .int x2] [.int x3, .ref ci] := by
        refine X_putI 50 f_X0_18 (Or.inl rfl) hhci rfl dX0_useWant_47 rfl ?_
        refine X_nmM (fun M4 eM4 => ?_)
        have hw := hw M4 eM4
        refine X_aload_n 51 dX0_useWant_50 rfl rfl ?_
        refine X_aload_n 52 dX0_useWant_51 rfl rfl ?_
        refine X_getI 55 f_X0_31 hhci rfl dX0_useWant_52 rfl ?_
        refine X_iconst 56 (v := 1) dX0_useWant_55 rfl rfl ?_
        refine Y_ishl 57 dX0_useWant_56 rfl ?_
        refine X_iload_n 58 dX0_useWant_57 rfl rfl ?_
        obtain ⟨x5, ex5⟩ : ∃ x5 : Int32, x5 = (if x2 = 0 then (0 : Int32) else (1 : Int32)) := ⟨_, rfl⟩
        have hw := hw x5 ex5
        have bx5 : BZ x5 := by rw [ex5]; (repeat' split) <;> first | exact Or.inl rfl | exact Or.inr rfl
        have hJ : X (FM (QV L Q)) RX0 cX0_useWant none 4 "useWant" 1 0 0 (L, M4) 66 [.ref ci, .int p0, .int x1, .int x2] [.int x5, .int ((jshl (mi M4 ci 4) (1 : Int32))), .ref ci] := by
          refine X_ior 67 dX0_useWant_66 rfl ?_
          refine X_ldc 69 dX0_useWant_67 rfl k_X0_34 ?_
          refine X_iand 70 dX0_useWant_69 rfl ?_
          refine X_putI 73 f_X0_31 (Or.inl rfl) hhci rfl dX0_useWant_70 rfl ?_
          refine X_nmM (fun M6 eM6 => ?_)
          have hw := hw M6 eM6
          refine X_aload_n 74 dX0_useWant_73 rfl rfl ?_
          refine X_dup 75 dX0_useWant_74 rfl rfl ?_
          refine X_getI 78 f_X0_35 hhci rfl dX0_useWant_75 rfl ?_
          refine X_iload_n 79 dX0_useWant_78 rfl rfl ?_
          obtain ⟨x7, ex7⟩ : ∃ x7 : Int32, x7 = (if x2 = 0 then (0 : Int32) else (1 : Int32)) := ⟨_, rfl⟩
          have hw := hw x7 ex7
          have bx7 : BZ x7 := by rw [ex7]; (repeat' split) <;> first | exact Or.inl rfl | exact Or.inr rfl
          have hJ : X (FM (QV L Q)) RX0 cX0_useWant none 4 "useWant" 1 0 0 (L, M6) 87 [.ref ci, .int p0, .int x1, .int x2] [.int x7, .int ((mi M6 ci 3)), .ref ci] := by
            refine X_iadd 88 dX0_useWant_87 rfl ?_
            refine X_putI 91 f_X0_35 (Or.inl rfl) hhci rfl dX0_useWant_88 rfl ?_
            refine X_nmM (fun M8 eM8 => ?_)
            have hw := hw M8 eM8
            exact X_retV rfl dX0_useWant_91 ⟨_, rfl, rfl, hw⟩
          refine X_if_eq 86 82 (y := 0) dX0_useWant_79 rfl rfl (fun c9 => ?_) (fun c9 => ?_)
          · refine X_iconst 87 (v := 0) dX0_useWant_86 rfl rfl ?_
            rw [if_pos c9] at ex7
            rw [ex7] at hJ
            exact hJ
          · refine X_iconst 83 (v := 1) dX0_useWant_82 rfl rfl ?_
            refine X_goto 87 dX0_useWant_83 rfl ?_
            rw [if_neg c9] at ex7
            rw [ex7] at hJ
            exact hJ
        refine X_if_eq 65 61 (y := 0) dX0_useWant_58 rfl rfl (fun c10 => ?_) (fun c10 => ?_)
        · refine X_iconst 66 (v := 0) dX0_useWant_65 rfl rfl ?_
          rw [if_pos c10] at ex5
          rw [ex5] at hJ
          exact hJ
        · refine X_iconst 62 (v := 1) dX0_useWant_61 rfl rfl ?_
          refine X_goto 66 dX0_useWant_62 rfl ?_
          rw [if_neg c10] at ex5
          rw [ex5] at hJ
          exact hJ
      refine X_if_eq 41 37 (y := 0) dX0_useWant_34 rfl rfl (fun c11 => ?_) (fun c11 => ?_)
      · refine X_aload_n 42 dX0_useWant_41 rfl rfl ?_
        refine X_getI 45 f_X0_18 hhci rfl dX0_useWant_42 rfl ?_
        refine X_iload_n 46 dX0_useWant_45 rfl rfl ?_
        refine X_isub 47 dX0_useWant_46 rfl ?_
        rw [if_pos c11] at ex3
        rw [ex3] at hJ
        exact hJ
      · refine X_iconst 38 (v := 0) dX0_useWant_37 rfl rfl ?_
        refine X_goto 47 dX0_useWant_38 rfl ?_
        rw [if_neg c11] at ex3
        rw [ex3] at hJ
        exact hJ
    refine X_icmp_ge 30 26 dX0_useWant_23 rfl rfl (fun c12 => ?_) (fun c12 => ?_)
    · refine X_iconst 31 (v := 0) dX0_useWant_30 rfl rfl ?_
      rw [if_neg c12] at ex2
      rw [ex2] at hJ
      exact hJ
    · refine X_iconst 27 (v := 1) dX0_useWant_26 rfl rfl ?_
      refine X_goto 31 dX0_useWant_27 rfl ?_
      rw [if_pos c12] at ex2
      rw [ex2] at hJ
      exact hJ
  refine X_if_eq 13 4 (y := 0) dX0_useWant_1 rfl rfl (fun c13 => ?_) (fun c13 => ?_)
  · refine X_aload_n 14 dX0_useWant_13 rfl rfl ?_
    refine X_getI 17 f_X0_9 hhci rfl dX0_useWant_14 rfl ?_
    rw [if_pos c13] at ex1
    rw [ex1] at hJ
    exact hJ
  · refine X_iconst 5 (v := 2) dX0_useWant_4 rfl rfl ?_
    refine X_aload_n 6 dX0_useWant_5 rfl rfl ?_
    refine X_getI 9 f_X0_9 hhci rfl dX0_useWant_6 rfl ?_
    refine X_imul 10 dX0_useWant_9 rfl ?_
    refine X_goto 17 dX0_useWant_10 rfl ?_
    rw [if_neg c13] at ex1
    rw [ex1] at hJ
    exact hJ
def w_X2_place (L : Lay) (p0 : Int32) (p1 : Int32) (M : Mem) (Q : Int32 → Mem → Prop) : Prop := Q ((p1 * (10 : Int32)) + p0) M
set_option maxRecDepth 20000 in
theorem s_X2_place {L : Lay} (hL : LY L) {p0 : Int32} {p1 : Int32}  {M : Mem} {Q : Int32 → Mem → Prop} (hw : w_X2_place L p0 p1 M Q) : MX yX2_place cX2_place (some .int) 3 1 0 0 [.ref 75, .int p0, .int p1] (L, M) (QI L Q) := by
  unfold w_X2_place at hw
  refine MX_of (by decide) [.ref 75, .int p0, .int p1] (by rfl) (by exact Nat.le_of_ble_eq_true rfl) ?_
  show X (FM (QI L Q)) RX2 cX2_place (some .int) 3 "place" 1 0 0 (L, M) 0 [.ref 75, .int p0, .int p1] []
  refine X_iload_n 1 dX2_place_0 rfl rfl ?_
  refine X_bipush 3 (v := 10) dX2_place_1 rfl rfl ?_
  refine X_imul 4 dX2_place_3 rfl ?_
  refine X_iload_n 5 dX2_place_4 rfl rfl ?_
  refine X_iadd 6 dX2_place_5 rfl ?_
  exact X_ret rfl rfl dX2_place_6 ⟨_, _, rfl, rfl, hw⟩
def w_X2_keep_33 (L : Lay) (w : Nat) (K33 : Int32 → Int32 → Mem → Prop) (v2 : Int32) (v3 : Int32) (M : Mem) (Q : Mem → Prop) : Prop := ((v3 < (mi M w 2) → (w_X2_place L v3 v2 M (fun x9 M8 => (vp_in v3 10 ∧ (vp_in x9 240 ∧ (∀ M12 : Mem, M12 = si M8 77 (tn x9) (mi M8 (oA w (tn v3)) 7) → (w_X2_place L v3 v2 M12 (fun x14 M13 => ((((mp M13 w 11) = none → (vp_in x14 240 ∧ (∀ M18 : Mem, M18 = si M13 78 (tn x14) (0 : Int32) → (∀ x19 : Int32, x19 = v3 + (1 : Int32) → (K33 v2 x19 M18))))) ∧ ∀ a16 : Nat, (mp M13 w 11) = some a16 → (vp_in x14 240 ∧ (∀ M21 : Mem, M21 = si M13 78 (tn x14) (mi M13 (oA w (tn v3)) 8) → (∀ x22 : Int32, x22 = v3 + (1 : Int32) → (K33 v2 x22 M21)))))))))))))) ∧ (¬ v3 < (mi M w 2) → (Q M)))
set_option maxRecDepth 20000 in
theorem t_X2_keep_33 {L : Lay} (hL : LY L) {w : Nat} (hhw : IsW w) {K33 : Int32 → Int32 → Mem → Prop} {v2 : Int32} {v3 : Int32}  {M : Mem} {Q : Mem → Prop} (hw : w_X2_keep_33 L w K33 v2 v3 M Q) (hK33 : ∀ (v2 : Int32) (v3 : Int32) (M : Mem), K33 v2 v3 M → X (FM (QV L Q)) RX2 cX2_keep none 4 "keep" 2 0 0 (L, M) 33 [.ref 75, .ref w, .int v2, .int v3] []) : X (FM (QV L Q)) RX2 cX2_keep none 4 "keep" 2 0 0 (L, M) 33 [.ref 75, .ref w, .int v2, .int v3] [] := by
  unfold w_X2_keep_33 at hw
  refine X_iload_n 34 dX2_keep_33 rfl rfl ?_
  refine X_aload_n 35 dX2_keep_34 rfl rfl ?_
  refine X_getI 38 f_X2_38 (hL.W hhw) rfl dX2_keep_35 rfl ?_
  refine X_icmp_ge 98 41 dX2_keep_38 rfl rfl (fun c7 => ?_) (fun c7 => ?_)
  · have hw := hw.2 c7
    exact X_retV rfl dX2_keep_98 ⟨_, rfl, rfl, hw⟩
  · have hw := hw.1 c7
    refine X_aload_n 42 dX2_keep_41 rfl rfl ?_
    refine X_getR 45 f_X2_17 (hL.ob (c := 2) (by decide) rfl) rfl (hL.rr (by decide) rfl) dX2_keep_42 rfl ?_
    refine X_aload_n 46 dX2_keep_45 rfl rfl ?_
    refine X_iload_n 47 dX2_keep_46 rfl rfl ?_
    refine X_iload_n 48 dX2_keep_47 rfl rfl ?_
    refine Y_cVI 51 (as := [.int v3, .int v2]) m_X2_41 (s_X2_place hL  hw) (hL.ob (c := 2) (by decide) rfl) rfl (by decide) (Nat.le_of_ble_eq_true rfl) dX2_keep_48 rfl rfl (fun x9 M8 hw => ?_)
    refine X_aload_n 52 dX2_keep_51 rfl rfl ?_
    refine X_getR 55 f_X2_45 (hL.W hhw) rfl (hL.wrr hhw (k := 0) (x := 1) rfl rfl (by decide)) dX2_keep_52 rfl ?_
    refine X_iload_n 56 dX2_keep_55 rfl rfl ?_
    obtain ⟨c10, hw⟩ := hw
    refine X_aald 57 (Nat.le_refl 5) (by decide) (hL.war hhw (k := 1) (t := 5) (n := 10) rfl rfl (by decide)) c10 (hL.ownr hhw (vp_lt c10)) dX2_keep_56 rfl ?_
    refine X_getI 60 f_X2_49 (hL.own hhw (vp_lt c10)) rfl dX2_keep_57 rfl ?_
    obtain ⟨c11, hw⟩ := hw
    refine Y_iast 61 (k := (tn x9)) (hL.ar (t := 0) (n := 240) (by decide) rfl) c11 rfl dX2_keep_60 rfl ?_
    refine X_nmM (fun M12 eM12 => ?_)
    have hw := hw M12 eM12
    refine X_aload_n 62 dX2_keep_61 rfl rfl ?_
    refine X_getR 65 f_X2_21 (hL.ob (c := 2) (by decide) rfl) rfl (hL.rr (by decide) rfl) dX2_keep_62 rfl ?_
    refine X_aload_n 66 dX2_keep_65 rfl rfl ?_
    refine X_iload_n 67 dX2_keep_66 rfl rfl ?_
    refine X_iload_n 68 dX2_keep_67 rfl rfl ?_
    refine Y_cVI 71 (as := [.int v3, .int v2]) m_X2_41 (s_X2_place hL  hw) (hL.ob (c := 2) (by decide) rfl) rfl (by decide) (Nat.le_of_ble_eq_true rfl) dX2_keep_68 rfl rfl (fun x14 M13 hw => ?_)
    refine X_aload_n 72 dX2_keep_71 rfl rfl ?_
    refine X_getQ 75 f_X2_34 (hL.W hhw) rfl dX2_keep_72 rfl ?_
    refine X_ifnonnull 82 78 dX2_keep_75 rfl rfl (fun a16 c15 => ?_) (fun c15 => ?_)
    · have hw := hw.2 a16 c15
      refine X_aload_n 83 dX2_keep_82 rfl rfl ?_
      refine X_getR 86 f_X2_45 (hL.W hhw) rfl (hL.wrr hhw (k := 0) (x := 1) rfl rfl (by decide)) dX2_keep_83 rfl ?_
      refine X_iload_n 87 dX2_keep_86 rfl rfl ?_
      refine X_aald 88 (Nat.le_refl 5) (by decide) (hL.war hhw (k := 1) (t := 5) (n := 10) rfl rfl (by decide)) c10 (hL.ownr hhw (vp_lt c10)) dX2_keep_87 rfl ?_
      refine X_getI 91 f_X2_53 (hL.own hhw (vp_lt c10)) rfl dX2_keep_88 rfl ?_
      obtain ⟨c20, hw⟩ := hw
      refine Y_iast 92 (k := (tn x14)) (hL.ar (t := 0) (n := 240) (by decide) rfl) c20 rfl dX2_keep_91 rfl ?_
      refine X_nmM (fun M21 eM21 => ?_)
      have hw := hw M21 eM21
      obtain ⟨x22, ex22⟩ : ∃ x22 : Int32, x22 = v3 + (1 : Int32) := ⟨_, rfl⟩
      have hw := hw x22 ex22
      refine X_iinc 95 (v := x22) (ls' := [.ref 75, .ref w, .int v2, .int x22]) dX2_keep_92 rfl rfl (by rw [ex22]; rfl) rfl (Or.inr (Or.inr ⟨_, rfl, rfl⟩)) ?_
      refine X_goto 33 dX2_keep_95 rfl ?_
      exact hK33 v2 x22 M21 hw
    · have hw := hw.1 c15
      refine X_iconst 79 (v := 0) dX2_keep_78 rfl rfl ?_
      refine X_goto 91 dX2_keep_79 rfl ?_
      obtain ⟨c17, hw⟩ := hw
      refine Y_iast 92 (k := (tn x14)) (hL.ar (t := 0) (n := 240) (by decide) rfl) c17 rfl dX2_keep_91 rfl ?_
      refine X_nmM (fun M18 eM18 => ?_)
      have hw := hw M18 eM18
      obtain ⟨x19, ex19⟩ : ∃ x19 : Int32, x19 = v3 + (1 : Int32) := ⟨_, rfl⟩
      have hw := hw x19 ex19
      refine X_iinc 95 (v := x19) (ls' := [.ref 75, .ref w, .int v2, .int x19]) dX2_keep_92 rfl rfl (by rw [ex19]; rfl) rfl (Or.inr (Or.inr ⟨_, rfl, rfl⟩)) ?_
      refine X_goto 33 dX2_keep_95 rfl ?_
      exact hK33 v2 x19 M18 hw
def w_X2_keep (L : Lay) (w : Nat) (M : Mem) (Q : Mem → Prop) : Prop := ∀ x1 : Int32, x1 = (((mi M w 0) / (30 : Int32)) - (1 : Int32)) → (((x1 < 0 → (Q M)) ∧ (¬ x1 < 0 → (((x1 < (24 : Int32) → (vp_in x1 24 ∧ ((∀ a, (mp M w 11) = some a → OB L a 4) ∧ (∀ M6 : Mem, M6 = sq M 76 (tn x1) (mp M w 11) → (LP3 (fun K33 v2 v3 M => w_X2_keep_33 L w  K33 v2 v3 M Q) x1 (0 : Int32) M6))))) ∧ (¬ x1 < (24 : Int32) → (Q M)))))))
set_option maxRecDepth 20000 in
theorem s_X2_keep {L : Lay} (hL : LY L) {w : Nat} (hhw : IsW w) {M : Mem} {Q : Mem → Prop} (hw : w_X2_keep L w M Q) : MX yX2_keep cX2_keep none 4 2 0 0 [.ref 75, .ref w] (L, M) (QV L Q) := by
  unfold w_X2_keep at hw
  refine MX_of (by decide) [.ref 75, .ref w, junk, junk] (by rfl) (by exact Nat.le_of_ble_eq_true rfl) ?_
  show X (FM (QV L Q)) RX2 cX2_keep none 4 "keep" 2 0 0 (L, M) 0 [.ref 75, .ref w, junk, junk] []
  refine X_aload_n 1 dX2_keep_0 rfl rfl ?_
  refine X_getI 4 f_X2_28 (hL.W hhw) rfl dX2_keep_1 rfl ?_
  refine X_bipush 6 (v := 30) dX2_keep_4 rfl rfl ?_
  refine X_idiv 7 dX2_keep_6 rfl (by decide) ?_
  refine X_iconst 8 (v := 1) dX2_keep_7 rfl rfl ?_
  refine X_isub 9 dX2_keep_8 rfl ?_
  refine X_nmI (fun x1 ex1 => ?_)
  have hw := hw x1 ex1
  refine X_istore_n 10 (ls' := [.ref 75, .ref w, .int x1, junk]) dX2_keep_9 rfl rfl (Nat.le_of_ble_eq_true rfl) rfl (Or.inr (Or.inr ⟨_, rfl, rfl⟩)) ?_
  refine X_iload_n 11 dX2_keep_10 rfl rfl ?_
  refine X_if_lt 20 14 (y := 0) dX2_keep_11 rfl rfl (fun c2 => ?_) (fun c2 => ?_)
  · have hw := hw.1 c2
    exact X_retV rfl dX2_keep_20 ⟨_, rfl, rfl, hw⟩
  · have hw := hw.2 c2
    refine X_iload_n 15 dX2_keep_14 rfl rfl ?_
    refine X_bipush 17 (v := 24) dX2_keep_15 rfl rfl ?_
    refine X_icmp_lt 21 20 dX2_keep_17 rfl rfl (fun c3 => ?_) (fun c3 => ?_)
    · have hw := hw.1 c3
      refine X_aload_n 22 dX2_keep_21 rfl rfl ?_
      refine X_getR 25 f_X2_11 (hL.ob (c := 2) (by decide) rfl) rfl (hL.rr (by decide) rfl) dX2_keep_22 rfl ?_
      refine X_iload_n 26 dX2_keep_25 rfl rfl ?_
      refine X_aload_n 27 dX2_keep_26 rfl rfl ?_
      refine X_getQ 30 f_X2_34 (hL.W hhw) rfl dX2_keep_27 rfl ?_
      obtain ⟨c4, hw⟩ := hw
      obtain ⟨c5, hw⟩ := hw
      refine X_aastO 31 (hL.ar (t := 7) (n := 24) (by decide) rfl) c4 c5 dX2_keep_30 rfl ?_
      refine X_nmM (fun M6 eM6 => ?_)
      have hw := hw M6 eM6
      refine X_iconst 32 (v := 0) dX2_keep_31 rfl rfl ?_
      refine X_istore_n 33 (ls' := [.ref 75, .ref w, .int x1, .int (0 : Int32)]) dX2_keep_32 rfl rfl (Nat.le_of_ble_eq_true rfl) rfl (Or.inr (Or.inr ⟨_, rfl, rfl⟩)) ?_
      exact LP3_s hw (G := fun v2 v3 M => X (FM (QV L Q)) RX2 cX2_keep none 4 "keep" 2 0 0 (L, M) 33 [.ref 75, .ref w, .int v2, .int v3] []) (fun K33 v2 v3 M hb hK => t_X2_keep_33 hL hhw hb  hK)
    · have hw := hw.2 c3
      exact X_retV rfl dX2_keep_20 ⟨_, rfl, rfl, hw⟩
def w_X7_add (L : Lay) (p0 : Int32) (p1 : Int32) (p2 : Int32) (p3 : Int32) (M : Mem) (Q : Int32 → Mem → Prop) : Prop := (((mi M 80 0) < (200 : Int32) → (vp_in (mi M 80 0) 200 ∧ (∀ M3 : Mem, M3 = si M 81 (tn (mi M 80 0)) p0 → (vp_in (mi M3 80 0) 200 ∧ (∀ M5 : Mem, M5 = si M3 82 (tn (mi M3 80 0)) p1 → (vp_in (mi M5 80 0) 200 ∧ (∀ M7 : Mem, M7 = si M5 83 (tn (mi M5 80 0)) p2 → (vp_in (mi M7 80 0) 200 ∧ (∀ M9 : Mem, M9 = si M7 84 (tn (mi M7 80 0)) p3 → (∀ M10 : Mem, M10 = si M9 80 0 ((mi M9 80 0) + (1 : Int32)) → (Q (mi M9 80 0) M10))))))))))) ∧ (¬ (mi M 80 0) < (200 : Int32) → (Q (-1 : Int32) M)))
set_option maxRecDepth 20000 in
theorem s_X7_add {L : Lay} (hL : LY L) {p0 : Int32} {p1 : Int32} {p2 : Int32} {p3 : Int32}  {M : Mem} {Q : Int32 → Mem → Prop} (hw : w_X7_add L p0 p1 p2 p3 M Q) : MX yX7_add cX7_add (some .int) 5 1 0 0 [.ref 80, .int p0, .int p1, .int p2, .int p3] (L, M) (QI L Q) := by
  unfold w_X7_add at hw
  refine MX_of (by decide) [.ref 80, .int p0, .int p1, .int p2, .int p3] (by rfl) (by exact Nat.le_of_ble_eq_true rfl) ?_
  show X (FM (QI L Q)) RX7 cX7_add (some .int) 5 "add" 1 0 0 (L, M) 0 [.ref 80, .int p0, .int p1, .int p2, .int p3] []
  refine X_aload_n 1 dX7_add_0 rfl rfl ?_
  refine X_getI 4 f_X7_24 (hL.ob (c := 7) (by decide) rfl) rfl dX7_add_1 rfl ?_
  refine X_sipush 7 (v := 200) dX7_add_4 rfl rfl ?_
  refine X_icmp_lt 12 10 dX7_add_7 rfl rfl (fun c1 => ?_) (fun c1 => ?_)
  · have hw := hw.1 c1
    refine X_aload_n 13 dX7_add_12 rfl rfl ?_
    refine X_getR 16 f_X7_11 (hL.ob (c := 7) (by decide) rfl) rfl (hL.rr (by decide) rfl) dX7_add_13 rfl ?_
    refine X_aload_n 17 dX7_add_16 rfl rfl ?_
    refine X_getI 20 f_X7_24 (hL.ob (c := 7) (by decide) rfl) rfl dX7_add_17 rfl ?_
    refine X_iload_n 21 dX7_add_20 rfl rfl ?_
    obtain ⟨c2, hw⟩ := hw
    refine Y_iast 22 (k := (tn (mi M 80 0))) (hL.ar (t := 0) (n := 200) (by decide) rfl) c2 rfl dX7_add_21 rfl ?_
    refine X_nmM (fun M3 eM3 => ?_)
    have hw := hw M3 eM3
    refine X_aload_n 23 dX7_add_22 rfl rfl ?_
    refine X_getR 26 f_X7_15 (hL.ob (c := 7) (by decide) rfl) rfl (hL.rr (by decide) rfl) dX7_add_23 rfl ?_
    refine X_aload_n 27 dX7_add_26 rfl rfl ?_
    refine X_getI 30 f_X7_24 (hL.ob (c := 7) (by decide) rfl) rfl dX7_add_27 rfl ?_
    refine X_iload_n 31 dX7_add_30 rfl rfl ?_
    obtain ⟨c4, hw⟩ := hw
    refine Y_iast 32 (k := (tn (mi M3 80 0))) (hL.ar (t := 0) (n := 200) (by decide) rfl) c4 rfl dX7_add_31 rfl ?_
    refine X_nmM (fun M5 eM5 => ?_)
    have hw := hw M5 eM5
    refine X_aload_n 33 dX7_add_32 rfl rfl ?_
    refine X_getR 36 f_X7_18 (hL.ob (c := 7) (by decide) rfl) rfl (hL.rr (by decide) rfl) dX7_add_33 rfl ?_
    refine X_aload_n 37 dX7_add_36 rfl rfl ?_
    refine X_getI 40 f_X7_24 (hL.ob (c := 7) (by decide) rfl) rfl dX7_add_37 rfl ?_
    refine X_iload_n 41 dX7_add_40 rfl rfl ?_
    obtain ⟨c6, hw⟩ := hw
    refine Y_iast 42 (k := (tn (mi M5 80 0))) (hL.ar (t := 0) (n := 200) (by decide) rfl) c6 rfl dX7_add_41 rfl ?_
    refine X_nmM (fun M7 eM7 => ?_)
    have hw := hw M7 eM7
    refine X_aload_n 43 dX7_add_42 rfl rfl ?_
    refine X_getR 46 f_X7_21 (hL.ob (c := 7) (by decide) rfl) rfl (hL.rr (by decide) rfl) dX7_add_43 rfl ?_
    refine X_aload_n 47 dX7_add_46 rfl rfl ?_
    refine X_getI 50 f_X7_24 (hL.ob (c := 7) (by decide) rfl) rfl dX7_add_47 rfl ?_
    refine X_iload 52 dX7_add_50 rfl rfl ?_
    obtain ⟨c8, hw⟩ := hw
    refine Y_iast 53 (k := (tn (mi M7 80 0))) (hL.ar (t := 0) (n := 200) (by decide) rfl) c8 rfl dX7_add_52 rfl ?_
    refine X_nmM (fun M9 eM9 => ?_)
    have hw := hw M9 eM9
    refine X_aload_n 54 dX7_add_53 rfl rfl ?_
    refine X_dup 55 dX7_add_54 rfl rfl ?_
    refine X_getI 58 f_X7_24 (hL.ob (c := 7) (by decide) rfl) rfl dX7_add_55 rfl ?_
    refine X_dup_x1 59 dX7_add_58 rfl rfl rfl ?_
    refine X_iconst 60 (v := 1) dX7_add_59 rfl rfl ?_
    refine X_iadd 61 dX7_add_60 rfl ?_
    refine X_putI 64 f_X7_24 (Or.inl rfl) (hL.ob (c := 7) (by decide) rfl) rfl dX7_add_61 rfl ?_
    refine X_nmM (fun M10 eM10 => ?_)
    have hw := hw M10 eM10
    exact X_ret rfl rfl dX7_add_64 ⟨_, _, rfl, rfl, hw⟩
  · have hw := hw.2 c1
    refine X_iconst 11 (v := -1) dX7_add_10 rfl rfl ?_
    exact X_ret rfl rfl dX7_add_11 ⟨_, _, rfl, rfl, hw⟩
def w_X7_sumUp_109 (L : Lay) (p0 : Int32) (p1 : Int32) (K17 : Int32 → Int32 → Mem → Prop) (v4 : Int32) (y0 : Int32) (M : Mem) (Q : Mem → Prop) : Prop := ∀ M14 : Mem, M14 = si M 80 2 y0 → (∀ x15 : Int32, x15 = v4 + (1 : Int32) → (K17 (1 : Int32) x15 M14))
set_option maxRecDepth 20000 in
theorem t_X7_sumUp_109 {L : Lay} (hL : LY L) {p0 : Int32} {p1 : Int32}  {K17 : Int32 → Int32 → Mem → Prop} {v4 : Int32} {y0 : Int32}  {M : Mem} {Q : Mem → Prop} (hw : w_X7_sumUp_109 L p0 p1 K17 v4 y0 M Q) (hK17 : ∀ (v3 : Int32) (v4 : Int32) (M : Mem), K17 v3 v4 M → X (FM (QV L Q)) RX7 cX7_sumUp none 5 "sumUp" 2 0 0 (L, M) 17 [.ref 80, .int p0, .int p1, .int v3, .int v4] []) : X (FM (QV L Q)) RX7 cX7_sumUp none 5 "sumUp" 2 0 0 (L, M) 109 [.ref 80, .int p0, .int p1, junk, .int v4] [.int y0, .ref 80] := by
  unfold w_X7_sumUp_109 at hw
  refine X_putI 112 f_X7_31 (Or.inl rfl) (hL.ob (c := 7) (by decide) rfl) rfl dX7_sumUp_109 rfl ?_
  refine X_nmM (fun M14 eM14 => ?_)
  have hw := hw M14 eM14
  refine X_iconst 113 (v := 1) dX7_sumUp_112 rfl rfl ?_
  refine X_istore_n 114 (ls' := [.ref 80, .int p0, .int p1, .int (1 : Int32), .int v4]) dX7_sumUp_113 rfl rfl (Nat.le_of_ble_eq_true rfl) rfl (Or.inr (Or.inr ⟨_, rfl, rfl⟩)) ?_
  obtain ⟨x15, ex15⟩ : ∃ x15 : Int32, x15 = v4 + (1 : Int32) := ⟨_, rfl⟩
  have hw := hw x15 ex15
  refine X_iinc 117 (v := x15) (ls' := [.ref 80, .int p0, .int p1, .int (1 : Int32), .int x15]) dX7_sumUp_114 rfl rfl (by rw [ex15]; rfl) rfl (Or.inr (Or.inr ⟨_, rfl, rfl⟩)) ?_
  refine X_goto 17 dX7_sumUp_117 rfl ?_
  exact hK17 (1 : Int32) x15 M14 hw
def w_X7_sumUp_77 (L : Lay) (p0 : Int32) (p1 : Int32) (K17 : Int32 → Int32 → Mem → Prop) (v3 : Int32) (v4 : Int32) (y0 : Int32) (M : Mem) (Q : Mem → Prop) : Prop := ∀ M10 : Mem, M10 = si M 80 1 y0 → (((v3 = 0 → (vp_in v4 200 ∧ (w_X7_sumUp_109 L p0 p1 K17 v4 (mi M10 84 (tn v4)) M10 Q))) ∧ (¬ v3 = 0 → (vp_in v4 200 ∧ (w_X7_sumUp_109 L p0 p1 K17 v4 (jmin (mi M10 80 2) (mi M10 84 (tn v4))) M10 Q)))))
set_option maxRecDepth 20000 in
theorem t_X7_sumUp_77 {L : Lay} (hL : LY L) {p0 : Int32} {p1 : Int32}  {K17 : Int32 → Int32 → Mem → Prop} {v3 : Int32} {v4 : Int32} {y0 : Int32}  {M : Mem} {Q : Mem → Prop} (hw : w_X7_sumUp_77 L p0 p1 K17 v3 v4 y0 M Q) (hK17 : ∀ (v3 : Int32) (v4 : Int32) (M : Mem), K17 v3 v4 M → X (FM (QV L Q)) RX7 cX7_sumUp none 5 "sumUp" 2 0 0 (L, M) 17 [.ref 80, .int p0, .int p1, .int v3, .int v4] []) : X (FM (QV L Q)) RX7 cX7_sumUp none 5 "sumUp" 2 0 0 (L, M) 77 [.ref 80, .int p0, .int p1, .int v3, .int v4] [.int y0, .ref 80] := by
  unfold w_X7_sumUp_77 at hw
  refine X_putI 80 f_X7_28 (Or.inl rfl) (hL.ob (c := 7) (by decide) rfl) rfl dX7_sumUp_77 rfl ?_
  refine X_nmM (fun M10 eM10 => ?_)
  have hw := hw M10 eM10
  refine X_aload_n 81 dX7_sumUp_80 rfl rfl ?_
  refine X_iload_n 82 dX7_sumUp_81 rfl rfl ?_
  refine X_if_eq 102 85 (y := 0) dX7_sumUp_82 rfl rfl (fun c11 => ?_) (fun c11 => ?_)
  · have hw := hw.1 c11
    refine X_aload_n 103 dX7_sumUp_102 rfl rfl ?_
    refine X_getR 106 f_X7_21 (hL.ob (c := 7) (by decide) rfl) rfl (hL.rr (by decide) rfl) dX7_sumUp_103 rfl ?_
    refine X_iload 108 dX7_sumUp_106 rfl rfl ?_
    obtain ⟨c12, hw⟩ := hw
    refine Y_iald 109 (k := (tn v4)) (hL.ar (t := 0) (n := 200) (by decide) rfl) c12 rfl dX7_sumUp_108 rfl ?_
    refine X_weak (ls' := [.ref 80, .int p0, .int p1, junk, .int v4]) (WK.s (WK.s (WK.s (WK.j (WK.s WK.n))))) (Nat.le_of_ble_eq_true rfl) ?_
    exact t_X7_sumUp_109 hL   hw hK17
  · have hw := hw.2 c11
    refine X_aload_n 86 dX7_sumUp_85 rfl rfl ?_
    refine X_getI 89 f_X7_31 (hL.ob (c := 7) (by decide) rfl) rfl dX7_sumUp_86 rfl ?_
    refine X_aload_n 90 dX7_sumUp_89 rfl rfl ?_
    refine X_getR 93 f_X7_21 (hL.ob (c := 7) (by decide) rfl) rfl (hL.rr (by decide) rfl) dX7_sumUp_90 rfl ?_
    refine X_iload 95 dX7_sumUp_93 rfl rfl ?_
    obtain ⟨c13, hw⟩ := hw
    refine Y_iald 96 (k := (tn v4)) (hL.ar (t := 0) (n := 200) (by decide) rfl) c13 rfl dX7_sumUp_95 rfl ?_
    refine Y_mmin 99 l_X7_40 (by decide) (Nat.le_of_ble_eq_true rfl) dX7_sumUp_96 rfl ?_
    refine X_goto 109 dX7_sumUp_99 rfl ?_
    refine X_weak (ls' := [.ref 80, .int p0, .int p1, junk, .int v4]) (WK.s (WK.s (WK.s (WK.j (WK.s WK.n))))) (Nat.le_of_ble_eq_true rfl) ?_
    exact t_X7_sumUp_109 hL   hw hK17
def w_X7_sumUp_17 (L : Lay) (p0 : Int32) (p1 : Int32) (K17 : Int32 → Int32 → Mem → Prop) (v3 : Int32) (v4 : Int32) (M : Mem) (Q : Mem → Prop) : Prop := ((v4 < (mi M 80 0) → (vp_in v4 200 ∧ ((((mi M 81 (tn v4)) = p0 → (((p1 < (mi M 82 (tn v4)) → (∀ x8 : Int32, x8 = v4 + (1 : Int32) → (K17 v3 x8 M))) ∧ (¬ p1 < (mi M 82 (tn v4)) → (((v3 = 0 → (w_X7_sumUp_77 L p0 p1 K17 v3 v4 (mi M 83 (tn v4)) M Q)) ∧ (¬ v3 = 0 → (w_X7_sumUp_77 L p0 p1 K17 v3 v4 (jmax (mi M 80 1) (mi M 83 (tn v4))) M Q)))))))) ∧ (¬ (mi M 81 (tn v4)) = p0 → (∀ x6 : Int32, x6 = v4 + (1 : Int32) → (K17 v3 x6 M))))))) ∧ (¬ v4 < (mi M 80 0) → (Q M)))
set_option maxRecDepth 20000 in
theorem t_X7_sumUp_17 {L : Lay} (hL : LY L) {p0 : Int32} {p1 : Int32}  {K17 : Int32 → Int32 → Mem → Prop} {v3 : Int32} {v4 : Int32}  {M : Mem} {Q : Mem → Prop} (hw : w_X7_sumUp_17 L p0 p1 K17 v3 v4 M Q) (hK17 : ∀ (v3 : Int32) (v4 : Int32) (M : Mem), K17 v3 v4 M → X (FM (QV L Q)) RX7 cX7_sumUp none 5 "sumUp" 2 0 0 (L, M) 17 [.ref 80, .int p0, .int p1, .int v3, .int v4] []) : X (FM (QV L Q)) RX7 cX7_sumUp none 5 "sumUp" 2 0 0 (L, M) 17 [.ref 80, .int p0, .int p1, .int v3, .int v4] [] := by
  unfold w_X7_sumUp_17 at hw
  refine X_iload 19 dX7_sumUp_17 rfl rfl ?_
  refine X_aload_n 20 dX7_sumUp_19 rfl rfl ?_
  refine X_getI 23 f_X7_24 (hL.ob (c := 7) (by decide) rfl) rfl dX7_sumUp_20 rfl ?_
  refine X_icmp_ge 120 26 dX7_sumUp_23 rfl rfl (fun c3 => ?_) (fun c3 => ?_)
  · have hw := hw.2 c3
    exact X_retV rfl dX7_sumUp_120 ⟨_, rfl, rfl, hw⟩
  · have hw := hw.1 c3
    refine X_aload_n 27 dX7_sumUp_26 rfl rfl ?_
    refine X_getR 30 f_X7_11 (hL.ob (c := 7) (by decide) rfl) rfl (hL.rr (by decide) rfl) dX7_sumUp_27 rfl ?_
    refine X_iload 32 dX7_sumUp_30 rfl rfl ?_
    obtain ⟨c4, hw⟩ := hw
    refine Y_iald 33 (k := (tn v4)) (hL.ar (t := 0) (n := 200) (by decide) rfl) c4 rfl dX7_sumUp_32 rfl ?_
    refine X_iload_n 34 dX7_sumUp_33 rfl rfl ?_
    refine X_icmp_ne 114 37 dX7_sumUp_34 rfl rfl (fun c5 => ?_) (fun c5 => ?_)
    · have hw := hw.2 c5
      obtain ⟨x6, ex6⟩ : ∃ x6 : Int32, x6 = v4 + (1 : Int32) := ⟨_, rfl⟩
      have hw := hw x6 ex6
      refine X_iinc 117 (v := x6) (ls' := [.ref 80, .int p0, .int p1, .int v3, .int x6]) dX7_sumUp_114 rfl rfl (by rw [ex6]; rfl) rfl (Or.inr (Or.inr ⟨_, rfl, rfl⟩)) ?_
      refine X_goto 17 dX7_sumUp_117 rfl ?_
      exact hK17 v3 x6 M hw
    · have hw := hw.1 c5
      refine X_aload_n 38 dX7_sumUp_37 rfl rfl ?_
      refine X_getR 41 f_X7_15 (hL.ob (c := 7) (by decide) rfl) rfl (hL.rr (by decide) rfl) dX7_sumUp_38 rfl ?_
      refine X_iload 43 dX7_sumUp_41 rfl rfl ?_
      refine Y_iald 44 (k := (tn v4)) (hL.ar (t := 0) (n := 200) (by decide) rfl) c4 rfl dX7_sumUp_43 rfl ?_
      refine X_iload_n 45 dX7_sumUp_44 rfl rfl ?_
      refine X_icmp_gt 114 48 dX7_sumUp_45 rfl rfl (fun c7 => ?_) (fun c7 => ?_)
      · have hw := hw.1 c7
        obtain ⟨x8, ex8⟩ : ∃ x8 : Int32, x8 = v4 + (1 : Int32) := ⟨_, rfl⟩
        have hw := hw x8 ex8
        refine X_iinc 117 (v := x8) (ls' := [.ref 80, .int p0, .int p1, .int v3, .int x8]) dX7_sumUp_114 rfl rfl (by rw [ex8]; rfl) rfl (Or.inr (Or.inr ⟨_, rfl, rfl⟩)) ?_
        refine X_goto 17 dX7_sumUp_117 rfl ?_
        exact hK17 v3 x8 M hw
      · have hw := hw.2 c7
        refine X_aload_n 49 dX7_sumUp_48 rfl rfl ?_
        refine X_iload_n 50 dX7_sumUp_49 rfl rfl ?_
        refine X_if_eq 70 53 (y := 0) dX7_sumUp_50 rfl rfl (fun c9 => ?_) (fun c9 => ?_)
        · have hw := hw.1 c9
          refine X_aload_n 71 dX7_sumUp_70 rfl rfl ?_
          refine X_getR 74 f_X7_18 (hL.ob (c := 7) (by decide) rfl) rfl (hL.rr (by decide) rfl) dX7_sumUp_71 rfl ?_
          refine X_iload 76 dX7_sumUp_74 rfl rfl ?_
          refine Y_iald 77 (k := (tn v4)) (hL.ar (t := 0) (n := 200) (by decide) rfl) c4 rfl dX7_sumUp_76 rfl ?_
          exact t_X7_sumUp_77 hL   hw hK17
        · have hw := hw.2 c9
          refine X_aload_n 54 dX7_sumUp_53 rfl rfl ?_
          refine X_getI 57 f_X7_28 (hL.ob (c := 7) (by decide) rfl) rfl dX7_sumUp_54 rfl ?_
          refine X_aload_n 58 dX7_sumUp_57 rfl rfl ?_
          refine X_getR 61 f_X7_18 (hL.ob (c := 7) (by decide) rfl) rfl (hL.rr (by decide) rfl) dX7_sumUp_58 rfl ?_
          refine X_iload 63 dX7_sumUp_61 rfl rfl ?_
          refine Y_iald 64 (k := (tn v4)) (hL.ar (t := 0) (n := 200) (by decide) rfl) c4 rfl dX7_sumUp_63 rfl ?_
          refine Y_mmax 67 l_X7_34 (by decide) (Nat.le_of_ble_eq_true rfl) dX7_sumUp_64 rfl ?_
          refine X_goto 77 dX7_sumUp_67 rfl ?_
          exact t_X7_sumUp_77 hL   hw hK17
def w_X7_sumUp (L : Lay) (p0 : Int32) (p1 : Int32) (M : Mem) (Q : Mem → Prop) : Prop := ∀ M1 : Mem, M1 = si M 80 1 (0 : Int32) → (∀ M2 : Mem, M2 = si M1 80 2 (9999 : Int32) → (LP3 (fun K17 v3 v4 M => w_X7_sumUp_17 L p0 p1  K17 v3 v4 M Q) (0 : Int32) (0 : Int32) M2))
set_option maxRecDepth 20000 in
theorem s_X7_sumUp {L : Lay} (hL : LY L) {p0 : Int32} {p1 : Int32}  {M : Mem} {Q : Mem → Prop} (hw : w_X7_sumUp L p0 p1 M Q) : MX yX7_sumUp cX7_sumUp none 5 2 0 0 [.ref 80, .int p0, .int p1] (L, M) (QV L Q) := by
  unfold w_X7_sumUp at hw
  refine MX_of (by decide) [.ref 80, .int p0, .int p1, junk, junk] (by rfl) (by exact Nat.le_of_ble_eq_true rfl) ?_
  show X (FM (QV L Q)) RX7 cX7_sumUp none 5 "sumUp" 2 0 0 (L, M) 0 [.ref 80, .int p0, .int p1, junk, junk] []
  refine X_iconst 1 (v := 0) dX7_sumUp_0 rfl rfl ?_
  refine X_istore_n 2 (ls' := [.ref 80, .int p0, .int p1, .int (0 : Int32), junk]) dX7_sumUp_1 rfl rfl (Nat.le_of_ble_eq_true rfl) rfl (Or.inr (Or.inr ⟨_, rfl, rfl⟩)) ?_
  refine X_aload_n 3 dX7_sumUp_2 rfl rfl ?_
  refine X_iconst 4 (v := 0) dX7_sumUp_3 rfl rfl ?_
  refine X_putI 7 f_X7_28 (Or.inl rfl) (hL.ob (c := 7) (by decide) rfl) rfl dX7_sumUp_4 rfl ?_
  refine X_nmM (fun M1 eM1 => ?_)
  have hw := hw M1 eM1
  refine X_aload_n 8 dX7_sumUp_7 rfl rfl ?_
  refine X_sipush 11 (v := 9999) dX7_sumUp_8 rfl rfl ?_
  refine X_putI 14 f_X7_31 (Or.inl rfl) (hL.ob (c := 7) (by decide) rfl) rfl dX7_sumUp_11 rfl ?_
  refine X_nmM (fun M2 eM2 => ?_)
  have hw := hw M2 eM2
  refine X_iconst 15 (v := 0) dX7_sumUp_14 rfl rfl ?_
  refine X_istore 17 (ls' := [.ref 80, .int p0, .int p1, .int (0 : Int32), .int (0 : Int32)]) dX7_sumUp_15 rfl (Nat.le_of_ble_eq_true rfl) rfl (Or.inr (Or.inr ⟨_, rfl, rfl⟩)) ?_
  exact LP3_s hw (G := fun v3 v4 M => X (FM (QV L Q)) RX7 cX7_sumUp none 5 "sumUp" 2 0 0 (L, M) 17 [.ref 80, .int p0, .int p1, .int v3, .int v4] []) (fun K17 v3 v4 M hb hK => t_X7_sumUp_17 hL  hb  hK)
def w_X8_add (L : Lay) (p0 : Int32) (p1 : Int32) (p2 : Int32) (M : Mem) (Q : Int32 → Mem → Prop) : Prop := (((mi M 85 0) < (60 : Int32) → (vp_in (mi M 85 0) 60 ∧ (∀ M3 : Mem, M3 = si M 86 (tn (mi M 85 0)) p0 → (vp_in (mi M3 85 0) 60 ∧ (∀ M5 : Mem, M5 = si M3 87 (tn (mi M3 85 0)) p1 → (vp_in (mi M5 85 0) 60 ∧ (∀ M7 : Mem, M7 = si M5 88 (tn (mi M5 85 0)) p2 → (∀ M8 : Mem, M8 = si M7 85 0 ((mi M7 85 0) + (1 : Int32)) → (Q (mi M7 85 0) M8))))))))) ∧ (¬ (mi M 85 0) < (60 : Int32) → (Q (-1 : Int32) M)))
set_option maxRecDepth 20000 in
theorem s_X8_add {L : Lay} (hL : LY L) {p0 : Int32} {p1 : Int32} {p2 : Int32}  {M : Mem} {Q : Int32 → Mem → Prop} (hw : w_X8_add L p0 p1 p2 M Q) : MX yX8_add cX8_add (some .int) 4 1 0 0 [.ref 85, .int p0, .int p1, .int p2] (L, M) (QI L Q) := by
  unfold w_X8_add at hw
  refine MX_of (by decide) [.ref 85, .int p0, .int p1, .int p2] (by rfl) (by exact Nat.le_of_ble_eq_true rfl) ?_
  show X (FM (QI L Q)) RX8 cX8_add (some .int) 4 "add" 1 0 0 (L, M) 0 [.ref 85, .int p0, .int p1, .int p2] []
  refine X_aload_n 1 dX8_add_0 rfl rfl ?_
  refine X_getI 4 f_X8_24 (hL.ob (c := 8) (by decide) rfl) rfl dX8_add_1 rfl ?_
  refine X_bipush 6 (v := 60) dX8_add_4 rfl rfl ?_
  refine X_icmp_lt 11 9 dX8_add_6 rfl rfl (fun c1 => ?_) (fun c1 => ?_)
  · have hw := hw.1 c1
    refine X_aload_n 12 dX8_add_11 rfl rfl ?_
    refine X_getR 15 f_X8_11 (hL.ob (c := 8) (by decide) rfl) rfl (hL.rr (by decide) rfl) dX8_add_12 rfl ?_
    refine X_aload_n 16 dX8_add_15 rfl rfl ?_
    refine X_getI 19 f_X8_24 (hL.ob (c := 8) (by decide) rfl) rfl dX8_add_16 rfl ?_
    refine X_iload_n 20 dX8_add_19 rfl rfl ?_
    obtain ⟨c2, hw⟩ := hw
    refine Y_iast 21 (k := (tn (mi M 85 0))) (hL.ar (t := 0) (n := 60) (by decide) rfl) c2 rfl dX8_add_20 rfl ?_
    refine X_nmM (fun M3 eM3 => ?_)
    have hw := hw M3 eM3
    refine X_aload_n 22 dX8_add_21 rfl rfl ?_
    refine X_getR 25 f_X8_15 (hL.ob (c := 8) (by decide) rfl) rfl (hL.rr (by decide) rfl) dX8_add_22 rfl ?_
    refine X_aload_n 26 dX8_add_25 rfl rfl ?_
    refine X_getI 29 f_X8_24 (hL.ob (c := 8) (by decide) rfl) rfl dX8_add_26 rfl ?_
    refine X_iload_n 30 dX8_add_29 rfl rfl ?_
    obtain ⟨c4, hw⟩ := hw
    refine Y_iast 31 (k := (tn (mi M3 85 0))) (hL.ar (t := 0) (n := 60) (by decide) rfl) c4 rfl dX8_add_30 rfl ?_
    refine X_nmM (fun M5 eM5 => ?_)
    have hw := hw M5 eM5
    refine X_aload_n 32 dX8_add_31 rfl rfl ?_
    refine X_getR 35 f_X8_18 (hL.ob (c := 8) (by decide) rfl) rfl (hL.rr (by decide) rfl) dX8_add_32 rfl ?_
    refine X_aload_n 36 dX8_add_35 rfl rfl ?_
    refine X_getI 39 f_X8_24 (hL.ob (c := 8) (by decide) rfl) rfl dX8_add_36 rfl ?_
    refine X_iload_n 40 dX8_add_39 rfl rfl ?_
    obtain ⟨c6, hw⟩ := hw
    refine Y_iast 41 (k := (tn (mi M5 85 0))) (hL.ar (t := 0) (n := 60) (by decide) rfl) c6 rfl dX8_add_40 rfl ?_
    refine X_nmM (fun M7 eM7 => ?_)
    have hw := hw M7 eM7
    refine X_aload_n 42 dX8_add_41 rfl rfl ?_
    refine X_dup 43 dX8_add_42 rfl rfl ?_
    refine X_getI 46 f_X8_24 (hL.ob (c := 8) (by decide) rfl) rfl dX8_add_43 rfl ?_
    refine X_dup_x1 47 dX8_add_46 rfl rfl rfl ?_
    refine X_iconst 48 (v := 1) dX8_add_47 rfl rfl ?_
    refine X_iadd 49 dX8_add_48 rfl ?_
    refine X_putI 52 f_X8_24 (Or.inl rfl) (hL.ob (c := 8) (by decide) rfl) rfl dX8_add_49 rfl ?_
    refine X_nmM (fun M8 eM8 => ?_)
    have hw := hw M8 eM8
    exact X_ret rfl rfl dX8_add_52 ⟨_, _, rfl, rfl, hw⟩
  · have hw := hw.2 c1
    refine X_iconst 10 (v := -1) dX8_add_9 rfl rfl ?_
    exact X_ret rfl rfl dX8_add_10 ⟨_, _, rfl, rfl, hw⟩
def w_X8_countBad_4 (L : Lay) (p0 : Int32) (K4 : Int32 → Int32 → Mem → Prop) (v2 : Int32) (v3 : Int32) (M : Mem) (Q : Int32 → Mem → Prop) : Prop := ((v3 < (mi M 85 0) → (((p0 = (-1 : Int32) → (Q v2 M)) ∧ (¬ p0 = (-1 : Int32) → (vp_in v3 60 ∧ (((((mi M 87 (tn v3)) * p0) < (((mi M 87 (tn v3)) - (mi M 88 (tn v3))) * (100 : Int32)) → (vp_in v2 60 ∧ (∀ M7 : Mem, M7 = si M 89 (tn v2) (mi M 86 (tn v3)) → (∀ x8 : Int32, x8 = v2 + (1 : Int32) → (∀ x9 : Int32, x9 = v3 + (1 : Int32) → (K4 x8 x9 M7)))))) ∧ (¬ ((mi M 87 (tn v3)) * p0) < (((mi M 87 (tn v3)) - (mi M 88 (tn v3))) * (100 : Int32)) → (∀ x5 : Int32, x5 = v3 + (1 : Int32) → (K4 v2 x5 M)))))))))) ∧ (¬ v3 < (mi M 85 0) → (Q v2 M)))
set_option maxRecDepth 20000 in
theorem t_X8_countBad_4 {L : Lay} (hL : LY L) {p0 : Int32}  {K4 : Int32 → Int32 → Mem → Prop} {v2 : Int32} {v3 : Int32}  {M : Mem} {Q : Int32 → Mem → Prop} (hw : w_X8_countBad_4 L p0 K4 v2 v3 M Q) (hK4 : ∀ (v2 : Int32) (v3 : Int32) (M : Mem), K4 v2 v3 M → X (FM (QI L Q)) RX8 cX8_countBad (some .int) 4 "countBad" 1 0 0 (L, M) 4 [.ref 85, .int p0, .int v2, .int v3] []) : X (FM (QI L Q)) RX8 cX8_countBad (some .int) 4 "countBad" 1 0 0 (L, M) 4 [.ref 85, .int p0, .int v2, .int v3] [] := by
  unfold w_X8_countBad_4 at hw
  refine X_iload_n 5 dX8_countBad_4 rfl rfl ?_
  refine X_aload_n 6 dX8_countBad_5 rfl rfl ?_
  refine X_getI 9 f_X8_24 (hL.ob (c := 8) (by decide) rfl) rfl dX8_countBad_6 rfl ?_
  refine X_icmp_ge 65 12 dX8_countBad_9 rfl rfl (fun c1 => ?_) (fun c1 => ?_)
  · have hw := hw.2 c1
    refine X_iload_n 66 dX8_countBad_65 rfl rfl ?_
    exact X_ret rfl rfl dX8_countBad_66 ⟨_, _, rfl, rfl, hw⟩
  · have hw := hw.1 c1
    refine X_iload_n 13 dX8_countBad_12 rfl rfl ?_
    refine X_iconst 14 (v := -1) dX8_countBad_13 rfl rfl ?_
    refine X_icmp_eq 65 17 dX8_countBad_14 rfl rfl (fun c2 => ?_) (fun c2 => ?_)
    · have hw := hw.1 c2
      refine X_iload_n 66 dX8_countBad_65 rfl rfl ?_
      exact X_ret rfl rfl dX8_countBad_66 ⟨_, _, rfl, rfl, hw⟩
    · have hw := hw.2 c2
      refine X_aload_n 18 dX8_countBad_17 rfl rfl ?_
      refine X_getR 21 f_X8_15 (hL.ob (c := 8) (by decide) rfl) rfl (hL.rr (by decide) rfl) dX8_countBad_18 rfl ?_
      refine X_iload_n 22 dX8_countBad_21 rfl rfl ?_
      obtain ⟨c3, hw⟩ := hw
      refine Y_iald 23 (k := (tn v3)) (hL.ar (t := 0) (n := 60) (by decide) rfl) c3 rfl dX8_countBad_22 rfl ?_
      refine X_aload_n 24 dX8_countBad_23 rfl rfl ?_
      refine X_getR 27 f_X8_18 (hL.ob (c := 8) (by decide) rfl) rfl (hL.rr (by decide) rfl) dX8_countBad_24 rfl ?_
      refine X_iload_n 28 dX8_countBad_27 rfl rfl ?_
      refine Y_iald 29 (k := (tn v3)) (hL.ar (t := 0) (n := 60) (by decide) rfl) c3 rfl dX8_countBad_28 rfl ?_
      refine X_isub 30 dX8_countBad_29 rfl ?_
      refine X_bipush 32 (v := 100) dX8_countBad_30 rfl rfl ?_
      refine X_imul 33 dX8_countBad_32 rfl ?_
      refine X_aload_n 34 dX8_countBad_33 rfl rfl ?_
      refine X_getR 37 f_X8_15 (hL.ob (c := 8) (by decide) rfl) rfl (hL.rr (by decide) rfl) dX8_countBad_34 rfl ?_
      refine X_iload_n 38 dX8_countBad_37 rfl rfl ?_
      refine Y_iald 39 (k := (tn v3)) (hL.ar (t := 0) (n := 60) (by decide) rfl) c3 rfl dX8_countBad_38 rfl ?_
      refine X_iload_n 40 dX8_countBad_39 rfl rfl ?_
      refine X_imul 41 dX8_countBad_40 rfl ?_
      refine X_icmp_le 59 44 dX8_countBad_41 rfl rfl (fun c4 => ?_) (fun c4 => ?_)
      · have hw := hw.2 c4
        obtain ⟨x5, ex5⟩ : ∃ x5 : Int32, x5 = v3 + (1 : Int32) := ⟨_, rfl⟩
        have hw := hw x5 ex5
        refine X_iinc 62 (v := x5) (ls' := [.ref 85, .int p0, .int v2, .int x5]) dX8_countBad_59 rfl rfl (by rw [ex5]; rfl) rfl (Or.inr (Or.inr ⟨_, rfl, rfl⟩)) ?_
        refine X_goto 4 dX8_countBad_62 rfl ?_
        exact hK4 v2 x5 M hw
      · have hw := hw.1 c4
        refine X_aload_n 45 dX8_countBad_44 rfl rfl ?_
        refine X_getR 48 f_X8_21 (hL.ob (c := 8) (by decide) rfl) rfl (hL.rr (by decide) rfl) dX8_countBad_45 rfl ?_
        refine X_iload_n 49 dX8_countBad_48 rfl rfl ?_
        refine X_aload_n 50 dX8_countBad_49 rfl rfl ?_
        refine X_getR 53 f_X8_11 (hL.ob (c := 8) (by decide) rfl) rfl (hL.rr (by decide) rfl) dX8_countBad_50 rfl ?_
        refine X_iload_n 54 dX8_countBad_53 rfl rfl ?_
        refine Y_iald 55 (k := (tn v3)) (hL.ar (t := 0) (n := 60) (by decide) rfl) c3 rfl dX8_countBad_54 rfl ?_
        obtain ⟨c6, hw⟩ := hw
        refine Y_iast 56 (k := (tn v2)) (hL.ar (t := 0) (n := 60) (by decide) rfl) c6 rfl dX8_countBad_55 rfl ?_
        refine X_nmM (fun M7 eM7 => ?_)
        have hw := hw M7 eM7
        obtain ⟨x8, ex8⟩ : ∃ x8 : Int32, x8 = v2 + (1 : Int32) := ⟨_, rfl⟩
        have hw := hw x8 ex8
        refine X_iinc 59 (v := x8) (ls' := [.ref 85, .int p0, .int x8, .int v3]) dX8_countBad_56 rfl rfl (by rw [ex8]; rfl) rfl (Or.inr (Or.inr ⟨_, rfl, rfl⟩)) ?_
        obtain ⟨x9, ex9⟩ : ∃ x9 : Int32, x9 = v3 + (1 : Int32) := ⟨_, rfl⟩
        have hw := hw x9 ex9
        refine X_iinc 62 (v := x9) (ls' := [.ref 85, .int p0, .int x8, .int x9]) dX8_countBad_59 rfl rfl (by rw [ex9]; rfl) rfl (Or.inr (Or.inr ⟨_, rfl, rfl⟩)) ?_
        refine X_goto 4 dX8_countBad_62 rfl ?_
        exact hK4 x8 x9 M7 hw
def w_X8_countBad (L : Lay) (p0 : Int32) (M : Mem) (Q : Int32 → Mem → Prop) : Prop := LP3 (fun K4 v2 v3 M => w_X8_countBad_4 L p0  K4 v2 v3 M Q) (0 : Int32) (0 : Int32) M
set_option maxRecDepth 20000 in
theorem s_X8_countBad {L : Lay} (hL : LY L) {p0 : Int32}  {M : Mem} {Q : Int32 → Mem → Prop} (hw : w_X8_countBad L p0 M Q) : MX yX8_countBad cX8_countBad (some .int) 4 1 0 0 [.ref 85, .int p0] (L, M) (QI L Q) := by
  unfold w_X8_countBad at hw
  refine MX_of (by decide) [.ref 85, .int p0, junk, junk] (by rfl) (by exact Nat.le_of_ble_eq_true rfl) ?_
  show X (FM (QI L Q)) RX8 cX8_countBad (some .int) 4 "countBad" 1 0 0 (L, M) 0 [.ref 85, .int p0, junk, junk] []
  refine X_iconst 1 (v := 0) dX8_countBad_0 rfl rfl ?_
  refine X_istore_n 2 (ls' := [.ref 85, .int p0, .int (0 : Int32), junk]) dX8_countBad_1 rfl rfl (Nat.le_of_ble_eq_true rfl) rfl (Or.inr (Or.inr ⟨_, rfl, rfl⟩)) ?_
  refine X_iconst 3 (v := 0) dX8_countBad_2 rfl rfl ?_
  refine X_istore_n 4 (ls' := [.ref 85, .int p0, .int (0 : Int32), .int (0 : Int32)]) dX8_countBad_3 rfl rfl (Nat.le_of_ble_eq_true rfl) rfl (Or.inr (Or.inr ⟨_, rfl, rfl⟩)) ?_
  exact LP3_s hw (G := fun v2 v3 M => X (FM (QI L Q)) RX8 cX8_countBad (some .int) 4 "countBad" 1 0 0 (L, M) 4 [.ref 85, .int p0, .int v2, .int v3] []) (fun K4 v2 v3 M hb hK => t_X8_countBad_4 hL  hb  hK)
def w_X8_explains_2 (L : Lay) (p0 : Int32) (p1 : Int32) (K2 : Int32 → Mem → Prop) (v3 : Int32) (M : Mem) (Q : Int32 → Mem → Prop) : Prop := ((v3 < p1 → (vp_in v3 60 ∧ (((((mi M 89 (tn v3)) &&& p0) = 0 → (Q (0 : Int32) M)) ∧ (¬ ((mi M 89 (tn v3)) &&& p0) = 0 → (∀ x4 : Int32, x4 = v3 + (1 : Int32) → (K2 x4 M))))))) ∧ (¬ v3 < p1 → (Q (1 : Int32) M)))
set_option maxRecDepth 20000 in
theorem t_X8_explains_2 {L : Lay} (hL : LY L) {p0 : Int32} {p1 : Int32}  {K2 : Int32 → Mem → Prop} {v3 : Int32}  {M : Mem} {Q : Int32 → Mem → Prop} (hw : w_X8_explains_2 L p0 p1 K2 v3 M Q) (hK2 : ∀ (v3 : Int32) (M : Mem), K2 v3 M → X (FM (QZ L Q)) RX8 cX8_explains (some .boolean) 4 "explains" 1 0 0 (L, M) 2 [.ref 85, .int p0, .int p1, .int v3] []) : X (FM (QZ L Q)) RX8 cX8_explains (some .boolean) 4 "explains" 1 0 0 (L, M) 2 [.ref 85, .int p0, .int p1, .int v3] [] := by
  unfold w_X8_explains_2 at hw
  refine X_iload_n 3 dX8_explains_2 rfl rfl ?_
  refine X_iload_n 4 dX8_explains_3 rfl rfl ?_
  refine X_icmp_ge 26 7 dX8_explains_4 rfl rfl (fun c1 => ?_) (fun c1 => ?_)
  · have hw := hw.2 c1
    refine X_iconst 27 (v := 1) dX8_explains_26 rfl rfl ?_
    exact X_ret rfl (nar_bool (Or.inr rfl)) dX8_explains_27 ⟨_, _, rfl, Or.inr rfl, rfl, hw⟩
  · have hw := hw.1 c1
    refine X_aload_n 8 dX8_explains_7 rfl rfl ?_
    refine X_getR 11 f_X8_21 (hL.ob (c := 8) (by decide) rfl) rfl (hL.rr (by decide) rfl) dX8_explains_8 rfl ?_
    refine X_iload_n 12 dX8_explains_11 rfl rfl ?_
    obtain ⟨c2, hw⟩ := hw
    refine Y_iald 13 (k := (tn v3)) (hL.ar (t := 0) (n := 60) (by decide) rfl) c2 rfl dX8_explains_12 rfl ?_
    refine X_iload_n 14 dX8_explains_13 rfl rfl ?_
    refine X_iand 15 dX8_explains_14 rfl ?_
    refine X_if_ne 20 18 (y := 0) dX8_explains_15 rfl rfl (fun c3 => ?_) (fun c3 => ?_)
    · have hw := hw.2 c3
      obtain ⟨x4, ex4⟩ : ∃ x4 : Int32, x4 = v3 + (1 : Int32) := ⟨_, rfl⟩
      have hw := hw x4 ex4
      refine X_iinc 23 (v := x4) (ls' := [.ref 85, .int p0, .int p1, .int x4]) dX8_explains_20 rfl rfl (by rw [ex4]; rfl) rfl (Or.inr (Or.inr ⟨_, rfl, rfl⟩)) ?_
      refine X_goto 2 dX8_explains_23 rfl ?_
      exact hK2 x4 M hw
    · have hw := hw.1 c3
      refine X_iconst 19 (v := 0) dX8_explains_18 rfl rfl ?_
      exact X_ret rfl (nar_bool (Or.inl rfl)) dX8_explains_19 ⟨_, _, rfl, Or.inl rfl, rfl, hw⟩
def w_X8_explains (L : Lay) (p0 : Int32) (p1 : Int32) (M : Mem) (Q : Int32 → Mem → Prop) : Prop := LP2 (fun K2 v3 M => w_X8_explains_2 L p0 p1  K2 v3 M Q) (0 : Int32) M
set_option maxRecDepth 20000 in
theorem s_X8_explains {L : Lay} (hL : LY L) {p0 : Int32} {p1 : Int32}  {M : Mem} {Q : Int32 → Mem → Prop} (hw : w_X8_explains L p0 p1 M Q) : MX yX8_explains cX8_explains (some .boolean) 4 1 0 0 [.ref 85, .int p0, .int p1] (L, M) (QZ L Q) := by
  unfold w_X8_explains at hw
  refine MX_of (by decide) [.ref 85, .int p0, .int p1, junk] (by rfl) (by exact Nat.le_of_ble_eq_true rfl) ?_
  show X (FM (QZ L Q)) RX8 cX8_explains (some .boolean) 4 "explains" 1 0 0 (L, M) 0 [.ref 85, .int p0, .int p1, junk] []
  refine X_iconst 1 (v := 0) dX8_explains_0 rfl rfl ?_
  refine X_istore_n 2 (ls' := [.ref 85, .int p0, .int p1, .int (0 : Int32)]) dX8_explains_1 rfl rfl (Nat.le_of_ble_eq_true rfl) rfl (Or.inr (Or.inr ⟨_, rfl, rfl⟩)) ?_
  exact LP2_s hw (G := fun v3 M => X (FM (QZ L Q)) RX8 cX8_explains (some .boolean) 4 "explains" 1 0 0 (L, M) 2 [.ref 85, .int p0, .int p1, .int v3] []) (fun K2 v3 M hb hK => t_X8_explains_2 hL  hb  hK)
def w_X8_inEachFewest_22 (L : Lay) (p0 : Int32) (K22 : Int32 → Int32 → Int32 → Int32 → Mem → Prop) (v2 : Int32) (v3 : Int32) (v4 : Int32) (v5 : Int32) (M : Mem) (Q : Int32 → Mem → Prop) : Prop := ((v5 < (1024 : Int32) → (w_J6_bitCount_0f7a4 L v5 M (fun x6 M5 => (((v3 < x6 → (∀ x8 : Int32, x8 = v5 + (1 : Int32) → (K22 v2 v3 v4 x8 M5))) ∧ (¬ v3 < x6 → (w_X8_explains L v5 v2 M5 (fun x10 M9 => (((x10 = 0 → (∀ x12 : Int32, x12 = v5 + (1 : Int32) → (K22 v2 v3 v4 x12 M9))) ∧ (¬ x10 = 0 → (∀ x13 : Int32, x13 = (if x6 < v3 then v5 else (v4 &&& v5)) → (∀ x14 : Int32, x14 = v5 + (1 : Int32) → (K22 v2 x6 x13 x14 M9)))))))))))))) ∧ (¬ v5 < (1024 : Int32) → (Q v4 M)))
set_option maxRecDepth 20000 in
theorem t_X8_inEachFewest_22 {L : Lay} (hL : LY L) {p0 : Int32}  {K22 : Int32 → Int32 → Int32 → Int32 → Mem → Prop} {v2 : Int32} {v3 : Int32} {v4 : Int32} {v5 : Int32}  {M : Mem} {Q : Int32 → Mem → Prop} (hw : w_X8_inEachFewest_22 L p0 K22 v2 v3 v4 v5 M Q) (hK22 : ∀ (v2 : Int32) (v3 : Int32) (v4 : Int32) (v5 : Int32) (M : Mem), K22 v2 v3 v4 v5 M → X (FM (QI L Q)) RX8 cX8_inEachFewest (some .int) 7 "inEachFewest" 2 0 0 (L, M) 22 [.ref 85, junk, .int v2, .int v3, .int v4, .int v5, junk] []) : X (FM (QI L Q)) RX8 cX8_inEachFewest (some .int) 7 "inEachFewest" 2 0 0 (L, M) 22 [.ref 85, junk, .int v2, .int v3, .int v4, .int v5, junk] [] := by
  unfold w_X8_inEachFewest_22 at hw
  refine X_iload 24 dX8_inEachFewest_22 rfl rfl ?_
  refine X_sipush 27 (v := 1024) dX8_inEachFewest_24 rfl rfl ?_
  refine X_icmp_ge 80 30 dX8_inEachFewest_27 rfl rfl (fun c4 => ?_) (fun c4 => ?_)
  · have hw := hw.2 c4
    refine X_iload 82 dX8_inEachFewest_80 rfl rfl ?_
    exact X_ret rfl rfl dX8_inEachFewest_82 ⟨_, _, rfl, rfl, hw⟩
  · have hw := hw.1 c4
    refine X_iload 32 dX8_inEachFewest_30 rfl rfl ?_
    refine Y_cSI 35 (as := [.int v5]) m_X8_32 (s_J6_bitCount_0f7a4 hL  hw) rfl (by decide) (Nat.le_of_ble_eq_true rfl) dX8_inEachFewest_32 rfl rfl (fun x6 M5 hw => ?_)
    refine X_istore 37 (ls' := [.ref 85, junk, .int v2, .int v3, .int v4, .int v5, .int x6]) dX8_inEachFewest_35 rfl (Nat.le_of_ble_eq_true rfl) rfl (Or.inr (Or.inr ⟨_, rfl, rfl⟩)) ?_
    refine X_iload 39 dX8_inEachFewest_37 rfl rfl ?_
    refine X_iload_n 40 dX8_inEachFewest_39 rfl rfl ?_
    refine X_icmp_gt 74 43 dX8_inEachFewest_40 rfl rfl (fun c7 => ?_) (fun c7 => ?_)
    · have hw := hw.1 c7
      obtain ⟨x8, ex8⟩ : ∃ x8 : Int32, x8 = v5 + (1 : Int32) := ⟨_, rfl⟩
      have hw := hw x8 ex8
      refine X_iinc 77 (v := x8) (ls' := [.ref 85, junk, .int v2, .int v3, .int v4, .int x8, .int x6]) dX8_inEachFewest_74 rfl rfl (by rw [ex8]; rfl) rfl (Or.inr (Or.inr ⟨_, rfl, rfl⟩)) ?_
      refine X_goto 22 dX8_inEachFewest_77 rfl ?_
      refine X_weak (ls' := [.ref 85, junk, .int v2, .int v3, .int v4, .int x8, junk]) (WK.s (WK.s (WK.s (WK.s (WK.s (WK.s (WK.j WK.n))))))) (Nat.le_of_ble_eq_true rfl) ?_
      exact hK22 v2 v3 v4 x8 M5 hw
    · have hw := hw.2 c7
      refine X_aload_n 44 dX8_inEachFewest_43 rfl rfl ?_
      refine X_iload 46 dX8_inEachFewest_44 rfl rfl ?_
      refine X_iload_n 47 dX8_inEachFewest_46 rfl rfl ?_
      refine Y_cVZ 50 (as := [.int v5, .int v2]) m_X8_37 (s_X8_explains hL  hw) (hL.ob (c := 8) (by decide) rfl) rfl (by decide) (Nat.le_of_ble_eq_true rfl) dX8_inEachFewest_47 rfl rfl (fun x10 M9 bx10 hw => ?_)
      refine X_if_eq 74 53 (y := 0) dX8_inEachFewest_50 rfl rfl (fun c11 => ?_) (fun c11 => ?_)
      · have hw := hw.1 c11
        obtain ⟨x12, ex12⟩ : ∃ x12 : Int32, x12 = v5 + (1 : Int32) := ⟨_, rfl⟩
        have hw := hw x12 ex12
        refine X_iinc 77 (v := x12) (ls' := [.ref 85, junk, .int v2, .int v3, .int v4, .int x12, .int x6]) dX8_inEachFewest_74 rfl rfl (by rw [ex12]; rfl) rfl (Or.inr (Or.inr ⟨_, rfl, rfl⟩)) ?_
        refine X_goto 22 dX8_inEachFewest_77 rfl ?_
        refine X_weak (ls' := [.ref 85, junk, .int v2, .int v3, .int v4, .int x12, junk]) (WK.s (WK.s (WK.s (WK.s (WK.s (WK.s (WK.j WK.n))))))) (Nat.le_of_ble_eq_true rfl) ?_
        exact hK22 v2 v3 v4 x12 M9 hw
      · have hw := hw.2 c11
        refine X_iload 55 dX8_inEachFewest_53 rfl rfl ?_
        refine X_iload_n 56 dX8_inEachFewest_55 rfl rfl ?_
        obtain ⟨x13, ex13⟩ : ∃ x13 : Int32, x13 = (if x6 < v3 then v5 else (v4 &&& v5)) := ⟨_, rfl⟩
        have hw := hw x13 ex13
        have hJ : X (FM (QI L Q)) RX8 cX8_inEachFewest (some .int) 7 "inEachFewest" 2 0 0 (L, M9) 69 [.ref 85, junk, .int v2, .int v3, .int v4, .int v5, .int x6] [.int x13] := by
          refine X_istore 71 (ls' := [.ref 85, junk, .int v2, .int v3, .int x13, .int v5, .int x6]) dX8_inEachFewest_69 rfl (Nat.le_of_ble_eq_true rfl) rfl (Or.inr (Or.inr ⟨_, rfl, rfl⟩)) ?_
          refine X_iload 73 dX8_inEachFewest_71 rfl rfl ?_
          refine X_istore_n 74 (ls' := [.ref 85, junk, .int v2, .int x6, .int x13, .int v5, .int x6]) dX8_inEachFewest_73 rfl rfl (Nat.le_of_ble_eq_true rfl) rfl (Or.inr (Or.inr ⟨_, rfl, rfl⟩)) ?_
          obtain ⟨x14, ex14⟩ : ∃ x14 : Int32, x14 = v5 + (1 : Int32) := ⟨_, rfl⟩
          have hw := hw x14 ex14
          refine X_iinc 77 (v := x14) (ls' := [.ref 85, junk, .int v2, .int x6, .int x13, .int x14, .int x6]) dX8_inEachFewest_74 rfl rfl (by rw [ex14]; rfl) rfl (Or.inr (Or.inr ⟨_, rfl, rfl⟩)) ?_
          refine X_goto 22 dX8_inEachFewest_77 rfl ?_
          refine X_weak (ls' := [.ref 85, junk, .int v2, .int x6, .int x13, .int x14, junk]) (WK.s (WK.s (WK.s (WK.s (WK.s (WK.s (WK.j WK.n))))))) (Nat.le_of_ble_eq_true rfl) ?_
          exact hK22 v2 x6 x13 x14 M9 hw
        refine X_icmp_ge 64 59 dX8_inEachFewest_56 rfl rfl (fun c15 => ?_) (fun c15 => ?_)
        · refine X_iload 66 dX8_inEachFewest_64 rfl rfl ?_
          refine X_iload 68 dX8_inEachFewest_66 rfl rfl ?_
          refine X_iand 69 dX8_inEachFewest_68 rfl ?_
          rw [if_neg c15] at ex13
          rw [ex13] at hJ
          exact hJ
        · refine X_iload 61 dX8_inEachFewest_59 rfl rfl ?_
          refine X_goto 69 dX8_inEachFewest_61 rfl ?_
          rw [if_pos c15] at ex13
          rw [ex13] at hJ
          exact hJ
def w_X8_inEachFewest (L : Lay) (p0 : Int32) (M : Mem) (Q : Int32 → Mem → Prop) : Prop := w_X8_countBad L p0 M (fun x2 M1 => (((x2 < (2 : Int32) → (Q (0 : Int32) M1)) ∧ (¬ x2 < (2 : Int32) → (LP5 (fun K22 v2 v3 v4 v5 M => w_X8_inEachFewest_22 L p0  K22 v2 v3 v4 v5 M Q) x2 (11 : Int32) (0 : Int32) (1 : Int32) M1)))))
set_option maxRecDepth 20000 in
theorem s_X8_inEachFewest {L : Lay} (hL : LY L) {p0 : Int32}  {M : Mem} {Q : Int32 → Mem → Prop} (hw : w_X8_inEachFewest L p0 M Q) : MX yX8_inEachFewest cX8_inEachFewest (some .int) 7 2 0 0 [.ref 85, .int p0] (L, M) (QI L Q) := by
  unfold w_X8_inEachFewest at hw
  refine MX_of (by decide) [.ref 85, .int p0, junk, junk, junk, junk, junk] (by rfl) (by exact Nat.le_of_ble_eq_true rfl) ?_
  show X (FM (QI L Q)) RX8 cX8_inEachFewest (some .int) 7 "inEachFewest" 2 0 0 (L, M) 0 [.ref 85, .int p0, junk, junk, junk, junk, junk] []
  refine X_aload_n 1 dX8_inEachFewest_0 rfl rfl ?_
  refine X_iload_n 2 dX8_inEachFewest_1 rfl rfl ?_
  refine Y_cVI 5 (as := [.int p0]) m_X8_28 (s_X8_countBad hL  hw) (hL.ob (c := 8) (by decide) rfl) rfl (by decide) (Nat.le_of_ble_eq_true rfl) dX8_inEachFewest_2 rfl rfl (fun x2 M1 hw => ?_)
  refine X_istore_n 6 (ls' := [.ref 85, .int p0, .int x2, junk, junk, junk, junk]) dX8_inEachFewest_5 rfl rfl (Nat.le_of_ble_eq_true rfl) rfl (Or.inr (Or.inr ⟨_, rfl, rfl⟩)) ?_
  refine X_iload_n 7 dX8_inEachFewest_6 rfl rfl ?_
  refine X_iconst 8 (v := 2) dX8_inEachFewest_7 rfl rfl ?_
  refine X_icmp_ge 13 11 dX8_inEachFewest_8 rfl rfl (fun c3 => ?_) (fun c3 => ?_)
  · have hw := hw.2 c3
    refine X_bipush 15 (v := 11) dX8_inEachFewest_13 rfl rfl ?_
    refine X_istore_n 16 (ls' := [.ref 85, .int p0, .int x2, .int (11 : Int32), junk, junk, junk]) dX8_inEachFewest_15 rfl rfl (Nat.le_of_ble_eq_true rfl) rfl (Or.inr (Or.inr ⟨_, rfl, rfl⟩)) ?_
    refine X_iconst 17 (v := 0) dX8_inEachFewest_16 rfl rfl ?_
    refine X_istore 19 (ls' := [.ref 85, .int p0, .int x2, .int (11 : Int32), .int (0 : Int32), junk, junk]) dX8_inEachFewest_17 rfl (Nat.le_of_ble_eq_true rfl) rfl (Or.inr (Or.inr ⟨_, rfl, rfl⟩)) ?_
    refine X_iconst 20 (v := 1) dX8_inEachFewest_19 rfl rfl ?_
    refine X_istore 22 (ls' := [.ref 85, .int p0, .int x2, .int (11 : Int32), .int (0 : Int32), .int (1 : Int32), junk]) dX8_inEachFewest_20 rfl (Nat.le_of_ble_eq_true rfl) rfl (Or.inr (Or.inr ⟨_, rfl, rfl⟩)) ?_
    refine X_weak (ls' := [.ref 85, junk, .int x2, .int (11 : Int32), .int (0 : Int32), .int (1 : Int32), junk]) (WK.s (WK.j (WK.s (WK.s (WK.s (WK.s (WK.s WK.n))))))) (Nat.le_of_ble_eq_true rfl) ?_
    exact LP5_s hw (G := fun v2 v3 v4 v5 M => X (FM (QI L Q)) RX8 cX8_inEachFewest (some .int) 7 "inEachFewest" 2 0 0 (L, M) 22 [.ref 85, junk, .int v2, .int v3, .int v4, .int v5, junk] []) (fun K22 v2 v3 v4 v5 M hb hK => t_X8_inEachFewest_22 hL  hb  hK)
  · have hw := hw.1 c3
    refine X_iconst 12 (v := 0) dX8_inEachFewest_11 rfl rfl ?_
    exact X_ret rfl rfl dX8_inEachFewest_12 ⟨_, _, rfl, rfl, hw⟩
def w_X3_copyFrom (L : Lay) (ow : Nat) (ow2 : Nat) (M : Mem) (Q : Mem → Prop) : Prop := ∀ M1 : Mem, M1 = si M ow 0 (mi M ow2 0) → (∀ M2 : Mem, M2 = si M1 ow 1 (mi M1 ow2 1) → (∀ M3 : Mem, M3 = si M2 ow 2 (mi M2 ow2 2) → (∀ M4 : Mem, M4 = si M3 ow 3 (mi M3 ow2 3) → (∀ M5 : Mem, M5 = si M4 ow 4 (mi M4 ow2 4) → (BZ (mi M5 ow2 5) ∧ (∀ M7 : Mem, M7 = si M5 ow 5 (mi M5 ow2 5) → (∀ M8 : Mem, M8 = si M7 ow 6 (mi M7 ow2 6) → (∀ M9 : Mem, M9 = si M8 ow 7 (mi M8 ow2 7) → (∀ M10 : Mem, M10 = si M9 ow 8 (mi M9 ow2 8) → (∀ M11 : Mem, M11 = si M10 ow 9 (mi M10 ow2 9) → (∀ M12 : Mem, M12 = si M11 ow 10 (mi M11 ow2 10) → (∀ M13 : Mem, M13 = si M12 ow 11 (mi M12 ow2 11) → (Q M13)))))))))))))
set_option maxRecDepth 20000 in
theorem s_X3_copyFrom {L : Lay} (hL : LY L) {ow : Nat} {ow2 : Nat} (hhow : OB L ow 3) (hhow2 : OB L ow2 3) {M : Mem} {Q : Mem → Prop} (hw : w_X3_copyFrom L ow ow2 M Q) : MX yX3_copyFrom cX3_copyFrom none 2 1 0 0 [.ref ow, .ref ow2] (L, M) (QV L Q) := by
  unfold w_X3_copyFrom at hw
  refine MX_of (by decide) [.ref ow, .ref ow2] (by rfl) (by exact Nat.le_of_ble_eq_true rfl) ?_
  show X (FM (QV L Q)) RX3 cX3_copyFrom none 2 "copyFrom" 1 0 0 (L, M) 0 [.ref ow, .ref ow2] []
  refine X_aload_n 1 dX3_copyFrom_0 rfl rfl ?_
  refine X_aload_n 2 dX3_copyFrom_1 rfl rfl ?_
  refine X_getI 5 f_X3_7 hhow2 rfl dX3_copyFrom_2 rfl ?_
  refine X_putI 8 f_X3_7 (Or.inl rfl) hhow rfl dX3_copyFrom_5 rfl ?_
  refine X_nmM (fun M1 eM1 => ?_)
  have hw := hw M1 eM1
  refine X_aload_n 9 dX3_copyFrom_8 rfl rfl ?_
  refine X_aload_n 10 dX3_copyFrom_9 rfl rfl ?_
  refine X_getI 13 f_X3_13 hhow2 rfl dX3_copyFrom_10 rfl ?_
  refine X_putI 16 f_X3_13 (Or.inl rfl) hhow rfl dX3_copyFrom_13 rfl ?_
  refine X_nmM (fun M2 eM2 => ?_)
  have hw := hw M2 eM2
  refine X_aload_n 17 dX3_copyFrom_16 rfl rfl ?_
  refine X_aload_n 18 dX3_copyFrom_17 rfl rfl ?_
  refine X_getI 21 f_X3_16 hhow2 rfl dX3_copyFrom_18 rfl ?_
  refine X_putI 24 f_X3_16 (Or.inl rfl) hhow rfl dX3_copyFrom_21 rfl ?_
  refine X_nmM (fun M3 eM3 => ?_)
  have hw := hw M3 eM3
  refine X_aload_n 25 dX3_copyFrom_24 rfl rfl ?_
  refine X_aload_n 26 dX3_copyFrom_25 rfl rfl ?_
  refine X_getI 29 f_X3_19 hhow2 rfl dX3_copyFrom_26 rfl ?_
  refine X_putI 32 f_X3_19 (Or.inl rfl) hhow rfl dX3_copyFrom_29 rfl ?_
  refine X_nmM (fun M4 eM4 => ?_)
  have hw := hw M4 eM4
  refine X_aload_n 33 dX3_copyFrom_32 rfl rfl ?_
  refine X_aload_n 34 dX3_copyFrom_33 rfl rfl ?_
  refine X_getI 37 f_X3_22 hhow2 rfl dX3_copyFrom_34 rfl ?_
  refine X_putI 40 f_X3_22 (Or.inl rfl) hhow rfl dX3_copyFrom_37 rfl ?_
  refine X_nmM (fun M5 eM5 => ?_)
  have hw := hw M5 eM5
  refine X_aload_n 41 dX3_copyFrom_40 rfl rfl ?_
  refine X_aload_n 42 dX3_copyFrom_41 rfl rfl ?_
  refine X_getI 45 f_X3_25 hhow2 rfl dX3_copyFrom_42 rfl ?_
  obtain ⟨c6, hw⟩ := hw
  refine X_putZ 48 f_X3_25 (c6) (Or.inl rfl) hhow rfl dX3_copyFrom_45 rfl ?_
  refine X_nmM (fun M7 eM7 => ?_)
  have hw := hw M7 eM7
  refine X_aload_n 49 dX3_copyFrom_48 rfl rfl ?_
  refine X_aload_n 50 dX3_copyFrom_49 rfl rfl ?_
  refine X_getI 53 f_X3_29 hhow2 rfl dX3_copyFrom_50 rfl ?_
  refine X_putI 56 f_X3_29 (Or.inl rfl) hhow rfl dX3_copyFrom_53 rfl ?_
  refine X_nmM (fun M8 eM8 => ?_)
  have hw := hw M8 eM8
  refine X_aload_n 57 dX3_copyFrom_56 rfl rfl ?_
  refine X_aload_n 58 dX3_copyFrom_57 rfl rfl ?_
  refine X_getI 61 f_X3_32 hhow2 rfl dX3_copyFrom_58 rfl ?_
  refine X_putI 64 f_X3_32 (Or.inl rfl) hhow rfl dX3_copyFrom_61 rfl ?_
  refine X_nmM (fun M9 eM9 => ?_)
  have hw := hw M9 eM9
  refine X_aload_n 65 dX3_copyFrom_64 rfl rfl ?_
  refine X_aload_n 66 dX3_copyFrom_65 rfl rfl ?_
  refine X_getI 69 f_X3_35 hhow2 rfl dX3_copyFrom_66 rfl ?_
  refine X_putI 72 f_X3_35 (Or.inl rfl) hhow rfl dX3_copyFrom_69 rfl ?_
  refine X_nmM (fun M10 eM10 => ?_)
  have hw := hw M10 eM10
  refine X_aload_n 73 dX3_copyFrom_72 rfl rfl ?_
  refine X_aload_n 74 dX3_copyFrom_73 rfl rfl ?_
  refine X_getI 77 f_X3_38 hhow2 rfl dX3_copyFrom_74 rfl ?_
  refine X_putI 80 f_X3_38 (Or.inl rfl) hhow rfl dX3_copyFrom_77 rfl ?_
  refine X_nmM (fun M11 eM11 => ?_)
  have hw := hw M11 eM11
  refine X_aload_n 81 dX3_copyFrom_80 rfl rfl ?_
  refine X_aload_n 82 dX3_copyFrom_81 rfl rfl ?_
  refine X_getI 85 f_X3_41 hhow2 rfl dX3_copyFrom_82 rfl ?_
  refine X_putI 88 f_X3_41 (Or.inl rfl) hhow rfl dX3_copyFrom_85 rfl ?_
  refine X_nmM (fun M12 eM12 => ?_)
  have hw := hw M12 eM12
  refine X_aload_n 89 dX3_copyFrom_88 rfl rfl ?_
  refine X_aload_n 90 dX3_copyFrom_89 rfl rfl ?_
  refine X_getI 93 f_X3_44 hhow2 rfl dX3_copyFrom_90 rfl ?_
  refine X_putI 96 f_X3_44 (Or.inl rfl) hhow rfl dX3_copyFrom_93 rfl ?_
  refine X_nmM (fun M13 eM13 => ?_)
  have hw := hw M13 eM13
  exact X_retV rfl dX3_copyFrom_96 ⟨_, rfl, rfl, hw⟩
def w_X9_copyFrom (L : Lay) (sh : Nat) (sh2 : Nat) (M : Mem) (Q : Mem → Prop) : Prop := ∀ M1 : Mem, M1 = si M sh 0 (mi M sh2 0) → (∀ M2 : Mem, M2 = si M1 sh 1 (mi M1 sh2 1) → (∀ M3 : Mem, M3 = si M2 sh 2 (mi M2 sh2 2) → (∀ M4 : Mem, M4 = si M3 sh 3 (mi M3 sh2 3) → (∀ M5 : Mem, M5 = si M4 sh 4 (mi M4 sh2 4) → (∀ M6 : Mem, M6 = si M5 sh 5 (mi M5 sh2 5) → ((¬ (0 : Int32) < 0 ∧ ¬ (0 : Int32) < 0 ∧ ¬ (nI 12) < 0 ∧ tn (0 : Int32) + tn (nI 12) ≤ 12 ∧ tn (0 : Int32) + tn (nI 12) ≤ 12) ∧ (∀ M8 : Mem, M8 = cpy M6 (sh2 + 1) (sh + 1) (tn (0 : Int32)) (tn (0 : Int32)) (tn (nI 12)) → (Q M8))))))))
set_option maxRecDepth 20000 in
theorem s_X9_copyFrom {L : Lay} (hL : LY L) {sh : Nat} {sh2 : Nat} (hhsh : IsS L sh) (hhsh2 : IsS L sh2) {M : Mem} {Q : Mem → Prop} (hw : w_X9_copyFrom L sh sh2 M Q) : MX yX9_copyFrom cX9_copyFrom none 2 3 0 0 [.ref sh, .ref sh2] (L, M) (QV L Q) := by
  unfold w_X9_copyFrom at hw
  refine MX_of (by decide) [.ref sh, .ref sh2] (by rfl) (by exact Nat.le_of_ble_eq_true rfl) ?_
  show X (FM (QV L Q)) RX9 cX9_copyFrom none 2 "copyFrom" 3 0 0 (L, M) 0 [.ref sh, .ref sh2] []
  refine X_aload_n 1 dX9_copyFrom_0 rfl rfl ?_
  refine X_aload_n 2 dX9_copyFrom_1 rfl rfl ?_
  refine X_getI 5 f_X9_15 hhsh2.1 rfl dX9_copyFrom_2 rfl ?_
  refine X_putI 8 f_X9_15 (Or.inl rfl) hhsh.1 rfl dX9_copyFrom_5 rfl ?_
  refine X_nmM (fun M1 eM1 => ?_)
  have hw := hw M1 eM1
  refine X_aload_n 9 dX9_copyFrom_8 rfl rfl ?_
  refine X_aload_n 10 dX9_copyFrom_9 rfl rfl ?_
  refine X_getI 13 f_X9_35 hhsh2.1 rfl dX9_copyFrom_10 rfl ?_
  refine X_putI 16 f_X9_35 (Or.inl rfl) hhsh.1 rfl dX9_copyFrom_13 rfl ?_
  refine X_nmM (fun M2 eM2 => ?_)
  have hw := hw M2 eM2
  refine X_aload_n 17 dX9_copyFrom_16 rfl rfl ?_
  refine X_aload_n 18 dX9_copyFrom_17 rfl rfl ?_
  refine X_getI 21 f_X9_29 hhsh2.1 rfl dX9_copyFrom_18 rfl ?_
  refine X_putI 24 f_X9_29 (Or.inl rfl) hhsh.1 rfl dX9_copyFrom_21 rfl ?_
  refine X_nmM (fun M3 eM3 => ?_)
  have hw := hw M3 eM3
  refine X_aload_n 25 dX9_copyFrom_24 rfl rfl ?_
  refine X_aload_n 26 dX9_copyFrom_25 rfl rfl ?_
  refine X_getI 29 f_X9_32 hhsh2.1 rfl dX9_copyFrom_26 rfl ?_
  refine X_putI 32 f_X9_32 (Or.inl rfl) hhsh.1 rfl dX9_copyFrom_29 rfl ?_
  refine X_nmM (fun M4 eM4 => ?_)
  have hw := hw M4 eM4
  refine X_aload_n 33 dX9_copyFrom_32 rfl rfl ?_
  refine X_aload_n 34 dX9_copyFrom_33 rfl rfl ?_
  refine X_getI 37 f_X9_26 hhsh2.1 rfl dX9_copyFrom_34 rfl ?_
  refine X_putI 40 f_X9_26 (Or.inl rfl) hhsh.1 rfl dX9_copyFrom_37 rfl ?_
  refine X_nmM (fun M5 eM5 => ?_)
  have hw := hw M5 eM5
  refine X_aload_n 41 dX9_copyFrom_40 rfl rfl ?_
  refine X_aload_n 42 dX9_copyFrom_41 rfl rfl ?_
  refine X_getI 45 f_X9_19 hhsh2.1 rfl dX9_copyFrom_42 rfl ?_
  refine X_putI 48 f_X9_19 (Or.inl rfl) hhsh.1 rfl dX9_copyFrom_45 rfl ?_
  refine X_nmM (fun M6 eM6 => ?_)
  have hw := hw M6 eM6
  refine X_aload_n 49 dX9_copyFrom_48 rfl rfl ?_
  refine X_getR 52 f_X9_9 hhsh2.1 rfl hhsh2.2.1 dX9_copyFrom_49 rfl ?_
  refine X_iconst 53 (v := 0) dX9_copyFrom_52 rfl rfl ?_
  refine X_aload_n 54 dX9_copyFrom_53 rfl rfl ?_
  refine X_getR 57 f_X9_9 hhsh.1 rfl hhsh.2.1 dX9_copyFrom_54 rfl ?_
  refine X_iconst 58 (v := 0) dX9_copyFrom_57 rfl rfl ?_
  refine X_aload_n 59 dX9_copyFrom_58 rfl rfl ?_
  refine X_getR 62 f_X9_9 hhsh.1 rfl hhsh.2.1 dX9_copyFrom_59 rfl ?_
  refine X_alen 63 (t := 0) (by decide) hhsh.2.2 dX9_copyFrom_62 rfl ?_
  obtain ⟨c7, hw⟩ := hw
  refine X_acopy 66 w_X9_38 hhsh2.2.2 hhsh.2.2 c7 (by decide) (Nat.le_of_ble_eq_true rfl) dX9_copyFrom_63 rfl ?_
  refine X_nmM (fun M8 eM8 => ?_)
  have hw := hw M8 eM8
  exact X_retV rfl dX9_copyFrom_66 ⟨_, rfl, rfl, hw⟩
def w_X0_copyFrom (L : Lay) (ci : Nat) (ci2 : Nat) (M : Mem) (Q : Mem → Prop) : Prop := ∀ M1 : Mem, M1 = si M ci 0 (mi M ci2 0) → (∀ M2 : Mem, M2 = si M1 ci 1 (mi M1 ci2 1) → (∀ M3 : Mem, M3 = si M2 ci 2 (mi M2 ci2 2) → (∀ M4 : Mem, M4 = si M3 ci 3 (mi M3 ci2 3) → (∀ M5 : Mem, M5 = si M4 ci 4 (mi M4 ci2 4) → (Q M5)))))
set_option maxRecDepth 20000 in
theorem s_X0_copyFrom {L : Lay} (hL : LY L) {ci : Nat} {ci2 : Nat} (hhci : OB L ci 0) (hhci2 : OB L ci2 0) {M : Mem} {Q : Mem → Prop} (hw : w_X0_copyFrom L ci ci2 M Q) : MX yX0_copyFrom cX0_copyFrom none 2 1 0 0 [.ref ci, .ref ci2] (L, M) (QV L Q) := by
  unfold w_X0_copyFrom at hw
  refine MX_of (by decide) [.ref ci, .ref ci2] (by rfl) (by exact Nat.le_of_ble_eq_true rfl) ?_
  show X (FM (QV L Q)) RX0 cX0_copyFrom none 2 "copyFrom" 1 0 0 (L, M) 0 [.ref ci, .ref ci2] []
  refine X_aload_n 1 dX0_copyFrom_0 rfl rfl ?_
  refine X_aload_n 2 dX0_copyFrom_1 rfl rfl ?_
  refine X_getI 5 f_X0_18 hhci2 rfl dX0_copyFrom_2 rfl ?_
  refine X_putI 8 f_X0_18 (Or.inl rfl) hhci rfl dX0_copyFrom_5 rfl ?_
  refine X_nmM (fun M1 eM1 => ?_)
  have hw := hw M1 eM1
  refine X_aload_n 9 dX0_copyFrom_8 rfl rfl ?_
  refine X_aload_n 10 dX0_copyFrom_9 rfl rfl ?_
  refine X_getI 13 f_X0_9 hhci2 rfl dX0_copyFrom_10 rfl ?_
  refine X_putI 16 f_X0_9 (Or.inl rfl) hhci rfl dX0_copyFrom_13 rfl ?_
  refine X_nmM (fun M2 eM2 => ?_)
  have hw := hw M2 eM2
  refine X_aload_n 17 dX0_copyFrom_16 rfl rfl ?_
  refine X_aload_n 18 dX0_copyFrom_17 rfl rfl ?_
  refine X_getI 21 f_X0_15 hhci2 rfl dX0_copyFrom_18 rfl ?_
  refine X_putI 24 f_X0_15 (Or.inl rfl) hhci rfl dX0_copyFrom_21 rfl ?_
  refine X_nmM (fun M3 eM3 => ?_)
  have hw := hw M3 eM3
  refine X_aload_n 25 dX0_copyFrom_24 rfl rfl ?_
  refine X_aload_n 26 dX0_copyFrom_25 rfl rfl ?_
  refine X_getI 29 f_X0_35 hhci2 rfl dX0_copyFrom_26 rfl ?_
  refine X_putI 32 f_X0_35 (Or.inl rfl) hhci rfl dX0_copyFrom_29 rfl ?_
  refine X_nmM (fun M4 eM4 => ?_)
  have hw := hw M4 eM4
  refine X_aload_n 33 dX0_copyFrom_32 rfl rfl ?_
  refine X_aload_n 34 dX0_copyFrom_33 rfl rfl ?_
  refine X_getI 37 f_X0_31 hhci2 rfl dX0_copyFrom_34 rfl ?_
  refine X_putI 40 f_X0_31 (Or.inl rfl) hhci rfl dX0_copyFrom_37 rfl ?_
  refine X_nmM (fun M5 eM5 => ?_)
  have hw := hw M5 eM5
  exact X_retV rfl dX0_copyFrom_40 ⟨_, rfl, rfl, hw⟩
def w_X0_wasHungry (L : Lay) (ci : Nat) (M : Mem) (Q : Int32 → Mem → Prop) : Prop := ∀ x1 : Int32, x1 = (if ((mi M ci 4) &&& (1 : Int32)) = (1 : Int32) then (1 : Int32) else (0 : Int32)) → (Q x1 M)
set_option maxRecDepth 20000 in
theorem s_X0_wasHungry {L : Lay} (hL : LY L) {ci : Nat} (hhci : OB L ci 0) {M : Mem} {Q : Int32 → Mem → Prop} (hw : w_X0_wasHungry L ci M Q) : MX yX0_wasHungry cX0_wasHungry (some .boolean) 1 1 0 0 [.ref ci] (L, M) (QZ L Q) := by
  unfold w_X0_wasHungry at hw
  refine MX_of (by decide) [.ref ci] (by rfl) (by exact Nat.le_of_ble_eq_true rfl) ?_
  show X (FM (QZ L Q)) RX0 cX0_wasHungry (some .boolean) 1 "wasHungry" 1 0 0 (L, M) 0 [.ref ci] []
  refine X_aload_n 1 dX0_wasHungry_0 rfl rfl ?_
  refine X_getI 4 f_X0_31 hhci rfl dX0_wasHungry_1 rfl ?_
  refine X_iconst 5 (v := 1) dX0_wasHungry_4 rfl rfl ?_
  refine X_iand 6 dX0_wasHungry_5 rfl ?_
  refine X_iconst 7 (v := 1) dX0_wasHungry_6 rfl rfl ?_
  obtain ⟨x1, ex1⟩ : ∃ x1 : Int32, x1 = (if ((mi M ci 4) &&& (1 : Int32)) = (1 : Int32) then (1 : Int32) else (0 : Int32)) := ⟨_, rfl⟩
  have hw := hw x1 ex1
  have bx1 : BZ x1 := by rw [ex1]; (repeat' split) <;> first | exact Or.inl rfl | exact Or.inr rfl
  have hJ : X (FM (QZ L Q)) RX0 cX0_wasHungry (some .boolean) 1 "wasHungry" 1 0 0 (L, M) 15 [.ref ci] [.int x1] := by
    exact X_ret rfl (nar_bool (bx1)) dX0_wasHungry_15 ⟨_, _, rfl, bx1, rfl, hw⟩
  refine X_icmp_ne 14 10 dX0_wasHungry_7 rfl rfl (fun c2 => ?_) (fun c2 => ?_)
  · refine X_iconst 15 (v := 0) dX0_wasHungry_14 rfl rfl ?_
    rw [if_neg c2] at ex1
    rw [ex1] at hJ
    exact hJ
  · refine X_iconst 11 (v := 1) dX0_wasHungry_10 rfl rfl ?_
    refine X_goto 15 dX0_wasHungry_11 rfl ?_
    rw [if_pos c2] at ex1
    rw [ex1] at hJ
    exact hJ
