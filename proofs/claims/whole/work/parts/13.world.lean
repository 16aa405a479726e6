-- printed walks (by program: wip/whole/gen.py)
def w_X10_init_112 (th : Nat) (K112 : Int32 → Lay → Nat → Nat → Mem → Prop) (v1 : Int32) (L : Lay) (rc rs : Nat) (M : Mem) (Q : Lay → Mem → Prop) : Prop := ((v1 < (8 : Int32) → (∃ a58 : Nat, lr L th 3 = some a58 ∧ AR L a58 6 8 ∧ (1 ≤ rc ∧ (7 ≤ rs ∧ (∀ (L61 : Lay) (M62 : Mem), (L61, M62) = alc (L, M) (9, 0) → (∃ n64 n65 : Nat, n64 ≤ (rc - 1) ∧ n65 ≤ (rs - 7) ∧ w_X9_init (L.1) L61 n64 n65 M62 (fun L66 M67 => (LG L61 L66 ∧ (vp_in v1 8 ∧ (∀ L69 : Lay, L69 = sr L66 a58 (tn v1) (some (L.1)) → (∀ x70 : Int32, x70 = v1 + (1 : Int32) → (K112 x70 L69 ((rc - 1) - n64) ((rs - 7) - n65) M67)))))))))))) ∧ (¬ v1 < (8 : Int32) → (Q L M)))
set_option maxRecDepth 20000 in
theorem t_X10_init_112 {L0 L : Lay} {th : Nat} {K112 : Int32 → Lay → Nat → Nat → Mem → Prop} {v1 : Int32} {rc rs : Nat} {M : Mem} {Q : Lay → Mem → Prop} (hhth : OB L th 10)  (hw : w_X10_init_112 th K112 v1 L rc rs M Q) (hK112 : ∀ (v1 : Int32) (L : Lay) (rc rs : Nat) (M : Mem), K112 v1 L rc rs M → OB L th 10 →   X (FM (QC L0 Q)) RX10 cX10_init none 2 "<init>" 3 rc rs (L, M) 112 [.ref th, .int v1] []) : X (FM (QC L0 Q)) RX10 cX10_init none 2 "<init>" 3 rc rs (L, M) 112 [.ref th, .int v1] [] := by
  unfold w_X10_init_112 at hw
  refine X_iload_n 113 dX10_init_112 rfl rfl ?_
  refine X_bipush 115 (v := 8) dX10_init_113 rfl rfl ?_
  refine X_icmp_ge 137 118 dX10_init_115 rfl rfl (fun c57 => ?_) (fun c57 => ?_)
  · have hw := hw.2 c57
    exact X_retV rfl dX10_init_137 ⟨_, _, rfl, rfl, hw⟩
  · have hw := hw.1 c57
    refine X_aload_n 119 dX10_init_118 rfl rfl ?_
    obtain ⟨a58, ea58, ha58, hw⟩ := hw
    refine X_getR 122 f_X10_19 hhth rfl ea58 dX10_init_119 rfl ?_
    refine X_iload_n 123 dX10_init_122 rfl rfl ?_
    obtain ⟨c59, hw⟩ := hw
    obtain ⟨c60, hw⟩ := hw
    refine X_new 126 cb9 n_X10_17 c59 c60 dX10_init_123 rfl ?_
    refine X_nmH (fun L61 M62 e63 => ?_)
    have hw := hw L61 M62 e63
    have obL61 := OB.of_alc e63
    have leL61 := LE.of_alc e63
    have hhth := leL61.ob hhth
    have ha58 := leL61.ar ha58
    refine X_dup 127 dX10_init_126 rfl rfl ?_
    obtain ⟨n64, n65, hn64, hn65, hw⟩ := hw
    refine Y_kI 130 (as := []) m_X10_61 (s_X9_init obL61 hw) rfl (by decide) hn64 hn65 (Nat.le_of_ble_eq_true rfl) dX10_init_127 rfl rfl (fun L66 M67 hw => ?_)
    obtain ⟨leL66, hw⟩ := hw
    have hhth := leL66.ob hhth
    have obL61 := leL66.ob obL61
    have ha58 := leL66.ar ha58
    obtain ⟨c68, hw⟩ := hw
    refine X_aastF 131 (t := 6) (by decide) (by decide) ha58 c68 obL61 (by decide) ⟨TX9, 7, rfl⟩ dX10_init_130 rfl ?_
    refine X_nmLy (fun L69 eL69 => ?_)
    have hw := hw L69 eL69
    have hhth := (SRE.mk eL69).ob hhth
    obtain ⟨x70, ex70⟩ : ∃ x70 : Int32, x70 = v1 + (1 : Int32) := ⟨_, rfl⟩
    have hw := hw x70 ex70
    refine X_iinc 134 (v := x70) (ls' := [.ref th, .int x70]) dX10_init_131 rfl rfl (by rw [ex70]; rfl) rfl (Or.inr (Or.inr ⟨_, rfl, rfl⟩)) ?_
    refine X_goto 112 dX10_init_134 rfl ?_
    exact hK112 x70 L69 ((rc - 1) - n64) ((rs - 7) - n65) M67 hw hhth 
def w_X10_init_85 (th : Nat) (K85 : Int32 → Lay → Nat → Nat → Mem → Prop) (v1 : Int32) (L : Lay) (rc rs : Nat) (M : Mem) (Q : Lay → Mem → Prop) : Prop := ((v1 < (10 : Int32) → (∃ a47 : Nat, lr L th 1 = some a47 ∧ AR L a47 5 10 ∧ (1 ≤ rc ∧ (14 ≤ rs ∧ (∀ (L50 : Lay) (M51 : Mem), (L50, M51) = alc (L, M) (3, 0) → (w_X3_init L50 (L.1) M51 (fun M53 => (vp_in v1 10 ∧ (∀ L55 : Lay, L55 = sr L50 a47 (tn v1) (some (L.1)) → (∀ x56 : Int32, x56 = v1 + (1 : Int32) → (K85 x56 L55 (rc - 1) (rs - 14) M53))))))))))) ∧ (¬ v1 < (10 : Int32) → (LP5 (fun K112 v1 L rc rs M => w_X10_init_112 th  K112 v1 L rc rs M Q) (0 : Int32) L rc rs M)))
set_option maxRecDepth 20000 in
theorem t_X10_init_85 {L0 L : Lay} {th : Nat} {K85 : Int32 → Lay → Nat → Nat → Mem → Prop} {v1 : Int32} {rc rs : Nat} {M : Mem} {Q : Lay → Mem → Prop} (hhth : OB L th 10)  (hw : w_X10_init_85 th K85 v1 L rc rs M Q) (hK85 : ∀ (v1 : Int32) (L : Lay) (rc rs : Nat) (M : Mem), K85 v1 L rc rs M → OB L th 10 →   X (FM (QC L0 Q)) RX10 cX10_init none 2 "<init>" 3 rc rs (L, M) 85 [.ref th, .int v1] []) : X (FM (QC L0 Q)) RX10 cX10_init none 2 "<init>" 3 rc rs (L, M) 85 [.ref th, .int v1] [] := by
  unfold w_X10_init_85 at hw
  refine X_iload_n 86 dX10_init_85 rfl rfl ?_
  refine X_bipush 88 (v := 10) dX10_init_86 rfl rfl ?_
  refine X_icmp_ge 110 91 dX10_init_88 rfl rfl (fun c46 => ?_) (fun c46 => ?_)
  · have hw := hw.2 c46
    refine X_iconst 111 (v := 0) dX10_init_110 rfl rfl ?_
    refine X_istore_n 112 (ls' := [.ref th, .int (0 : Int32)]) dX10_init_111 rfl rfl (Nat.le_of_ble_eq_true rfl) rfl (Or.inr (Or.inr ⟨_, rfl, rfl⟩)) ?_
    exact LP5_s hw (G := fun v1 L rc rs M => OB L th 10 →   X (FM (QC L0 Q)) RX10 cX10_init none 2 "<init>" 3 rc rs (L, M) 112 [.ref th, .int v1] []) (fun K112 v1 L rc rs M hb hK hhth  => t_X10_init_112 hhth  hb  hK) hhth 
  · have hw := hw.1 c46
    refine X_aload_n 92 dX10_init_91 rfl rfl ?_
    obtain ⟨a47, ea47, ha47, hw⟩ := hw
    refine X_getR 95 f_X10_11 hhth rfl ea47 dX10_init_92 rfl ?_
    refine X_iload_n 96 dX10_init_95 rfl rfl ?_
    obtain ⟨c48, hw⟩ := hw
    obtain ⟨c49, hw⟩ := hw
    refine X_new 99 cb3 n_X10_9 c48 c49 dX10_init_96 rfl ?_
    refine X_nmH (fun L50 M51 e52 => ?_)
    have hw := hw L50 M51 e52
    have obL50 := OB.of_alc e52
    have leL50 := LE.of_alc e52
    have hhth := leL50.ob hhth
    have ha47 := leL50.ar ha47
    refine X_dup 100 dX10_init_99 rfl rfl ?_
    refine Y_cIV 103 (as := []) m_X10_60 (s_X3_init obL50 hw) rfl (by decide) (Nat.le_of_ble_eq_true rfl) dX10_init_100 rfl rfl (fun M53 hw => ?_)
    obtain ⟨c54, hw⟩ := hw
    refine X_aastF 104 (t := 5) (by decide) (by decide) ha47 c54 obL50 (by decide) ⟨TX3, 14, rfl⟩ dX10_init_103 rfl ?_
    refine X_nmLy (fun L55 eL55 => ?_)
    have hw := hw L55 eL55
    have hhth := (SRE.mk eL55).ob hhth
    obtain ⟨x56, ex56⟩ : ∃ x56 : Int32, x56 = v1 + (1 : Int32) := ⟨_, rfl⟩
    have hw := hw x56 ex56
    refine X_iinc 107 (v := x56) (ls' := [.ref th, .int x56]) dX10_init_104 rfl rfl (by rw [ex56]; rfl) rfl (Or.inr (Or.inr ⟨_, rfl, rfl⟩)) ?_
    refine X_goto 85 dX10_init_107 rfl ?_
    exact hK85 x56 L55 (rc - 1) (rs - 14) M53 hw hhth 
def w_X10_init (th : Nat) (L : Lay) (rc rs : Nat) (M : Mem) (Q : Lay → Mem → Prop) : Prop := 1 ≤ rc ∧ (10 ≤ rs ∧ (∀ (L3 : Lay) (M4 : Mem), (L3, M4) = alc (L, M) (25, 10) → (∀ L6 : Lay, L6 = sr L3 th 1 (some (L.1)) → (1 ≤ (rc - 1) ∧ (8 ≤ (rs - 10) ∧ (∀ (L9 : Lay) (M10 : Mem), (L9, M10) = alc (L6, M4) (26, 8) → (∀ L12 : Lay, L12 = sr L9 th 3 (some (L6.1)) → (∀ M13 : Mem, M13 = si M10 th 5 (2 : Int32) → (1 ≤ ((rc - 1) - 1) ∧ (5 ≤ ((rs - 10) - 8) ∧ (∀ (L16 : Lay) (M17 : Mem), (L16, M17) = alc (L12, M13) (0, 0) → (w_X0_init L16 (L12.1) M17 (fun M19 => (∀ L20 : Lay, L20 = sr L16 th 8 (some (L12.1)) → (1 ≤ (((rc - 1) - 1) - 1) ∧ (2 ≤ (((rs - 10) - 8) - 5) ∧ (∀ (L23 : Lay) (M24 : Mem), (L23, M24) = alc (L20, M19) (1, 0) → (w_X1_init L23 (L20.1) (0 : Int32) (0 : Int32) M24 (fun M26 => (∀ M27 : Mem, M27 = sq M26 th 9 (some (L20.1)) → (∀ M28 : Mem, M28 = sq M27 th 10 (mp M27 th 9) → (∀ M29 : Mem, M29 = si M28 th 14 (-1 : Int32) → (1 ≤ ((((rc - 1) - 1) - 1) - 1) ∧ (2 ≤ ((((rs - 10) - 8) - 5) - 2) ∧ (∀ (L32 : Lay) (M33 : Mem), (L32, M33) = alc (L23, M29) (6, 0) → (∃ n35 n36 : Nat, n35 ≤ (((((rc - 1) - 1) - 1) - 1) - 1) ∧ n36 ≤ (((((rs - 10) - 8) - 5) - 2) - 2) ∧ w_X6_init (L23.1) L32 n35 n36 M33 (fun L37 M38 => (LG L32 L37 ∧ (∀ L39 : Lay, L39 = sr L37 th 15 (some (L23.1)) → (1 ≤ ((((((rc - 1) - 1) - 1) - 1) - 1) - n35) ∧ (8 ≤ ((((((rs - 10) - 8) - 5) - 2) - 2) - n36) ∧ (∀ (L42 : Lay) (M43 : Mem), (L42, M43) = alc (L39, M38) (20, 8) → (∀ L45 : Lay, L45 = sr L42 th 16 (some (L39.1)) → (LP5 (fun K85 v1 L rc rs M => w_X10_init_85 th  K85 v1 L rc rs M Q) (0 : Int32) L45 (((((((rc - 1) - 1) - 1) - 1) - 1) - n35) - 1) (((((((rs - 10) - 8) - 5) - 2) - 2) - n36) - 8) M43))))))))))))))))))))))))))))))))))
set_option maxRecDepth 20000 in
theorem s_X10_init {L : Lay} {th : Nat} {rc rs : Nat} {M : Mem} {Q : Lay → Mem → Prop} (hhth : OB L th 10) (hw : w_X10_init th L rc rs M Q) : MX yX10_init cX10_init none 2 3 rc rs [.ref th] (L, M) (QC L Q) := by
  unfold w_X10_init at hw
  obtain ⟨L0, eL0⟩ : ∃ L0, L0 = L := ⟨L, rfl⟩
  rw [show QC L Q = QC L0 Q from by rw [eL0]]
  refine MX_of (by decide) [.ref th, junk] (by rfl) (by exact Nat.le_of_ble_eq_true rfl) ?_
  show X (FM (QC L0 Q)) RX10 cX10_init none 2 "<init>" 3 rc rs (L, M) 0 [.ref th, junk] []
  refine X_aload_n 1 dX10_init_0 rfl rfl ?_
  refine X_objInit 4 l_X10_3 oi_i oi_c (by decide) (Nat.le_of_ble_eq_true rfl) dX10_init_1 rfl ?_
  refine X_aload_n 5 dX10_init_4 rfl rfl ?_
  refine X_bipush 7 (v := 10) dX10_init_5 rfl rfl ?_
  obtain ⟨c1, hw⟩ := hw
  obtain ⟨c2, hw⟩ := hw
  refine X_newq 10 (t := 5) (n := 10) (by decide) (by decide) ⟨_, rfl, n_X10_9⟩ (by decide) (by decide) (by decide) c1 c2 dX10_init_7 rfl ?_
  refine X_nmH (fun L3 M4 e5 => ?_)
  have hw := hw L3 M4 e5
  have obL3 := AR.of_alc e5
  have leL3 := LE.of_alc e5
  have hhth := leL3.ob hhth
  refine X_putR (x := (some (L.1))) 13 f_X10_11 (Or.inr ⟨_, rfl⟩) (Or.inr ⟨rfl, _, _, _, cb10⟩) hhth rfl dX10_init_10 rfl ?_
  refine X_nmLy (fun L6 eL6 => ?_)
  have hw := hw L6 eL6
  have hhth := (SRE.mk eL6).ob hhth
  refine X_aload_n 14 dX10_init_13 rfl rfl ?_
  refine X_bipush 16 (v := 8) dX10_init_14 rfl rfl ?_
  obtain ⟨c7, hw⟩ := hw
  obtain ⟨c8, hw⟩ := hw
  refine X_newq 19 (t := 6) (n := 8) (by decide) (by decide) ⟨_, rfl, n_X10_17⟩ (by decide) (by decide) (by decide) c7 c8 dX10_init_16 rfl ?_
  refine X_nmH (fun L9 M10 e11 => ?_)
  have hw := hw L9 M10 e11
  have obL9 := AR.of_alc e11
  have leL9 := LE.of_alc e11
  have hhth := leL9.ob hhth
  refine X_putR (x := (some (L6.1))) 22 f_X10_19 (Or.inr ⟨_, rfl⟩) (Or.inr ⟨rfl, _, _, _, cb10⟩) hhth rfl dX10_init_19 rfl ?_
  refine X_nmLy (fun L12 eL12 => ?_)
  have hw := hw L12 eL12
  have hhth := (SRE.mk eL12).ob hhth
  refine X_aload_n 23 dX10_init_22 rfl rfl ?_
  refine X_iconst 24 (v := 2) dX10_init_23 rfl rfl ?_
  refine X_putI 27 f_X10_23 (Or.inl rfl) hhth rfl dX10_init_24 rfl ?_
  refine X_nmM (fun M13 eM13 => ?_)
  have hw := hw M13 eM13
  refine X_aload_n 28 dX10_init_27 rfl rfl ?_
  obtain ⟨c14, hw⟩ := hw
  obtain ⟨c15, hw⟩ := hw
  refine X_new 31 cb0 n_X10_27 c14 c15 dX10_init_28 rfl ?_
  refine X_nmH (fun L16 M17 e18 => ?_)
  have hw := hw L16 M17 e18
  have obL16 := OB.of_alc e18
  have leL16 := LE.of_alc e18
  have hhth := leL16.ob hhth
  refine X_dup 32 dX10_init_31 rfl rfl ?_
  refine Y_cIV 35 (as := []) m_X10_29 (s_X0_init obL16 hw) rfl (by decide) (Nat.le_of_ble_eq_true rfl) dX10_init_32 rfl rfl (fun M19 hw => ?_)
  refine X_putR (x := (some (L12.1))) 38 f_X10_30 (Or.inl ⟨_, rfl⟩) (Or.inr ⟨rfl, _, _, _, cb10⟩) hhth rfl dX10_init_35 rfl ?_
  refine X_nmLy (fun L20 eL20 => ?_)
  have hw := hw L20 eL20
  have hhth := (SRE.mk eL20).ob hhth
  refine X_aload_n 39 dX10_init_38 rfl rfl ?_
  obtain ⟨c21, hw⟩ := hw
  obtain ⟨c22, hw⟩ := hw
  refine X_new 42 cb1 n_X10_34 c21 c22 dX10_init_39 rfl ?_
  refine X_nmH (fun L23 M24 e25 => ?_)
  have hw := hw L23 M24 e25
  have obL23 := OB.of_alc e25
  have leL23 := LE.of_alc e25
  have hhth := leL23.ob hhth
  refine X_dup 43 dX10_init_42 rfl rfl ?_
  refine X_iconst 44 (v := 0) dX10_init_43 rfl rfl ?_
  refine X_iconst 45 (v := 0) dX10_init_44 rfl rfl ?_
  refine Y_cIV 48 (as := [.int (0 : Int32), .int (0 : Int32)]) m_X10_36 (s_X1_init obL23 hw) rfl (by decide) (Nat.le_of_ble_eq_true rfl) dX10_init_45 rfl rfl (fun M26 hw => ?_)
  refine X_putQ (x := (some (L20.1))) 51 f_X10_39 (Or.inl ⟨_, rfl⟩) (Or.inl rfl) hhth rfl dX10_init_48 rfl ?_
  refine X_nmM (fun M27 eM27 => ?_)
  have hw := hw M27 eM27
  refine X_aload_n 52 dX10_init_51 rfl rfl ?_
  refine X_aload_n 53 dX10_init_52 rfl rfl ?_
  refine X_getQ 56 f_X10_39 hhth rfl dX10_init_53 rfl ?_
  refine X_putQ (x := (mp M27 th 9)) 59 f_X10_43 (Or.inl ⟨_, rfl⟩) (Or.inl rfl) hhth rfl dX10_init_56 rfl ?_
  refine X_nmM (fun M28 eM28 => ?_)
  have hw := hw M28 eM28
  refine X_aload_n 60 dX10_init_59 rfl rfl ?_
  refine X_iconst 61 (v := -1) dX10_init_60 rfl rfl ?_
  refine X_putI 64 f_X10_46 (Or.inl rfl) hhth rfl dX10_init_61 rfl ?_
  refine X_nmM (fun M29 eM29 => ?_)
  have hw := hw M29 eM29
  refine X_aload_n 65 dX10_init_64 rfl rfl ?_
  obtain ⟨c30, hw⟩ := hw
  obtain ⟨c31, hw⟩ := hw
  refine X_new 68 cb6 n_X10_49 c30 c31 dX10_init_65 rfl ?_
  refine X_nmH (fun L32 M33 e34 => ?_)
  have hw := hw L32 M33 e34
  have obL32 := OB.of_alc e34
  have leL32 := LE.of_alc e34
  have hhth := leL32.ob hhth
  refine X_dup 69 dX10_init_68 rfl rfl ?_
  obtain ⟨n35, n36, hn35, hn36, hw⟩ := hw
  refine Y_kI 72 (as := []) m_X10_51 (s_X6_init obL32 hw) rfl (by decide) hn35 hn36 (Nat.le_of_ble_eq_true rfl) dX10_init_69 rfl rfl (fun L37 M38 hw => ?_)
  obtain ⟨leL37, hw⟩ := hw
  have hhth := leL37.ob hhth
  have obL32 := leL37.ob obL32
  refine X_putR (x := (some (L23.1))) 75 f_X10_52 (Or.inl ⟨_, rfl⟩) (Or.inr ⟨rfl, _, _, _, cb10⟩) hhth rfl dX10_init_72 rfl ?_
  refine X_nmLy (fun L39 eL39 => ?_)
  have hw := hw L39 eL39
  have hhth := (SRE.mk eL39).ob hhth
  refine X_aload_n 76 dX10_init_75 rfl rfl ?_
  refine X_bipush 78 (v := 8) dX10_init_76 rfl rfl ?_
  obtain ⟨c40, hw⟩ := hw
  obtain ⟨c41, hw⟩ := hw
  refine X_newa 80 (t := 0) (n := 8) (by decide) rfl ac0 (by decide) (by decide) (by decide) c40 c41 dX10_init_78 rfl ?_
  refine X_nmH (fun L42 M43 e44 => ?_)
  have hw := hw L42 M43 e44
  have obL42 := AR.of_alc e44
  have leL42 := LE.of_alc e44
  have hhth := leL42.ob hhth
  refine X_putR (x := (some (L39.1))) 83 f_X10_56 (Or.inr ⟨_, rfl⟩) (Or.inr ⟨rfl, _, _, _, cb10⟩) hhth rfl dX10_init_80 rfl ?_
  refine X_nmLy (fun L45 eL45 => ?_)
  have hw := hw L45 eL45
  have hhth := (SRE.mk eL45).ob hhth
  refine X_iconst 84 (v := 0) dX10_init_83 rfl rfl ?_
  refine X_istore_n 85 (ls' := [.ref th, .int (0 : Int32)]) dX10_init_84 rfl rfl (Nat.le_of_ble_eq_true rfl) rfl (Or.inr (Or.inr ⟨_, rfl, rfl⟩)) ?_
  exact LP5_s hw (G := fun v1 L rc rs M => OB L th 10 →   X (FM (QC L0 Q)) RX10 cX10_init none 2 "<init>" 3 rc rs (L, M) 85 [.ref th, .int v1] []) (fun K85 v1 L rc rs M hb hK hhth  => t_X10_init_85 hhth  hb  hK) hhth 
def w_X10_breakerSet_4 (L : Lay) (w : Nat) (K4 : Int32 → Int32 → Mem → Prop) (v1 : Int32) (v2 : Int32) (M : Mem) (Q : Int32 → Mem → Prop) : Prop := ((v2 < (mi M w 2) → (vp_in v2 10 ∧ (∀ x3 : Int32, x3 = (if (mi M (oA w (tn v2)) 5) = 0 then (0 : Int32) else (jshl (1 : Int32) v2)) → (∀ x4 : Int32, x4 = (v1 ||| x3) → (∀ x5 : Int32, x5 = v2 + (1 : Int32) → (K4 x4 x5 M)))))) ∧ (¬ v2 < (mi M w 2) → (Q v1 M)))
set_option maxRecDepth 20000 in
theorem t_X10_breakerSet_4 {L : Lay} (hL : LY L) {w : Nat} (hhw : IsW w) {K4 : Int32 → Int32 → Mem → Prop} {v1 : Int32} {v2 : Int32}  {M : Mem} {Q : Int32 → Mem → Prop} (hw : w_X10_breakerSet_4 L w K4 v1 v2 M Q) (hK4 : ∀ (v1 : Int32) (v2 : Int32) (M : Mem), K4 v1 v2 M → X (FM (QI L Q)) RX10 cX10_breakerSet (some .int) 3 "breakerSet" 1 0 0 (L, M) 4 [.ref w, .int v1, .int v2] []) : X (FM (QI L Q)) RX10 cX10_breakerSet (some .int) 3 "breakerSet" 1 0 0 (L, M) 4 [.ref w, .int v1, .int v2] [] := by
  unfold w_X10_breakerSet_4 at hw
  refine X_iload_n 5 dX10_breakerSet_4 rfl rfl ?_
  refine X_aload_n 6 dX10_breakerSet_5 rfl rfl ?_
  refine X_getI 9 f_X10_65 (hL.W hhw) rfl dX10_breakerSet_6 rfl ?_
  refine X_icmp_ge 40 12 dX10_breakerSet_9 rfl rfl (fun c1 => ?_) (fun c1 => ?_)
  · have hw := hw.2 c1
    refine X_iload_n 41 dX10_breakerSet_40 rfl rfl ?_
    exact X_ret rfl rfl dX10_breakerSet_41 ⟨_, _, rfl, rfl, hw⟩
  · have hw := hw.1 c1
    refine X_iload_n 13 dX10_breakerSet_12 rfl rfl ?_
    refine X_aload_n 14 dX10_breakerSet_13 rfl rfl ?_
    refine X_getR 17 f_X10_11 (hL.W hhw) rfl (hL.wrr hhw (k := 0) (x := 1) rfl rfl (by decide)) dX10_breakerSet_14 rfl ?_
    refine X_iload_n 18 dX10_breakerSet_17 rfl rfl ?_
    obtain ⟨c2, hw⟩ := hw
    refine X_aald 19 (Nat.le_refl 5) (by decide) (hL.war hhw (k := 1) (t := 5) (n := 10) rfl rfl (by decide)) c2 (hL.ownr hhw (vp_lt c2)) dX10_breakerSet_18 rfl ?_
    refine X_getI 22 f_X10_97 (hL.own hhw (vp_lt c2)) rfl dX10_breakerSet_19 rfl ?_
    obtain ⟨x3, ex3⟩ : ∃ x3 : Int32, x3 = (if (mi M (oA w (tn v2)) 5) = 0 then (0 : Int32) else (jshl (1 : Int32) v2)) := ⟨_, rfl⟩
    have hw := hw x3 ex3
    have hJ : X (FM (QI L Q)) RX10 cX10_breakerSet (some .int) 3 "breakerSet" 1 0 0 (L, M) 32 [.ref w, .int v1, .int v2] [.int x3, .int v1] := by
      refine X_ior 33 dX10_breakerSet_32 rfl ?_
      refine X_nmI (fun x4 ex4 => ?_)
      have hw := hw x4 ex4
      refine X_istore_n 34 (ls' := [.ref w, .int x4, .int v2]) dX10_breakerSet_33 rfl rfl (Nat.le_of_ble_eq_true rfl) rfl (Or.inr (Or.inr ⟨_, rfl, rfl⟩)) ?_
      obtain ⟨x5, ex5⟩ : ∃ x5 : Int32, x5 = v2 + (1 : Int32) := ⟨_, rfl⟩
      have hw := hw x5 ex5
      refine X_iinc 37 (v := x5) (ls' := [.ref w, .int x4, .int x5]) dX10_breakerSet_34 rfl rfl (by rw [ex5]; rfl) rfl (Or.inr (Or.inr ⟨_, rfl, rfl⟩)) ?_
      refine X_goto 4 dX10_breakerSet_37 rfl ?_
      exact hK4 x4 x5 M hw
    refine X_if_eq 31 25 (y := 0) dX10_breakerSet_22 rfl rfl (fun c6 => ?_) (fun c6 => ?_)
    · refine X_iconst 32 (v := 0) dX10_breakerSet_31 rfl rfl ?_
      rw [if_pos c6] at ex3
      rw [ex3] at hJ
      exact hJ
    · refine X_iconst 26 (v := 1) dX10_breakerSet_25 rfl rfl ?_
      refine X_iload_n 27 dX10_breakerSet_26 rfl rfl ?_
      refine Y_ishl 28 dX10_breakerSet_27 rfl ?_
      refine X_goto 32 dX10_breakerSet_28 rfl ?_
      rw [if_neg c6] at ex3
      rw [ex3] at hJ
      exact hJ
def w_X10_breakerSet (L : Lay) (w : Nat) (M : Mem) (Q : Int32 → Mem → Prop) : Prop := LP3 (fun K4 v1 v2 M => w_X10_breakerSet_4 L w  K4 v1 v2 M Q) (0 : Int32) (0 : Int32) M
set_option maxRecDepth 20000 in
theorem s_X10_breakerSet {L : Lay} (hL : LY L) {w : Nat} (hhw : IsW w) {M : Mem} {Q : Int32 → Mem → Prop} (hw : w_X10_breakerSet L w M Q) : MX yX10_breakerSet cX10_breakerSet (some .int) 3 1 0 0 [.ref w] (L, M) (QI L Q) := by
  unfold w_X10_breakerSet at hw
  refine MX_of (by decide) [.ref w, junk, junk] (by rfl) (by exact Nat.le_of_ble_eq_true rfl) ?_
  show X (FM (QI L Q)) RX10 cX10_breakerSet (some .int) 3 "breakerSet" 1 0 0 (L, M) 0 [.ref w, junk, junk] []
  refine X_iconst 1 (v := 0) dX10_breakerSet_0 rfl rfl ?_
  refine X_istore_n 2 (ls' := [.ref w, .int (0 : Int32), junk]) dX10_breakerSet_1 rfl rfl (Nat.le_of_ble_eq_true rfl) rfl (Or.inr (Or.inr ⟨_, rfl, rfl⟩)) ?_
  refine X_iconst 3 (v := 0) dX10_breakerSet_2 rfl rfl ?_
  refine X_istore_n 4 (ls' := [.ref w, .int (0 : Int32), .int (0 : Int32)]) dX10_breakerSet_3 rfl rfl (Nat.le_of_ble_eq_true rfl) rfl (Or.inr (Or.inr ⟨_, rfl, rfl⟩)) ?_
  exact LP3_s hw (G := fun v1 v2 M => X (FM (QI L Q)) RX10 cX10_breakerSet (some .int) 3 "breakerSet" 1 0 0 (L, M) 4 [.ref w, .int v1, .int v2] []) (fun K4 v1 v2 M hb hK => t_X10_breakerSet_4 hL hhw hb  hK)
def w_X10_tellFacts_4 (L : Lay) (w : Nat) (K4 : Int32 → Int32 → Mem → Prop) (v1 : Int32) (v2 : Int32) (M : Mem) (Q : Mem → Prop) : Prop := ((v2 < (mi M w 4) → (vp_in v2 8 ∧ (∀ x19 : Int32, x19 = (if (mi M (sA w (tn v2)) 2) = 0 then (1 : Int32) else (0 : Int32)) → (∀ x20 : Int32, x20 = (v1 + x19) → (∀ x21 : Int32, x21 = v2 + (1 : Int32) → (K4 x20 x21 M)))))) ∧ (¬ v2 < (mi M w 4) → (w_X6_clear L (w + 5) M (fun M2 => (w_X0_priceOf L (w + 3) (0 : Int32) M2 (fun x4 M3 => (w_X6_setFact L (w + 5) (20 : Int32) x4 M3 (fun M5 => (w_X6_setFact L (w + 5) (21 : Int32) (mi M5 (w + 3) 0) M5 (fun M6 => (w_X6_setFact L (w + 5) (22 : Int32) (mi M6 (w + 3) 1) M6 (fun M7 => (w_X6_setFact L (w + 5) (23 : Int32) v1 M7 (fun M8 => (w_X0_hungryOfLast30 L (w + 3) M8 (fun x10 M9 => (w_X6_setFact L (w + 5) (24 : Int32) x10 M9 (fun M11 => (w_X6_setFact L (w + 5) (25 : Int32) ((mi M11 w 0) / (30 : Int32)) M11 (fun M12 => (w_X10_breakerSet L w M12 (fun x14 M13 => (w_J6_bitCount_0f7a4 L x14 M13 (fun x16 M15 => (w_X6_setFact L (w + 5) (26 : Int32) x16 M15 (fun M17 => (Q M17)))))))))))))))))))))))))))
set_option maxRecDepth 20000 in
theorem t_X10_tellFacts_4 {L : Lay} (hL : LY L) {w : Nat} (hhw : IsW w) {K4 : Int32 → Int32 → Mem → Prop} {v1 : Int32} {v2 : Int32}  {M : Mem} {Q : Mem → Prop} (hw : w_X10_tellFacts_4 L w K4 v1 v2 M Q) (hK4 : ∀ (v1 : Int32) (v2 : Int32) (M : Mem), K4 v1 v2 M → X (FM (QV L Q)) RX10 cX10_tellFacts none 3 "tellFacts" 3 0 0 (L, M) 4 [.ref w, .int v1, .int v2] []) : X (FM (QV L Q)) RX10 cX10_tellFacts none 3 "tellFacts" 3 0 0 (L, M) 4 [.ref w, .int v1, .int v2] [] := by
  unfold w_X10_tellFacts_4 at hw
  refine X_iload_n 5 dX10_tellFacts_4 rfl rfl ?_
  refine X_aload_n 6 dX10_tellFacts_5 rfl rfl ?_
  refine X_getI 9 f_X10_72 (hL.W hhw) rfl dX10_tellFacts_6 rfl ?_
  refine X_icmp_ge 38 12 dX10_tellFacts_9 rfl rfl (fun c1 => ?_) (fun c1 => ?_)
  · have hw := hw.2 c1
    refine X_aload_n 39 dX10_tellFacts_38 rfl rfl ?_
    refine X_getR 42 f_X10_52 (hL.W hhw) rfl (hL.wrr hhw (k := 0) (x := 5) rfl rfl (by decide)) dX10_tellFacts_39 rfl ?_
    refine Y_cVV 45 (as := []) m_X10_177 (s_X6_clear hL (hL.rek hhw) hw) (hL.rek hhw).1 rfl (by decide) (Nat.le_of_ble_eq_true rfl) dX10_tellFacts_42 rfl rfl (fun M2 hw => ?_)
    refine X_aload_n 46 dX10_tellFacts_45 rfl rfl ?_
    refine X_getR 49 f_X10_52 (hL.W hhw) rfl (hL.wrr hhw (k := 0) (x := 5) rfl rfl (by decide)) dX10_tellFacts_46 rfl ?_
    refine X_bipush 51 (v := 20) dX10_tellFacts_49 rfl rfl ?_
    refine X_aload_n 52 dX10_tellFacts_51 rfl rfl ?_
    refine X_getR 55 f_X10_30 (hL.W hhw) rfl (hL.wrr hhw (k := 0) (x := 3) rfl rfl (by decide)) dX10_tellFacts_52 rfl ?_
    refine X_iconst 56 (v := 0) dX10_tellFacts_55 rfl rfl ?_
    refine Y_cVI 59 (as := [.int (0 : Int32)]) m_X10_180 (s_X0_priceOf hL (hL.wob hhw (k := 3) (c := 0) rfl rfl (by decide)) hw) (hL.wob hhw (k := 3) (c := 0) rfl rfl (by decide)) rfl (by decide) (Nat.le_of_ble_eq_true rfl) dX10_tellFacts_56 rfl rfl (fun x4 M3 hw => ?_)
    refine Y_cVV 62 (as := [.int (20 : Int32), .int x4]) m_X10_116 (s_X6_setFact hL (hL.rek hhw) hw) (hL.rek hhw).1 rfl (by decide) (Nat.le_of_ble_eq_true rfl) dX10_tellFacts_59 rfl rfl (fun M5 hw => ?_)
    refine X_aload_n 63 dX10_tellFacts_62 rfl rfl ?_
    refine X_getR 66 f_X10_52 (hL.W hhw) rfl (hL.wrr hhw (k := 0) (x := 5) rfl rfl (by decide)) dX10_tellFacts_63 rfl ?_
    refine X_bipush 68 (v := 21) dX10_tellFacts_66 rfl rfl ?_
    refine X_aload_n 69 dX10_tellFacts_68 rfl rfl ?_
    refine X_getR 72 f_X10_30 (hL.W hhw) rfl (hL.wrr hhw (k := 0) (x := 3) rfl rfl (by decide)) dX10_tellFacts_69 rfl ?_
    refine X_getI 75 f_X10_183 (hL.wob hhw (k := 3) (c := 0) rfl rfl (by decide)) rfl dX10_tellFacts_72 rfl ?_
    refine Y_cVV 78 (as := [.int (21 : Int32), .int ((mi M5 (w + 3) 0))]) m_X10_116 (s_X6_setFact hL (hL.rek hhw) hw) (hL.rek hhw).1 rfl (by decide) (Nat.le_of_ble_eq_true rfl) dX10_tellFacts_75 rfl rfl (fun M6 hw => ?_)
    refine X_aload_n 79 dX10_tellFacts_78 rfl rfl ?_
    refine X_getR 82 f_X10_52 (hL.W hhw) rfl (hL.wrr hhw (k := 0) (x := 5) rfl rfl (by decide)) dX10_tellFacts_79 rfl ?_
    refine X_bipush 84 (v := 22) dX10_tellFacts_82 rfl rfl ?_
    refine X_aload_n 85 dX10_tellFacts_84 rfl rfl ?_
    refine X_getR 88 f_X10_30 (hL.W hhw) rfl (hL.wrr hhw (k := 0) (x := 3) rfl rfl (by decide)) dX10_tellFacts_85 rfl ?_
    refine X_getI 91 f_X10_184 (hL.wob hhw (k := 3) (c := 0) rfl rfl (by decide)) rfl dX10_tellFacts_88 rfl ?_
    refine Y_cVV 94 (as := [.int (22 : Int32), .int ((mi M6 (w + 3) 1))]) m_X10_116 (s_X6_setFact hL (hL.rek hhw) hw) (hL.rek hhw).1 rfl (by decide) (Nat.le_of_ble_eq_true rfl) dX10_tellFacts_91 rfl rfl (fun M7 hw => ?_)
    refine X_aload_n 95 dX10_tellFacts_94 rfl rfl ?_
    refine X_getR 98 f_X10_52 (hL.W hhw) rfl (hL.wrr hhw (k := 0) (x := 5) rfl rfl (by decide)) dX10_tellFacts_95 rfl ?_
    refine X_bipush 100 (v := 23) dX10_tellFacts_98 rfl rfl ?_
    refine X_iload_n 101 dX10_tellFacts_100 rfl rfl ?_
    refine Y_cVV 104 (as := [.int (23 : Int32), .int v1]) m_X10_116 (s_X6_setFact hL (hL.rek hhw) hw) (hL.rek hhw).1 rfl (by decide) (Nat.le_of_ble_eq_true rfl) dX10_tellFacts_101 rfl rfl (fun M8 hw => ?_)
    refine X_aload_n 105 dX10_tellFacts_104 rfl rfl ?_
    refine X_getR 108 f_X10_52 (hL.W hhw) rfl (hL.wrr hhw (k := 0) (x := 5) rfl rfl (by decide)) dX10_tellFacts_105 rfl ?_
    refine X_bipush 110 (v := 24) dX10_tellFacts_108 rfl rfl ?_
    refine X_aload_n 111 dX10_tellFacts_110 rfl rfl ?_
    refine X_getR 114 f_X10_30 (hL.W hhw) rfl (hL.wrr hhw (k := 0) (x := 3) rfl rfl (by decide)) dX10_tellFacts_111 rfl ?_
    refine Y_cVI 117 (as := []) m_X10_187 (s_X0_hungryOfLast30 hL (hL.wob hhw (k := 3) (c := 0) rfl rfl (by decide)) hw) (hL.wob hhw (k := 3) (c := 0) rfl rfl (by decide)) rfl (by decide) (Nat.le_of_ble_eq_true rfl) dX10_tellFacts_114 rfl rfl (fun x10 M9 hw => ?_)
    refine Y_cVV 120 (as := [.int (24 : Int32), .int x10]) m_X10_116 (s_X6_setFact hL (hL.rek hhw) hw) (hL.rek hhw).1 rfl (by decide) (Nat.le_of_ble_eq_true rfl) dX10_tellFacts_117 rfl rfl (fun M11 hw => ?_)
    refine X_aload_n 121 dX10_tellFacts_120 rfl rfl ?_
    refine X_getR 124 f_X10_52 (hL.W hhw) rfl (hL.wrr hhw (k := 0) (x := 5) rfl rfl (by decide)) dX10_tellFacts_121 rfl ?_
    refine X_bipush 126 (v := 25) dX10_tellFacts_124 rfl rfl ?_
    refine X_aload_n 127 dX10_tellFacts_126 rfl rfl ?_
    refine X_getI 130 f_X10_62 (hL.W hhw) rfl dX10_tellFacts_127 rfl ?_
    refine X_bipush 132 (v := 30) dX10_tellFacts_130 rfl rfl ?_
    refine X_idiv 133 dX10_tellFacts_132 rfl (by decide) ?_
    refine Y_cVV 136 (as := [.int (25 : Int32), .int (((mi M11 w 0) / (30 : Int32)))]) m_X10_116 (s_X6_setFact hL (hL.rek hhw) hw) (hL.rek hhw).1 rfl (by decide) (Nat.le_of_ble_eq_true rfl) dX10_tellFacts_133 rfl rfl (fun M12 hw => ?_)
    refine X_aload_n 137 dX10_tellFacts_136 rfl rfl ?_
    refine X_getR 140 f_X10_52 (hL.W hhw) rfl (hL.wrr hhw (k := 0) (x := 5) rfl rfl (by decide)) dX10_tellFacts_137 rfl ?_
    refine X_bipush 142 (v := 26) dX10_tellFacts_140 rfl rfl ?_
    refine X_aload_n 143 dX10_tellFacts_142 rfl rfl ?_
    refine Y_cVI 146 (as := []) m_X10_190 (s_X10_breakerSet hL hhw hw) (hL.W hhw) rfl (by decide) (Nat.le_of_ble_eq_true rfl) dX10_tellFacts_143 rfl rfl (fun x14 M13 hw => ?_)
    refine Y_cSI 149 (as := [.int x14]) m_X10_193 (s_J6_bitCount_0f7a4 hL  hw) rfl (by decide) (Nat.le_of_ble_eq_true rfl) dX10_tellFacts_146 rfl rfl (fun x16 M15 hw => ?_)
    refine Y_cVV 152 (as := [.int (26 : Int32), .int x16]) m_X10_116 (s_X6_setFact hL (hL.rek hhw) hw) (hL.rek hhw).1 rfl (by decide) (Nat.le_of_ble_eq_true rfl) dX10_tellFacts_149 rfl rfl (fun M17 hw => ?_)
    exact X_retV rfl dX10_tellFacts_152 ⟨_, rfl, rfl, hw⟩
  · have hw := hw.1 c1
    refine X_iload_n 13 dX10_tellFacts_12 rfl rfl ?_
    refine X_aload_n 14 dX10_tellFacts_13 rfl rfl ?_
    refine X_getR 17 f_X10_19 (hL.W hhw) rfl (hL.wrr hhw (k := 0) (x := 2) rfl rfl (by decide)) dX10_tellFacts_14 rfl ?_
    refine X_iload_n 18 dX10_tellFacts_17 rfl rfl ?_
    obtain ⟨c18, hw⟩ := hw
    refine X_aald 19 (by decide) (by decide) (hL.war hhw (k := 2) (t := 6) (n := 8) rfl rfl (by decide)) c18 (hL.shpr hhw (vp_lt c18)) dX10_tellFacts_18 rfl ?_
    refine X_getI 22 f_X10_174 (hL.shp hhw (vp_lt c18)).1 rfl dX10_tellFacts_19 rfl ?_
    obtain ⟨x19, ex19⟩ : ∃ x19 : Int32, x19 = (if (mi M (sA w (tn v2)) 2) = 0 then (1 : Int32) else (0 : Int32)) := ⟨_, rfl⟩
    have hw := hw x19 ex19
    have bx19 : BZ x19 := by rw [ex19]; (repeat' split) <;> first | exact Or.inl rfl | exact Or.inr rfl
    have hJ : X (FM (QV L Q)) RX10 cX10_tellFacts none 3 "tellFacts" 3 0 0 (L, M) 30 [.ref w, .int v1, .int v2] [.int x19, .int v1] := by
      refine X_iadd 31 dX10_tellFacts_30 rfl ?_
      refine X_nmI (fun x20 ex20 => ?_)
      have hw := hw x20 ex20
      refine X_istore_n 32 (ls' := [.ref w, .int x20, .int v2]) dX10_tellFacts_31 rfl rfl (Nat.le_of_ble_eq_true rfl) rfl (Or.inr (Or.inr ⟨_, rfl, rfl⟩)) ?_
      obtain ⟨x21, ex21⟩ : ∃ x21 : Int32, x21 = v2 + (1 : Int32) := ⟨_, rfl⟩
      have hw := hw x21 ex21
      refine X_iinc 35 (v := x21) (ls' := [.ref w, .int x20, .int x21]) dX10_tellFacts_32 rfl rfl (by rw [ex21]; rfl) rfl (Or.inr (Or.inr ⟨_, rfl, rfl⟩)) ?_
      refine X_goto 4 dX10_tellFacts_35 rfl ?_
      exact hK4 x20 x21 M hw
    refine X_if_ne 29 25 (y := 0) dX10_tellFacts_22 rfl rfl (fun c22 => ?_) (fun c22 => ?_)
    · refine X_iconst 30 (v := 0) dX10_tellFacts_29 rfl rfl ?_
      rw [if_neg c22] at ex19
      rw [ex19] at hJ
      exact hJ
    · refine X_iconst 26 (v := 1) dX10_tellFacts_25 rfl rfl ?_
      refine X_goto 30 dX10_tellFacts_26 rfl ?_
      rw [if_pos c22] at ex19
      rw [ex19] at hJ
      exact hJ
def w_X10_tellFacts (L : Lay) (w : Nat) (M : Mem) (Q : Mem → Prop) : Prop := LP3 (fun K4 v1 v2 M => w_X10_tellFacts_4 L w  K4 v1 v2 M Q) (0 : Int32) (0 : Int32) M
set_option maxRecDepth 20000 in
theorem s_X10_tellFacts {L : Lay} (hL : LY L) {w : Nat} (hhw : IsW w) {M : Mem} {Q : Mem → Prop} (hw : w_X10_tellFacts L w M Q) : MX yX10_tellFacts cX10_tellFacts none 3 3 0 0 [.ref w] (L, M) (QV L Q) := by
  unfold w_X10_tellFacts at hw
  refine MX_of (by decide) [.ref w, junk, junk] (by rfl) (by exact Nat.le_of_ble_eq_true rfl) ?_
  show X (FM (QV L Q)) RX10 cX10_tellFacts none 3 "tellFacts" 3 0 0 (L, M) 0 [.ref w, junk, junk] []
  refine X_iconst 1 (v := 0) dX10_tellFacts_0 rfl rfl ?_
  refine X_istore_n 2 (ls' := [.ref w, .int (0 : Int32), junk]) dX10_tellFacts_1 rfl rfl (Nat.le_of_ble_eq_true rfl) rfl (Or.inr (Or.inr ⟨_, rfl, rfl⟩)) ?_
  refine X_iconst 3 (v := 0) dX10_tellFacts_2 rfl rfl ?_
  refine X_istore_n 4 (ls' := [.ref w, .int (0 : Int32), .int (0 : Int32)]) dX10_tellFacts_3 rfl rfl (Nat.le_of_ble_eq_true rfl) rfl (Or.inr (Or.inr ⟨_, rfl, rfl⟩)) ?_
  exact LP3_s hw (G := fun v1 v2 M => X (FM (QV L Q)) RX10 cX10_tellFacts none 3 "tellFacts" 3 0 0 (L, M) 4 [.ref w, .int v1, .int v2] []) (fun K4 v1 v2 M hb hK => t_X10_tellFacts_4 hL hhw hb  hK)
def w_X10_limited (L : Lay) (p0 : Int32) (M : Mem) (Q : Int32 → Mem → Prop) : Prop := Q (jmax (0 : Int32) (jmin (9999 : Int32) p0)) M
set_option maxRecDepth 20000 in
theorem s_X10_limited {L : Lay} (hL : LY L) {p0 : Int32}  {M : Mem} {Q : Int32 → Mem → Prop} (hw : w_X10_limited L p0 M Q) : MX yX10_limited cX10_limited (some .int) 1 2 0 0 [.int p0] (L, M) (QI L Q) := by
  unfold w_X10_limited at hw
  refine MX_of (by decide) [.int p0] (by rfl) (by exact Nat.le_of_ble_eq_true rfl) ?_
  show X (FM (QI L Q)) RX10 cX10_limited (some .int) 1 "limited" 2 0 0 (L, M) 0 [.int p0] []
  refine X_iconst 1 (v := 0) dX10_limited_0 rfl rfl ?_
  refine X_sipush 4 (v := 9999) dX10_limited_1 rfl rfl ?_
  refine X_iload_n 5 dX10_limited_4 rfl rfl ?_
  refine Y_mmin 8 l_X10_150 (by decide) (Nat.le_of_ble_eq_true rfl) dX10_limited_5 rfl ?_
  refine Y_mmax 11 l_X10_198 (by decide) (Nat.le_of_ble_eq_true rfl) dX10_limited_8 rfl ?_
  exact X_ret rfl rfl dX10_limited_11 ⟨_, _, rfl, rfl, hw⟩
def w_X10_renewPact_99 (L : Lay) (w : Nat)  (y0 : Option Nat) (M : Mem) (Q : Mem → Prop) : Prop := w_X6_reckon L (w + 5) y0 (9999 : Int32) M (fun x23 M22 => ((((mi M22 w 14) = (-1 : Int32) → (w_X10_limited L x23 M22 (fun x26 M25 => (∀ M27 : Mem, M27 = si M25 w 13 x26 → (Q M27))))) ∧ (¬ (mi M22 w 14) = (-1 : Int32) → (∀ M28 : Mem, M28 = si M22 w 13 (mi M22 w 14) → (Q M28))))))
set_option maxRecDepth 20000 in
theorem t_X10_renewPact_99 {L : Lay} (hL : LY L) {w : Nat} (hhw : IsW w)  {y0 : Option Nat}  {M : Mem} {Q : Mem → Prop} (hw : w_X10_renewPact_99 L w  y0 M Q)  : X (FM (QV L Q)) RX10 cX10_renewPact none 3 "renewPact" 4 0 0 (L, M) 99 [.ref w, junk, junk] [va_rf y0, .ref ((w + 5))] := by
  unfold w_X10_renewPact_99 at hw
  refine X_sipush 102 (v := 9999) dX10_renewPact_99 rfl rfl ?_
  refine Y_cVI 105 (as := [va_rf y0, .int (9999 : Int32)]) m_X10_122 (s_X6_reckon hL (hL.rek hhw) hw) (hL.rek hhw).1 rfl (by decide) (Nat.le_of_ble_eq_true rfl) dX10_renewPact_102 rfl rfl (fun x23 M22 hw => ?_)
  refine X_istore_n 106 (ls' := [.ref w, junk, .int x23]) dX10_renewPact_105 rfl rfl (Nat.le_of_ble_eq_true rfl) rfl (Or.inr (Or.inl rfl)) ?_
  refine X_aload_n 107 dX10_renewPact_106 rfl rfl ?_
  refine X_aload_n 108 dX10_renewPact_107 rfl rfl ?_
  refine X_getI 111 f_X10_46 (hL.W hhw) rfl dX10_renewPact_108 rfl ?_
  refine X_iconst 112 (v := -1) dX10_renewPact_111 rfl rfl ?_
  refine X_icmp_eq 122 115 dX10_renewPact_112 rfl rfl (fun c24 => ?_) (fun c24 => ?_)
  · have hw := hw.1 c24
    refine X_iload_n 123 dX10_renewPact_122 rfl rfl ?_
    refine Y_cSI 126 (as := [.int x23]) m_X10_126 (s_X10_limited hL  hw) rfl (by decide) (Nat.le_of_ble_eq_true rfl) dX10_renewPact_123 rfl rfl (fun x26 M25 hw => ?_)
    refine X_putI 129 f_X10_94 (Or.inl rfl) (hL.W hhw) rfl dX10_renewPact_126 rfl ?_
    refine X_nmM (fun M27 eM27 => ?_)
    have hw := hw M27 eM27
    exact X_retV rfl dX10_renewPact_129 ⟨_, rfl, rfl, hw⟩
  · have hw := hw.2 c24
    refine X_aload_n 116 dX10_renewPact_115 rfl rfl ?_
    refine X_getI 119 f_X10_46 (hL.W hhw) rfl dX10_renewPact_116 rfl ?_
    refine X_goto 126 dX10_renewPact_119 rfl ?_
    refine X_putI 129 f_X10_94 (Or.inl rfl) (hL.W hhw) rfl dX10_renewPact_126 rfl ?_
    refine X_nmM (fun M28 eM28 => ?_)
    have hw := hw M28 eM28
    exact X_retV rfl dX10_renewPact_129 ⟨_, rfl, rfl, hw⟩
def w_X10_renewPact_62 (L : Lay) (w : Nat)  (y0 : Int32) (M : Mem) (Q : Mem → Prop) : Prop := ((y0 = 0 → (∃ a16 : Nat, (mp M w 9) = some a16 ∧ OB L a16 1 ∧ (w_X1_isVoid L a16 (1 : Int32) M (fun x18 M17 => (((x18 = 0 → (∃ a20 : Nat, (mp M17 w 11) = some a20 ∧ OB L a20 4 ∧ (w_X10_renewPact_99 L w  (mp M17 a20 1) M17 Q))) ∧ (¬ x18 = 0 → (w_X10_renewPact_99 L w  none M17 Q)))))))) ∧ (¬ y0 = 0 → (∀ M21 : Mem, M21 = sq M w 11 none → (Q M21))))
set_option maxRecDepth 20000 in
theorem t_X10_renewPact_62 {L : Lay} (hL : LY L) {w : Nat} (hhw : IsW w)  {y0 : Int32}  {M : Mem} {Q : Mem → Prop} (hw : w_X10_renewPact_62 L w  y0 M Q)  : X (FM (QV L Q)) RX10 cX10_renewPact none 3 "renewPact" 4 0 0 (L, M) 62 [.ref w, junk, junk] [.int y0] := by
  unfold w_X10_renewPact_62 at hw
  refine X_istore_n 63 (ls' := [.ref w, .int y0, junk]) dX10_renewPact_62 rfl rfl (Nat.le_of_ble_eq_true rfl) rfl (Or.inr (Or.inr ⟨_, rfl, rfl⟩)) ?_
  refine X_iload_n 64 dX10_renewPact_63 rfl rfl ?_
  refine X_if_eq 73 67 (y := 0) dX10_renewPact_64 rfl rfl (fun c15 => ?_) (fun c15 => ?_)
  · have hw := hw.1 c15
    refine X_aload_n 74 dX10_renewPact_73 rfl rfl ?_
    refine X_getR 77 f_X10_52 (hL.W hhw) rfl (hL.wrr hhw (k := 0) (x := 5) rfl rfl (by decide)) dX10_renewPact_74 rfl ?_
    refine X_aload_n 78 dX10_renewPact_77 rfl rfl ?_
    refine X_getQ 81 f_X10_39 (hL.W hhw) rfl dX10_renewPact_78 rfl ?_
    obtain ⟨a16, ea16, ha16, hw⟩ := hw
    refine X_rfS ea16 ?_
    refine X_iconst 82 (v := 1) dX10_renewPact_81 rfl rfl ?_
    refine Y_cVZ 85 (as := [.int (1 : Int32)]) m_X10_101 (s_X1_isVoid hL ha16 hw) ha16 rfl (by decide) (Nat.le_of_ble_eq_true rfl) dX10_renewPact_82 rfl rfl (fun x18 M17 bx18 hw => ?_)
    refine X_if_eq 92 88 (y := 0) dX10_renewPact_85 rfl rfl (fun c19 => ?_) (fun c19 => ?_)
    · have hw := hw.1 c19
      refine X_aload_n 93 dX10_renewPact_92 rfl rfl ?_
      refine X_getQ 96 f_X10_87 (hL.W hhw) rfl dX10_renewPact_93 rfl ?_
      obtain ⟨a20, ea20, ha20, hw⟩ := hw
      refine X_rfS ea20 ?_
      refine X_getQ 99 f_X10_172 ha20 rfl dX10_renewPact_96 rfl ?_
      refine X_weak (ls' := [.ref w, junk, junk]) (WK.s (WK.j (WK.s WK.n))) (Nat.le_of_ble_eq_true rfl) ?_
      exact t_X10_renewPact_99 hL hhw  hw 
    · have hw := hw.2 c19
      refine X_null 89 dX10_renewPact_88 rfl ?_
      refine X_goto 99 dX10_renewPact_89 rfl ?_
      refine X_weak (ls' := [.ref w, junk, junk]) (WK.s (WK.j (WK.s WK.n))) (Nat.le_of_ble_eq_true rfl) ?_
      exact t_X10_renewPact_99 hL hhw  hw 
  · have hw := hw.2 c15
    refine X_aload_n 68 dX10_renewPact_67 rfl rfl ?_
    refine X_null 69 dX10_renewPact_68 rfl ?_
    refine X_putQ (x := none) 72 f_X10_87 (Or.inl ⟨_, rfl⟩) (Or.inl rfl) (hL.W hhw) rfl dX10_renewPact_69 rfl ?_
    refine X_nmM (fun M21 eM21 => ?_)
    have hw := hw M21 eM21
    exact X_retV rfl dX10_renewPact_72 ⟨_, rfl, rfl, hw⟩
def w_X10_renewPact_20 (L : Lay) (w : Nat)   (M : Mem) (Q : Mem → Prop) : Prop := (((mp M w 11) = none → (Q M)) ∧ ∀ a6 : Nat, (mp M w 11) = some a6 → (w_X10_tellFacts L w M (fun M7 => (∃ a8 : Nat, (mp M7 w 9) = some a8 ∧ OB L a8 1 ∧ (w_X1_isVoid L a8 (3 : Int32) M7 (fun x10 M9 => (((x10 = 0 → (∃ a12 : Nat, (mp M9 w 11) = some a12 ∧ OB L a12 4 ∧ (w_X6_reckon L (w + 5) (mp M9 a12 3) (0 : Int32) M9 (fun x14 M13 => (w_X10_renewPact_62 L w  x14 M13 Q))))) ∧ (¬ x10 = 0 → (w_X10_renewPact_62 L w  (0 : Int32) M9 Q))))))))))
set_option maxRecDepth 20000 in
theorem t_X10_renewPact_20 {L : Lay} (hL : LY L) {w : Nat} (hhw : IsW w)    {M : Mem} {Q : Mem → Prop} (hw : w_X10_renewPact_20 L w   M Q)  : X (FM (QV L Q)) RX10 cX10_renewPact none 3 "renewPact" 4 0 0 (L, M) 20 [.ref w, junk, junk] [] := by
  unfold w_X10_renewPact_20 at hw
  refine X_aload_n 21 dX10_renewPact_20 rfl rfl ?_
  refine X_getQ 24 f_X10_87 (hL.W hhw) rfl dX10_renewPact_21 rfl ?_
  refine X_ifnonnull 28 27 dX10_renewPact_24 rfl rfl (fun a6 c5 => ?_) (fun c5 => ?_)
  · have hw := hw.2 a6 c5
    refine X_aload_n 29 dX10_renewPact_28 rfl rfl ?_
    refine Y_cVV 32 (as := []) m_X10_110 (s_X10_tellFacts hL hhw hw) (hL.W hhw) rfl (by decide) (Nat.le_of_ble_eq_true rfl) dX10_renewPact_29 rfl rfl (fun M7 hw => ?_)
    refine X_aload_n 33 dX10_renewPact_32 rfl rfl ?_
    refine X_getQ 36 f_X10_39 (hL.W hhw) rfl dX10_renewPact_33 rfl ?_
    obtain ⟨a8, ea8, ha8, hw⟩ := hw
    refine X_rfS ea8 ?_
    refine X_iconst 37 (v := 3) dX10_renewPact_36 rfl rfl ?_
    refine Y_cVZ 40 (as := [.int (3 : Int32)]) m_X10_101 (s_X1_isVoid hL ha8 hw) ha8 rfl (by decide) (Nat.le_of_ble_eq_true rfl) dX10_renewPact_37 rfl rfl (fun x10 M9 bx10 hw => ?_)
    refine X_if_eq 47 43 (y := 0) dX10_renewPact_40 rfl rfl (fun c11 => ?_) (fun c11 => ?_)
    · have hw := hw.1 c11
      refine X_aload_n 48 dX10_renewPact_47 rfl rfl ?_
      refine X_getR 51 f_X10_52 (hL.W hhw) rfl (hL.wrr hhw (k := 0) (x := 5) rfl rfl (by decide)) dX10_renewPact_48 rfl ?_
      refine X_aload_n 52 dX10_renewPact_51 rfl rfl ?_
      refine X_getQ 55 f_X10_87 (hL.W hhw) rfl dX10_renewPact_52 rfl ?_
      obtain ⟨a12, ea12, ha12, hw⟩ := hw
      refine X_rfS ea12 ?_
      refine X_getQ 58 f_X10_169 ha12 rfl dX10_renewPact_55 rfl ?_
      refine X_iconst 59 (v := 0) dX10_renewPact_58 rfl rfl ?_
      refine Y_cVI 62 (as := [va_rf ((mp M9 a12 3)), .int (0 : Int32)]) m_X10_122 (s_X6_reckon hL (hL.rek hhw) hw) (hL.rek hhw).1 rfl (by decide) (Nat.le_of_ble_eq_true rfl) dX10_renewPact_59 rfl rfl (fun x14 M13 hw => ?_)
      exact t_X10_renewPact_62 hL hhw  hw 
    · have hw := hw.2 c11
      refine X_iconst 44 (v := 0) dX10_renewPact_43 rfl rfl ?_
      refine X_goto 62 dX10_renewPact_44 rfl ?_
      exact t_X10_renewPact_62 hL hhw  hw 
  · have hw := hw.1 c5
    exact X_retV rfl dX10_renewPact_27 ⟨_, rfl, rfl, hw⟩
def w_X10_renewPact (L : Lay) (w : Nat) (M : Mem) (Q : Mem → Prop) : Prop := (((mp M w 12) = none → (w_X10_renewPact_20 L w   M Q)) ∧ ∀ a2 : Nat, (mp M w 12) = some a2 → (∀ M3 : Mem, M3 = sq M w 11 (mp M w 12) → (∀ M4 : Mem, M4 = sq M3 w 12 none → (w_X10_renewPact_20 L w   M4 Q))))
set_option maxRecDepth 20000 in
theorem s_X10_renewPact {L : Lay} (hL : LY L) {w : Nat} (hhw : IsW w) {M : Mem} {Q : Mem → Prop} (hw : w_X10_renewPact L w M Q) : MX yX10_renewPact cX10_renewPact none 3 4 0 0 [.ref w] (L, M) (QV L Q) := by
  unfold w_X10_renewPact at hw
  refine MX_of (by decide) [.ref w, junk, junk] (by rfl) (by exact Nat.le_of_ble_eq_true rfl) ?_
  show X (FM (QV L Q)) RX10 cX10_renewPact none 3 "renewPact" 4 0 0 (L, M) 0 [.ref w, junk, junk] []
  refine X_aload_n 1 dX10_renewPact_0 rfl rfl ?_
  refine X_getQ 4 f_X10_91 (hL.W hhw) rfl dX10_renewPact_1 rfl ?_
  refine X_ifnull 20 7 dX10_renewPact_4 rfl rfl (fun c1 => ?_) (fun a2 c1 => ?_)
  · have hw := hw.1 c1
    exact t_X10_renewPact_20 hL hhw  hw 
  · have hw := hw.2 a2 c1
    refine X_aload_n 8 dX10_renewPact_7 rfl rfl ?_
    refine X_aload_n 9 dX10_renewPact_8 rfl rfl ?_
    refine X_getQ 12 f_X10_91 (hL.W hhw) rfl dX10_renewPact_9 rfl ?_
    refine X_putQ (x := (mp M w 12)) 15 f_X10_87 (Or.inl ⟨_, rfl⟩) (Or.inl rfl) (hL.W hhw) rfl dX10_renewPact_12 rfl ?_
    refine X_nmM (fun M3 eM3 => ?_)
    have hw := hw M3 eM3
    refine X_aload_n 16 dX10_renewPact_15 rfl rfl ?_
    refine X_null 17 dX10_renewPact_16 rfl ?_
    refine X_putQ (x := none) 20 f_X10_91 (Or.inl ⟨_, rfl⟩) (Or.inl rfl) (hL.W hhw) rfl dX10_renewPact_17 rfl ?_
    refine X_nmM (fun M4 eM4 => ?_)
    have hw := hw M4 eM4
    exact t_X10_renewPact_20 hL hhw  hw 
def w_X10_weighOwners_27 (L : Lay) (w : Nat) (K27 : Option Nat → Int32 → Int32 → Mem → Prop) (v1 : Option Nat) (v2 : Int32) (v3 : Int32) (M : Mem) (Q : Int32 → Mem → Prop) : Prop := ((v3 < (mi M w 2) → (vp_in v3 10 ∧ (w_X6_setOwner L (w + 5) (oA w (tn v3)) M (fun M8 => (w_X6_reckon L (w + 5) v1 (1 : Int32) M8 (fun x10 M9 => (w_X10_limited L x10 M9 (fun x12 M11 => (∀ M13 : Mem, M13 = si M11 (oA w (tn v3)) 12 x12 → (∀ x14 : Int32, x14 = (v2 + (mi M13 (oA w (tn v3)) 12)) → (∀ x15 : Int32, x15 = v3 + (1 : Int32) → (K27 v1 x14 x15 M13)))))))))))) ∧ (¬ v3 < (mi M w 2) → (Q v2 M)))
set_option maxRecDepth 20000 in
theorem t_X10_weighOwners_27 {L : Lay} (hL : LY L) {w : Nat} (hhw : IsW w) {K27 : Option Nat → Int32 → Int32 → Mem → Prop} {v1 : Option Nat} {v2 : Int32} {v3 : Int32}  {M : Mem} {Q : Int32 → Mem → Prop} (hw : w_X10_weighOwners_27 L w K27 v1 v2 v3 M Q) (hK27 : ∀ (v1 : Option Nat) (v2 : Int32) (v3 : Int32) (M : Mem), K27 v1 v2 v3 M → X (FM (QI L Q)) RX10 cX10_weighOwners (some .int) 4 "weighOwners" 3 0 0 (L, M) 27 [.ref w, va_rf v1, .int v2, .int v3] []) : X (FM (QI L Q)) RX10 cX10_weighOwners (some .int) 4 "weighOwners" 3 0 0 (L, M) 27 [.ref w, va_rf v1, .int v2, .int v3] [] := by
  unfold w_X10_weighOwners_27 at hw
  refine X_iload_n 28 dX10_weighOwners_27 rfl rfl ?_
  refine X_aload_n 29 dX10_weighOwners_28 rfl rfl ?_
  refine X_getI 32 f_X10_65 (hL.W hhw) rfl dX10_weighOwners_29 rfl ?_
  refine X_icmp_ge 87 35 dX10_weighOwners_32 rfl rfl (fun c6 => ?_) (fun c6 => ?_)
  · have hw := hw.2 c6
    refine X_iload_n 88 dX10_weighOwners_87 rfl rfl ?_
    exact X_ret rfl rfl dX10_weighOwners_88 ⟨_, _, rfl, rfl, hw⟩
  · have hw := hw.1 c6
    refine X_aload_n 36 dX10_weighOwners_35 rfl rfl ?_
    refine X_getR 39 f_X10_52 (hL.W hhw) rfl (hL.wrr hhw (k := 0) (x := 5) rfl rfl (by decide)) dX10_weighOwners_36 rfl ?_
    refine X_aload_n 40 dX10_weighOwners_39 rfl rfl ?_
    refine X_getR 43 f_X10_11 (hL.W hhw) rfl (hL.wrr hhw (k := 0) (x := 1) rfl rfl (by decide)) dX10_weighOwners_40 rfl ?_
    refine X_iload_n 44 dX10_weighOwners_43 rfl rfl ?_
    obtain ⟨c7, hw⟩ := hw
    refine X_aald 45 (Nat.le_refl 5) (by decide) (hL.war hhw (k := 1) (t := 5) (n := 10) rfl rfl (by decide)) c7 (hL.ownr hhw (vp_lt c7)) dX10_weighOwners_44 rfl ?_
    refine Y_cVV 48 (as := [.ref ((oA w (tn v3)))]) m_X10_113 (s_X6_setOwner hL (hL.rek hhw) (hL.own hhw (vp_lt c7)) hw) (hL.rek hhw).1 rfl (by decide) (Nat.le_of_ble_eq_true rfl) dX10_weighOwners_45 rfl rfl (fun M8 hw => ?_)
    refine X_aload_n 49 dX10_weighOwners_48 rfl rfl ?_
    refine X_getR 52 f_X10_11 (hL.W hhw) rfl (hL.wrr hhw (k := 0) (x := 1) rfl rfl (by decide)) dX10_weighOwners_49 rfl ?_
    refine X_iload_n 53 dX10_weighOwners_52 rfl rfl ?_
    refine X_aald 54 (Nat.le_refl 5) (by decide) (hL.war hhw (k := 1) (t := 5) (n := 10) rfl rfl (by decide)) c7 (hL.ownr hhw (vp_lt c7)) dX10_weighOwners_53 rfl ?_
    refine X_aload_n 55 dX10_weighOwners_54 rfl rfl ?_
    refine X_getR 58 f_X10_52 (hL.W hhw) rfl (hL.wrr hhw (k := 0) (x := 5) rfl rfl (by decide)) dX10_weighOwners_55 rfl ?_
    refine X_aloadQ_n 59 dX10_weighOwners_58 rfl rfl ?_
    refine X_iconst 60 (v := 1) dX10_weighOwners_59 rfl rfl ?_
    refine Y_cVI 63 (as := [va_rf v1, .int (1 : Int32)]) m_X10_122 (s_X6_reckon hL (hL.rek hhw) hw) (hL.rek hhw).1 rfl (by decide) (Nat.le_of_ble_eq_true rfl) dX10_weighOwners_60 rfl rfl (fun x10 M9 hw => ?_)
    refine Y_cSI 66 (as := [.int x10]) m_X10_126 (s_X10_limited hL  hw) rfl (by decide) (Nat.le_of_ble_eq_true rfl) dX10_weighOwners_63 rfl rfl (fun x12 M11 hw => ?_)
    refine X_putI 69 f_X10_204 (Or.inl rfl) (hL.own hhw (vp_lt c7)) rfl dX10_weighOwners_66 rfl ?_
    refine X_nmM (fun M13 eM13 => ?_)
    have hw := hw M13 eM13
    refine X_iload_n 70 dX10_weighOwners_69 rfl rfl ?_
    refine X_aload_n 71 dX10_weighOwners_70 rfl rfl ?_
    refine X_getR 74 f_X10_11 (hL.W hhw) rfl (hL.wrr hhw (k := 0) (x := 1) rfl rfl (by decide)) dX10_weighOwners_71 rfl ?_
    refine X_iload_n 75 dX10_weighOwners_74 rfl rfl ?_
    refine X_aald 76 (Nat.le_refl 5) (by decide) (hL.war hhw (k := 1) (t := 5) (n := 10) rfl rfl (by decide)) c7 (hL.ownr hhw (vp_lt c7)) dX10_weighOwners_75 rfl ?_
    refine X_getI 79 f_X10_204 (hL.own hhw (vp_lt c7)) rfl dX10_weighOwners_76 rfl ?_
    refine X_iadd 80 dX10_weighOwners_79 rfl ?_
    refine X_nmI (fun x14 ex14 => ?_)
    have hw := hw x14 ex14
    refine X_istore_n 81 (ls' := [.ref w, va_rf v1, .int x14, .int v3]) dX10_weighOwners_80 rfl rfl (Nat.le_of_ble_eq_true rfl) rfl (Or.inr (Or.inr ⟨_, rfl, by cases v1 <;> rfl⟩)) ?_
    obtain ⟨x15, ex15⟩ : ∃ x15 : Int32, x15 = v3 + (1 : Int32) := ⟨_, rfl⟩
    have hw := hw x15 ex15
    refine X_iinc 84 (v := x15) (ls' := [.ref w, va_rf v1, .int x14, .int x15]) dX10_weighOwners_81 rfl rfl (by rw [ex15]; rfl) rfl (Or.inr (Or.inr ⟨_, rfl, rfl⟩)) ?_
    refine X_goto 27 dX10_weighOwners_84 rfl ?_
    exact hK27 v1 x14 x15 M13 hw
def w_X10_weighOwners_22 (L : Lay) (w : Nat)  (y0 : Option Nat) (M : Mem) (Q : Int32 → Mem → Prop) : Prop := LP4 (fun K27 v1 v2 v3 M => w_X10_weighOwners_27 L w  K27 v1 v2 v3 M Q) y0 (0 : Int32) (0 : Int32) M
set_option maxRecDepth 20000 in
theorem t_X10_weighOwners_22 {L : Lay} (hL : LY L) {w : Nat} (hhw : IsW w)  {y0 : Option Nat}  {M : Mem} {Q : Int32 → Mem → Prop} (hw : w_X10_weighOwners_22 L w  y0 M Q)  : X (FM (QI L Q)) RX10 cX10_weighOwners (some .int) 4 "weighOwners" 3 0 0 (L, M) 22 [.ref w, junk, junk, junk] [va_rf y0] := by
  unfold w_X10_weighOwners_22 at hw
  refine X_astoreQ_n 23 (ls' := [.ref w, va_rf y0, junk, junk]) dX10_weighOwners_22 rfl rfl (Nat.le_of_ble_eq_true rfl) rfl (Or.inr (Or.inr ⟨_, rfl, rfl⟩)) ?_
  refine X_iconst 24 (v := 0) dX10_weighOwners_23 rfl rfl ?_
  refine X_istore_n 25 (ls' := [.ref w, va_rf y0, .int (0 : Int32), junk]) dX10_weighOwners_24 rfl rfl (Nat.le_of_ble_eq_true rfl) rfl (Or.inr (Or.inr ⟨_, rfl, by cases y0 <;> rfl⟩)) ?_
  refine X_iconst 26 (v := 0) dX10_weighOwners_25 rfl rfl ?_
  refine X_istore_n 27 (ls' := [.ref w, va_rf y0, .int (0 : Int32), .int (0 : Int32)]) dX10_weighOwners_26 rfl rfl (Nat.le_of_ble_eq_true rfl) rfl (Or.inr (Or.inr ⟨_, rfl, rfl⟩)) ?_
  exact LP4_s hw (G := fun v1 v2 v3 M => X (FM (QI L Q)) RX10 cX10_weighOwners (some .int) 4 "weighOwners" 3 0 0 (L, M) 27 [.ref w, va_rf v1, .int v2, .int v3] []) (fun K27 v1 v2 v3 M hb hK => t_X10_weighOwners_27 hL hhw hb  hK)
def w_X10_weighOwners (L : Lay) (w : Nat) (M : Mem) (Q : Int32 → Mem → Prop) : Prop := ∃ a1 : Nat, (mp M w 9) = some a1 ∧ OB L a1 1 ∧ (w_X1_isVoid L a1 (0 : Int32) M (fun x3 M2 => (((x3 = 0 → (∃ a5 : Nat, (mp M2 w 11) = some a5 ∧ OB L a5 4 ∧ (w_X10_weighOwners_22 L w  (mp M2 a5 0) M2 Q))) ∧ (¬ x3 = 0 → (w_X10_weighOwners_22 L w  none M2 Q))))))
set_option maxRecDepth 20000 in
theorem s_X10_weighOwners {L : Lay} (hL : LY L) {w : Nat} (hhw : IsW w) {M : Mem} {Q : Int32 → Mem → Prop} (hw : w_X10_weighOwners L w M Q) : MX yX10_weighOwners cX10_weighOwners (some .int) 4 3 0 0 [.ref w] (L, M) (QI L Q) := by
  unfold w_X10_weighOwners at hw
  refine MX_of (by decide) [.ref w, junk, junk, junk] (by rfl) (by exact Nat.le_of_ble_eq_true rfl) ?_
  show X (FM (QI L Q)) RX10 cX10_weighOwners (some .int) 4 "weighOwners" 3 0 0 (L, M) 0 [.ref w, junk, junk, junk] []
  refine X_aload_n 1 dX10_weighOwners_0 rfl rfl ?_
  refine X_getQ 4 f_X10_39 (hL.W hhw) rfl dX10_weighOwners_1 rfl ?_
  obtain ⟨a1, ea1, ha1, hw⟩ := hw
  refine X_rfS ea1 ?_
  refine X_iconst 5 (v := 0) dX10_weighOwners_4 rfl rfl ?_
  refine Y_cVZ 8 (as := [.int (0 : Int32)]) m_X10_101 (s_X1_isVoid hL ha1 hw) ha1 rfl (by decide) (Nat.le_of_ble_eq_true rfl) dX10_weighOwners_5 rfl rfl (fun x3 M2 bx3 hw => ?_)
  refine X_if_eq 15 11 (y := 0) dX10_weighOwners_8 rfl rfl (fun c4 => ?_) (fun c4 => ?_)
  · have hw := hw.1 c4
    refine X_aload_n 16 dX10_weighOwners_15 rfl rfl ?_
    refine X_getQ 19 f_X10_87 (hL.W hhw) rfl dX10_weighOwners_16 rfl ?_
    obtain ⟨a5, ea5, ha5, hw⟩ := hw
    refine X_rfS ea5 ?_
    refine X_getQ 22 f_X10_201 ha5 rfl dX10_weighOwners_19 rfl ?_
    exact t_X10_weighOwners_22 hL hhw  hw 
  · have hw := hw.2 c4
    refine X_null 12 dX10_weighOwners_11 rfl ?_
    refine X_goto 22 dX10_weighOwners_12 rfl ?_
    exact t_X10_weighOwners_22 hL hhw  hw 
def w_X10_claimOf (L : Lay) (ow : Nat) (p1 : Int32) (p2 : Int32) (M : Mem) (Q : Int32 → Mem → Prop) : Prop := ((p1 = (12 : Int32) → (Q (0 : Int32) M)) ∧ (¬ p1 = (12 : Int32) → (((p1 = (13 : Int32) → (Q (mi M ow 1) M)) ∧ (¬ p1 = (13 : Int32) → (((p1 = (14 : Int32) → (Q (mi M ow 0) M)) ∧ (¬ p1 = (14 : Int32) → (Q p2 M)))))))))
set_option maxRecDepth 20000 in
theorem s_X10_claimOf {L : Lay} (hL : LY L) {ow : Nat} {p1 : Int32} {p2 : Int32} (hhow : OB L ow 3) {M : Mem} {Q : Int32 → Mem → Prop} (hw : w_X10_claimOf L ow p1 p2 M Q) : MX yX10_claimOf cX10_claimOf (some .int) 3 1 0 0 [.ref ow, .int p1, .int p2] (L, M) (QI L Q) := by
  unfold w_X10_claimOf at hw
  refine MX_of (by decide) [.ref ow, .int p1, .int p2] (by rfl) (by exact Nat.le_of_ble_eq_true rfl) ?_
  show X (FM (QI L Q)) RX10 cX10_claimOf (some .int) 3 "claimOf" 1 0 0 (L, M) 0 [.ref ow, .int p1, .int p2] []
  refine X_iload_n 1 dX10_claimOf_0 rfl rfl ?_
  by_cases c1 : p1 = (12 : Int32)
  · have hw := hw.1 c1
    refine Y_tableIn 38 (k := 12) (off := 37) c1 dX10_claimOf_1 (by decide) (by decide) rfl rfl ?_
    refine X_iconst 39 (v := 0) dX10_claimOf_38 rfl rfl ?_
    exact X_ret rfl rfl dX10_claimOf_39 ⟨_, _, rfl, rfl, hw⟩
  · have hw := hw.2 c1
    by_cases c2 : p1 = (13 : Int32)
    · have hw := hw.1 c2
      refine Y_tableIn 28 (k := 13) (off := 27) c2 dX10_claimOf_1 (by decide) (by decide) rfl rfl ?_
      refine X_aload_n 29 dX10_claimOf_28 rfl rfl ?_
      refine X_getI 32 f_X10_222 hhow rfl dX10_claimOf_29 rfl ?_
      exact X_ret rfl rfl dX10_claimOf_32 ⟨_, _, rfl, rfl, hw⟩
    · have hw := hw.2 c2
      by_cases c3 : p1 = (14 : Int32)
      · have hw := hw.1 c3
        refine Y_tableIn 33 (k := 14) (off := 32) c3 dX10_claimOf_1 (by decide) (by decide) rfl rfl ?_
        refine X_aload_n 34 dX10_claimOf_33 rfl rfl ?_
        refine X_getI 37 f_X10_225 hhow rfl dX10_claimOf_34 rfl ?_
        exact X_ret rfl rfl dX10_claimOf_37 ⟨_, _, rfl, rfl, hw⟩
      · have hw := hw.2 c3
        have hout : p1.toInt < 12 ∨ 14 < p1.toInt := by
          have hc1 : ¬ p1.toInt = 12 := fun h => c1 (Int32.toInt_inj.mp (h.trans (by decide)))
          have hc2 : ¬ p1.toInt = 13 := fun h => c2 (Int32.toInt_inj.mp (h.trans (by decide)))
          have hc3 : ¬ p1.toInt = 14 := fun h => c3 (Int32.toInt_inj.mp (h.trans (by decide)))
          omega
        refine X_tableOut 40 dX10_claimOf_1 hout rfl ?_
        refine X_iload_n 41 dX10_claimOf_40 rfl rfl ?_
        exact X_ret rfl rfl dX10_claimOf_41 ⟨_, _, rfl, rfl, hw⟩
def w_X10_giveRests_69 (L : Lay) (w : Nat) (p0 : Int32) (K2 : Int32 → Mem → Prop) (K20 : Int32 → Int32 → Int32 → Mem → Prop) (v2 : Int32) (v4 : Int32) (M : Mem) (Q : Mem → Prop) : Prop := ∀ x16 : Int32, x16 = v4 + (1 : Int32) → (K20 v2 v4 x16 M)
set_option maxRecDepth 20000 in
theorem t_X10_giveRests_69 {L : Lay} (hL : LY L) {w : Nat} {p0 : Int32} (hhw : IsW w) {K2 : Int32 → Mem → Prop} {K20 : Int32 → Int32 → Int32 → Mem → Prop} {v2 : Int32} {v4 : Int32}  {M : Mem} {Q : Mem → Prop} (hw : w_X10_giveRests_69 L w p0 K2 K20 v2 v4 M Q) (hK2 : ∀ (v2 : Int32) (M : Mem), K2 v2 M → X (FM (QV L Q)) RX10 cX10_giveRests none 5 "giveRests" 1 0 0 (L, M) 2 [.ref w, .int p0, .int v2, junk, junk] []) (hK20 : ∀ (v2 : Int32) (v3 : Int32) (v4 : Int32) (M : Mem), K20 v2 v3 v4 M → X (FM (QV L Q)) RX10 cX10_giveRests none 5 "giveRests" 1 0 0 (L, M) 20 [.ref w, .int p0, .int v2, .int v3, .int v4] []) : X (FM (QV L Q)) RX10 cX10_giveRests none 5 "giveRests" 1 0 0 (L, M) 69 [.ref w, .int p0, .int v2, junk, .int v4] [] := by
  unfold w_X10_giveRests_69 at hw
  refine X_iload 71 dX10_giveRests_69 rfl rfl ?_
  refine X_istore_n 72 (ls' := [.ref w, .int p0, .int v2, .int v4, .int v4]) dX10_giveRests_71 rfl rfl (Nat.le_of_ble_eq_true rfl) rfl (Or.inr (Or.inr ⟨_, rfl, rfl⟩)) ?_
  obtain ⟨x16, ex16⟩ : ∃ x16 : Int32, x16 = v4 + (1 : Int32) := ⟨_, rfl⟩
  have hw := hw x16 ex16
  refine X_iinc 75 (v := x16) (ls' := [.ref w, .int p0, .int v2, .int v4, .int x16]) dX10_giveRests_72 rfl rfl (by rw [ex16]; rfl) rfl (Or.inr (Or.inr ⟨_, rfl, rfl⟩)) ?_
  refine X_goto 20 dX10_giveRests_75 rfl ?_
  exact hK20 v2 v4 x16 M hw
def w_X10_giveRests_20 (L : Lay) (w : Nat) (p0 : Int32) (K2 : Int32 → Mem → Prop) (K20 : Int32 → Int32 → Int32 → Mem → Prop) (v2 : Int32) (v3 : Int32) (v4 : Int32) (M : Mem) (Q : Mem → Prop) : Prop := ((v4 < (mi M w 2) → (vp_in v4 10 ∧ ((((mi M (oA w (tn v4)) 13) < 0 → (∀ x11 : Int32, x11 = v4 + (1 : Int32) → (K20 v2 v3 x11 M))) ∧ (¬ (mi M (oA w (tn v4)) 13) < 0 → (((v3 = (-1 : Int32) → (w_X10_giveRests_69 L w p0 K2 K20 v2 v4 M Q)) ∧ (¬ v3 = (-1 : Int32) → (vp_in v3 10 ∧ ((((mi M (oA w (tn v3)) 13) < (mi M (oA w (tn v4)) 13) → (w_X10_giveRests_69 L w p0 K2 K20 v2 v4 M Q)) ∧ (¬ (mi M (oA w (tn v3)) 13) < (mi M (oA w (tn v4)) 13) → (∀ x15 : Int32, x15 = v4 + (1 : Int32) → (K20 v2 v3 x15 M)))))))))))))) ∧ (¬ v4 < (mi M w 2) → (((v3 = (-1 : Int32) → (Q M)) ∧ (¬ v3 = (-1 : Int32) → (vp_in v3 10 ∧ (∀ M6 : Mem, M6 = si M (oA w (tn v3)) 8 ((mi M (oA w (tn v3)) 8) + (1 : Int32)) → (∀ M7 : Mem, M7 = si M6 (oA w (tn v3)) 13 (-1 : Int32) → (∀ x8 : Int32, x8 = v2 + (1 : Int32) → (K2 x8 M7))))))))))
set_option maxRecDepth 20000 in
theorem t_X10_giveRests_20 {L : Lay} (hL : LY L) {w : Nat} {p0 : Int32} (hhw : IsW w) {K2 : Int32 → Mem → Prop} {K20 : Int32 → Int32 → Int32 → Mem → Prop} {v2 : Int32} {v3 : Int32} {v4 : Int32}  {M : Mem} {Q : Mem → Prop} (hw : w_X10_giveRests_20 L w p0 K2 K20 v2 v3 v4 M Q) (hK2 : ∀ (v2 : Int32) (M : Mem), K2 v2 M → X (FM (QV L Q)) RX10 cX10_giveRests none 5 "giveRests" 1 0 0 (L, M) 2 [.ref w, .int p0, .int v2, junk, junk] []) (hK20 : ∀ (v2 : Int32) (v3 : Int32) (v4 : Int32) (M : Mem), K20 v2 v3 v4 M → X (FM (QV L Q)) RX10 cX10_giveRests none 5 "giveRests" 1 0 0 (L, M) 20 [.ref w, .int p0, .int v2, .int v3, .int v4] []) : X (FM (QV L Q)) RX10 cX10_giveRests none 5 "giveRests" 1 0 0 (L, M) 20 [.ref w, .int p0, .int v2, .int v3, .int v4] [] := by
  unfold w_X10_giveRests_20 at hw
  refine X_iload 22 dX10_giveRests_20 rfl rfl ?_
  refine X_aload_n 23 dX10_giveRests_22 rfl rfl ?_
  refine X_getI 26 f_X10_65 (hL.W hhw) rfl dX10_giveRests_23 rfl ?_
  refine X_icmp_ge 78 29 dX10_giveRests_26 rfl rfl (fun c3 => ?_) (fun c3 => ?_)
  · have hw := hw.2 c3
    refine X_iload_n 79 dX10_giveRests_78 rfl rfl ?_
    refine X_iconst 80 (v := -1) dX10_giveRests_79 rfl rfl ?_
    refine X_icmp_ne 84 83 dX10_giveRests_80 rfl rfl (fun c4 => ?_) (fun c4 => ?_)
    · have hw := hw.2 c4
      refine X_aload_n 85 dX10_giveRests_84 rfl rfl ?_
      refine X_getR 88 f_X10_11 (hL.W hhw) rfl (hL.wrr hhw (k := 0) (x := 1) rfl rfl (by decide)) dX10_giveRests_85 rfl ?_
      refine X_iload_n 89 dX10_giveRests_88 rfl rfl ?_
      obtain ⟨c5, hw⟩ := hw
      refine X_aald 90 (Nat.le_refl 5) (by decide) (hL.war hhw (k := 1) (t := 5) (n := 10) rfl rfl (by decide)) c5 (hL.ownr hhw (vp_lt c5)) dX10_giveRests_89 rfl ?_
      refine X_dup 91 dX10_giveRests_90 rfl rfl ?_
      refine X_getI 94 f_X10_206 (hL.own hhw (vp_lt c5)) rfl dX10_giveRests_91 rfl ?_
      refine X_iconst 95 (v := 1) dX10_giveRests_94 rfl rfl ?_
      refine X_iadd 96 dX10_giveRests_95 rfl ?_
      refine X_putI 99 f_X10_206 (Or.inl rfl) (hL.own hhw (vp_lt c5)) rfl dX10_giveRests_96 rfl ?_
      refine X_nmM (fun M6 eM6 => ?_)
      have hw := hw M6 eM6
      refine X_aload_n 100 dX10_giveRests_99 rfl rfl ?_
      refine X_getR 103 f_X10_11 (hL.W hhw) rfl (hL.wrr hhw (k := 0) (x := 1) rfl rfl (by decide)) dX10_giveRests_100 rfl ?_
      refine X_iload_n 104 dX10_giveRests_103 rfl rfl ?_
      refine X_aald 105 (Nat.le_refl 5) (by decide) (hL.war hhw (k := 1) (t := 5) (n := 10) rfl rfl (by decide)) c5 (hL.ownr hhw (vp_lt c5)) dX10_giveRests_104 rfl ?_
      refine X_iconst 106 (v := -1) dX10_giveRests_105 rfl rfl ?_
      refine X_putI 109 f_X10_216 (Or.inl rfl) (hL.own hhw (vp_lt c5)) rfl dX10_giveRests_106 rfl ?_
      refine X_nmM (fun M7 eM7 => ?_)
      have hw := hw M7 eM7
      obtain ⟨x8, ex8⟩ : ∃ x8 : Int32, x8 = v2 + (1 : Int32) := ⟨_, rfl⟩
      have hw := hw x8 ex8
      refine X_iinc 112 (v := x8) (ls' := [.ref w, .int p0, .int x8, .int v3, .int v4]) dX10_giveRests_109 rfl rfl (by rw [ex8]; rfl) rfl (Or.inr (Or.inr ⟨_, rfl, rfl⟩)) ?_
      refine X_goto 2 dX10_giveRests_112 rfl ?_
      refine X_weak (ls' := [.ref w, .int p0, .int x8, junk, junk]) (WK.s (WK.s (WK.s (WK.j (WK.j WK.n))))) (Nat.le_of_ble_eq_true rfl) ?_
      exact hK2 x8 M7 hw
    · have hw := hw.1 c4
      exact X_retV rfl dX10_giveRests_83 ⟨_, rfl, rfl, hw⟩
  · have hw := hw.1 c3
    refine X_aload_n 30 dX10_giveRests_29 rfl rfl ?_
    refine X_getR 33 f_X10_11 (hL.W hhw) rfl (hL.wrr hhw (k := 0) (x := 1) rfl rfl (by decide)) dX10_giveRests_30 rfl ?_
    refine X_iload 35 dX10_giveRests_33 rfl rfl ?_
    obtain ⟨c9, hw⟩ := hw
    refine X_aald 36 (Nat.le_refl 5) (by decide) (hL.war hhw (k := 1) (t := 5) (n := 10) rfl rfl (by decide)) c9 (hL.ownr hhw (vp_lt c9)) dX10_giveRests_35 rfl ?_
    refine X_getI 39 f_X10_216 (hL.own hhw (vp_lt c9)) rfl dX10_giveRests_36 rfl ?_
    refine X_if_lt 72 42 (y := 0) dX10_giveRests_39 rfl rfl (fun c10 => ?_) (fun c10 => ?_)
    · have hw := hw.1 c10
      obtain ⟨x11, ex11⟩ : ∃ x11 : Int32, x11 = v4 + (1 : Int32) := ⟨_, rfl⟩
      have hw := hw x11 ex11
      refine X_iinc 75 (v := x11) (ls' := [.ref w, .int p0, .int v2, .int v3, .int x11]) dX10_giveRests_72 rfl rfl (by rw [ex11]; rfl) rfl (Or.inr (Or.inr ⟨_, rfl, rfl⟩)) ?_
      refine X_goto 20 dX10_giveRests_75 rfl ?_
      exact hK20 v2 v3 x11 M hw
    · have hw := hw.2 c10
      refine X_iload_n 43 dX10_giveRests_42 rfl rfl ?_
      refine X_iconst 44 (v := -1) dX10_giveRests_43 rfl rfl ?_
      refine X_icmp_eq 69 47 dX10_giveRests_44 rfl rfl (fun c12 => ?_) (fun c12 => ?_)
      · have hw := hw.1 c12
        refine X_weak (ls' := [.ref w, .int p0, .int v2, junk, .int v4]) (WK.s (WK.s (WK.s (WK.j (WK.s WK.n))))) (Nat.le_of_ble_eq_true rfl) ?_
        exact t_X10_giveRests_69 hL hhw  hw hK2 hK20
      · have hw := hw.2 c12
        refine X_aload_n 48 dX10_giveRests_47 rfl rfl ?_
        refine X_getR 51 f_X10_11 (hL.W hhw) rfl (hL.wrr hhw (k := 0) (x := 1) rfl rfl (by decide)) dX10_giveRests_48 rfl ?_
        refine X_iload 53 dX10_giveRests_51 rfl rfl ?_
        refine X_aald 54 (Nat.le_refl 5) (by decide) (hL.war hhw (k := 1) (t := 5) (n := 10) rfl rfl (by decide)) c9 (hL.ownr hhw (vp_lt c9)) dX10_giveRests_53 rfl ?_
        refine X_getI 57 f_X10_216 (hL.own hhw (vp_lt c9)) rfl dX10_giveRests_54 rfl ?_
        refine X_aload_n 58 dX10_giveRests_57 rfl rfl ?_
        refine X_getR 61 f_X10_11 (hL.W hhw) rfl (hL.wrr hhw (k := 0) (x := 1) rfl rfl (by decide)) dX10_giveRests_58 rfl ?_
        refine X_iload_n 62 dX10_giveRests_61 rfl rfl ?_
        obtain ⟨c13, hw⟩ := hw
        refine X_aald 63 (Nat.le_refl 5) (by decide) (hL.war hhw (k := 1) (t := 5) (n := 10) rfl rfl (by decide)) c13 (hL.ownr hhw (vp_lt c13)) dX10_giveRests_62 rfl ?_
        refine X_getI 66 f_X10_216 (hL.own hhw (vp_lt c13)) rfl dX10_giveRests_63 rfl ?_
        refine X_icmp_le 72 69 dX10_giveRests_66 rfl rfl (fun c14 => ?_) (fun c14 => ?_)
        · have hw := hw.2 c14
          obtain ⟨x15, ex15⟩ : ∃ x15 : Int32, x15 = v4 + (1 : Int32) := ⟨_, rfl⟩
          have hw := hw x15 ex15
          refine X_iinc 75 (v := x15) (ls' := [.ref w, .int p0, .int v2, .int v3, .int x15]) dX10_giveRests_72 rfl rfl (by rw [ex15]; rfl) rfl (Or.inr (Or.inr ⟨_, rfl, rfl⟩)) ?_
          refine X_goto 20 dX10_giveRests_75 rfl ?_
          exact hK20 v2 v3 x15 M hw
        · have hw := hw.1 c14
          refine X_weak (ls' := [.ref w, .int p0, .int v2, junk, .int v4]) (WK.s (WK.s (WK.s (WK.j (WK.s WK.n))))) (Nat.le_of_ble_eq_true rfl) ?_
          exact t_X10_giveRests_69 hL hhw  hw hK2 hK20
def w_X10_giveRests_2 (L : Lay) (w : Nat) (p0 : Int32) (K2 : Int32 → Mem → Prop) (v2 : Int32) (M : Mem) (Q : Mem → Prop) : Prop := ((v2 < p0 → (((v2 < (mi M w 2) → (LP4 (fun K20 v2 v3 v4 M => w_X10_giveRests_20 L w p0 K2 K20 v2 v3 v4 M Q) v2 (-1 : Int32) (0 : Int32) M)) ∧ (¬ v2 < (mi M w 2) → (Q M))))) ∧ (¬ v2 < p0 → (Q M)))
set_option maxRecDepth 20000 in
theorem t_X10_giveRests_2 {L : Lay} (hL : LY L) {w : Nat} {p0 : Int32} (hhw : IsW w) {K2 : Int32 → Mem → Prop} {v2 : Int32}  {M : Mem} {Q : Mem → Prop} (hw : w_X10_giveRests_2 L w p0 K2 v2 M Q) (hK2 : ∀ (v2 : Int32) (M : Mem), K2 v2 M → X (FM (QV L Q)) RX10 cX10_giveRests none 5 "giveRests" 1 0 0 (L, M) 2 [.ref w, .int p0, .int v2, junk, junk] []) : X (FM (QV L Q)) RX10 cX10_giveRests none 5 "giveRests" 1 0 0 (L, M) 2 [.ref w, .int p0, .int v2, junk, junk] [] := by
  unfold w_X10_giveRests_2 at hw
  refine X_iload_n 3 dX10_giveRests_2 rfl rfl ?_
  refine X_iload_n 4 dX10_giveRests_3 rfl rfl ?_
  refine X_icmp_ge 115 7 dX10_giveRests_4 rfl rfl (fun c1 => ?_) (fun c1 => ?_)
  · have hw := hw.2 c1
    exact X_retV rfl dX10_giveRests_115 ⟨_, rfl, rfl, hw⟩
  · have hw := hw.1 c1
    refine X_iload_n 8 dX10_giveRests_7 rfl rfl ?_
    refine X_aload_n 9 dX10_giveRests_8 rfl rfl ?_
    refine X_getI 12 f_X10_65 (hL.W hhw) rfl dX10_giveRests_9 rfl ?_
    refine X_icmp_ge 115 15 dX10_giveRests_12 rfl rfl (fun c2 => ?_) (fun c2 => ?_)
    · have hw := hw.2 c2
      exact X_retV rfl dX10_giveRests_115 ⟨_, rfl, rfl, hw⟩
    · have hw := hw.1 c2
      refine X_iconst 16 (v := -1) dX10_giveRests_15 rfl rfl ?_
      refine X_istore_n 17 (ls' := [.ref w, .int p0, .int v2, .int (-1 : Int32), junk]) dX10_giveRests_16 rfl rfl (Nat.le_of_ble_eq_true rfl) rfl (Or.inr (Or.inr ⟨_, rfl, rfl⟩)) ?_
      refine X_iconst 18 (v := 0) dX10_giveRests_17 rfl rfl ?_
      refine X_istore 20 (ls' := [.ref w, .int p0, .int v2, .int (-1 : Int32), .int (0 : Int32)]) dX10_giveRests_18 rfl (Nat.le_of_ble_eq_true rfl) rfl (Or.inr (Or.inr ⟨_, rfl, rfl⟩)) ?_
      exact LP4_s hw (G := fun v2 v3 v4 M => X (FM (QV L Q)) RX10 cX10_giveRests none 5 "giveRests" 1 0 0 (L, M) 20 [.ref w, .int p0, .int v2, .int v3, .int v4] []) (fun K20 v2 v3 v4 M hb hK => t_X10_giveRests_20 hL hhw hb hK2 hK)
def w_X10_giveRests (L : Lay) (w : Nat) (p0 : Int32) (M : Mem) (Q : Mem → Prop) : Prop := LP2 (fun K2 v2 M => w_X10_giveRests_2 L w p0  K2 v2 M Q) (0 : Int32) M
set_option maxRecDepth 20000 in
theorem s_X10_giveRests {L : Lay} (hL : LY L) {w : Nat} {p0 : Int32} (hhw : IsW w) {M : Mem} {Q : Mem → Prop} (hw : w_X10_giveRests L w p0 M Q) : MX yX10_giveRests cX10_giveRests none 5 1 0 0 [.ref w, .int p0] (L, M) (QV L Q) := by
  unfold w_X10_giveRests at hw
  refine MX_of (by decide) [.ref w, .int p0, junk, junk, junk] (by rfl) (by exact Nat.le_of_ble_eq_true rfl) ?_
  show X (FM (QV L Q)) RX10 cX10_giveRests none 5 "giveRests" 1 0 0 (L, M) 0 [.ref w, .int p0, junk, junk, junk] []
  refine X_iconst 1 (v := 0) dX10_giveRests_0 rfl rfl ?_
  refine X_istore_n 2 (ls' := [.ref w, .int p0, .int (0 : Int32), junk, junk]) dX10_giveRests_1 rfl rfl (Nat.le_of_ble_eq_true rfl) rfl (Or.inr (Or.inr ⟨_, rfl, rfl⟩)) ?_
  exact LP2_s hw (G := fun v2 M => X (FM (QV L Q)) RX10 cX10_giveRests none 5 "giveRests" 1 0 0 (L, M) 2 [.ref w, .int p0, .int v2, junk, junk] []) (fun K2 v2 M hb hK => t_X10_giveRests_2 hL hhw hb  hK)
def w_X10_divideIssue_129 (L : Lay) (w : Nat) (p0 : Int32) (K62 : Int32 → Int32 → Int32 → Mem → Prop) (v2 : Int32) (v3 : Int32) (v4 : Int32) (r5 : Nat) (y0 : Int32) (s1 : Nat) (M : Mem) (Q : Mem → Prop) : Prop := ∀ M20 : Mem, M20 = si M s1 13 y0 → (∀ x21 : Int32, x21 = (v3 - (mi M20 r5 8)) → (∀ x22 : Int32, x22 = v4 + (1 : Int32) → (K62 v2 x21 x22 M20)))
set_option maxRecDepth 20000 in
theorem t_X10_divideIssue_129 {L : Lay} (hL : LY L) {w : Nat} {p0 : Int32} (hhw : IsW w) {K62 : Int32 → Int32 → Int32 → Mem → Prop} {v2 : Int32} {v3 : Int32} {v4 : Int32} {r5 : Nat} {y0 : Int32} {s1 : Nat} (hr5 : OB L r5 3) (hs1 : OB L s1 3) {M : Mem} {Q : Mem → Prop} (hw : w_X10_divideIssue_129 L w p0 K62 v2 v3 v4 r5 y0 s1 M Q) (hK62 : ∀ (v2 : Int32) (v3 : Int32) (v4 : Int32) (M : Mem), K62 v2 v3 v4 M → X (FM (QV L Q)) RX10 cX10_divideIssue none 6 "divideIssue" 2 0 0 (L, M) 62 [.ref w, .int p0, .int v2, .int v3, .int v4, junk] []) : X (FM (QV L Q)) RX10 cX10_divideIssue none 6 "divideIssue" 2 0 0 (L, M) 129 [.ref w, .int p0, .int v2, .int v3, .int v4, .ref r5] [.int y0, .ref s1] := by
  unfold w_X10_divideIssue_129 at hw
  refine X_putI 132 f_X10_216 (Or.inl rfl) hs1 rfl dX10_divideIssue_129 rfl ?_
  refine X_nmM (fun M20 eM20 => ?_)
  have hw := hw M20 eM20
  refine X_iload_n 133 dX10_divideIssue_132 rfl rfl ?_
  refine X_aload 135 dX10_divideIssue_133 rfl rfl ?_
  refine X_getI 138 f_X10_206 hr5 rfl dX10_divideIssue_135 rfl ?_
  refine X_isub 139 dX10_divideIssue_138 rfl ?_
  refine X_nmI (fun x21 ex21 => ?_)
  have hw := hw x21 ex21
  refine X_istore_n 140 (ls' := [.ref w, .int p0, .int v2, .int x21, .int v4, .ref r5]) dX10_divideIssue_139 rfl rfl (Nat.le_of_ble_eq_true rfl) rfl (Or.inr (Or.inr ⟨_, rfl, rfl⟩)) ?_
  obtain ⟨x22, ex22⟩ : ∃ x22 : Int32, x22 = v4 + (1 : Int32) := ⟨_, rfl⟩
  have hw := hw x22 ex22
  refine X_iinc 143 (v := x22) (ls' := [.ref w, .int p0, .int v2, .int x21, .int x22, .ref r5]) dX10_divideIssue_140 rfl rfl (by rw [ex22]; rfl) rfl (Or.inr (Or.inr ⟨_, rfl, rfl⟩)) ?_
  refine X_goto 62 dX10_divideIssue_143 rfl ?_
  refine X_weak (ls' := [.ref w, .int p0, .int v2, .int x21, .int x22, junk]) (WK.s (WK.s (WK.s (WK.s (WK.s (WK.j WK.n)))))) (Nat.le_of_ble_eq_true rfl) ?_
  exact hK62 v2 x21 x22 M20 hw
def w_X10_divideIssue_62 (L : Lay) (w : Nat) (p0 : Int32) (K62 : Int32 → Int32 → Int32 → Mem → Prop) (v2 : Int32) (v3 : Int32) (v4 : Int32) (M : Mem) (Q : Mem → Prop) : Prop := ((v4 < (mi M w 2) → (vp_in v4 10 ∧ (¬ p0 = 0 ∧ (∀ M16 : Mem, M16 = si M (oA w (tn v4)) 8 (((mi M w 13) * (mi M (oA w (tn v4)) 12)) / p0) → ((((mi M16 (oA w (tn v4)) 12) = 0 → (w_X10_divideIssue_129 L w p0 K62 v2 v3 v4 (oA w (tn v4)) (-1 : Int32) (oA w (tn v4)) M16 Q)) ∧ (¬ (mi M16 (oA w (tn v4)) 12) = 0 → (w_X10_claimOf L (oA w (tn v4)) v2 (jrem ((mi M16 w 13) * (mi M16 (oA w (tn v4)) 12)) p0) M16 (fun x19 M18 => (w_X10_divideIssue_129 L w p0 K62 v2 v3 v4 (oA w (tn v4)) x19 (oA w (tn v4)) M18 Q)))))))))) ∧ (¬ v4 < (mi M w 2) → (w_X10_giveRests L w v3 M (fun M13 => (Q M13)))))
set_option maxRecDepth 20000 in
theorem t_X10_divideIssue_62 {L : Lay} (hL : LY L) {w : Nat} {p0 : Int32} (hhw : IsW w) {K62 : Int32 → Int32 → Int32 → Mem → Prop} {v2 : Int32} {v3 : Int32} {v4 : Int32}  {M : Mem} {Q : Mem → Prop} (hw : w_X10_divideIssue_62 L w p0 K62 v2 v3 v4 M Q) (hK62 : ∀ (v2 : Int32) (v3 : Int32) (v4 : Int32) (M : Mem), K62 v2 v3 v4 M → X (FM (QV L Q)) RX10 cX10_divideIssue none 6 "divideIssue" 2 0 0 (L, M) 62 [.ref w, .int p0, .int v2, .int v3, .int v4, junk] []) : X (FM (QV L Q)) RX10 cX10_divideIssue none 6 "divideIssue" 2 0 0 (L, M) 62 [.ref w, .int p0, .int v2, .int v3, .int v4, junk] [] := by
  unfold w_X10_divideIssue_62 at hw
  refine X_iload 64 dX10_divideIssue_62 rfl rfl ?_
  refine X_aload_n 65 dX10_divideIssue_64 rfl rfl ?_
  refine X_getI 68 f_X10_65 (hL.W hhw) rfl dX10_divideIssue_65 rfl ?_
  refine X_icmp_ge 146 71 dX10_divideIssue_68 rfl rfl (fun c12 => ?_) (fun c12 => ?_)
  · have hw := hw.2 c12
    refine X_aload_n 147 dX10_divideIssue_146 rfl rfl ?_
    refine X_iload_n 148 dX10_divideIssue_147 rfl rfl ?_
    refine Y_cVV 151 (as := [.int v3]) m_X10_219 (s_X10_giveRests hL hhw hw) (hL.W hhw) rfl (by decide) (Nat.le_of_ble_eq_true rfl) dX10_divideIssue_148 rfl rfl (fun M13 hw => ?_)
    exact X_retV rfl dX10_divideIssue_151 ⟨_, rfl, rfl, hw⟩
  · have hw := hw.1 c12
    refine X_aload_n 72 dX10_divideIssue_71 rfl rfl ?_
    refine X_getR 75 f_X10_11 (hL.W hhw) rfl (hL.wrr hhw (k := 0) (x := 1) rfl rfl (by decide)) dX10_divideIssue_72 rfl ?_
    refine X_iload 77 dX10_divideIssue_75 rfl rfl ?_
    obtain ⟨c14, hw⟩ := hw
    refine X_aald 78 (Nat.le_refl 5) (by decide) (hL.war hhw (k := 1) (t := 5) (n := 10) rfl rfl (by decide)) c14 (hL.ownr hhw (vp_lt c14)) dX10_divideIssue_77 rfl ?_
    refine X_astore 80 (ls' := [.ref w, .int p0, .int v2, .int v3, .int v4, .ref ((oA w (tn v4)))]) dX10_divideIssue_78 rfl (Nat.le_of_ble_eq_true rfl) rfl (Or.inr (Or.inr ⟨_, rfl, rfl⟩)) ?_
    refine X_aload 82 dX10_divideIssue_80 rfl rfl ?_
    refine X_aload_n 83 dX10_divideIssue_82 rfl rfl ?_
    refine X_getI 86 f_X10_94 (hL.W hhw) rfl dX10_divideIssue_83 rfl ?_
    refine X_aload 88 dX10_divideIssue_86 rfl rfl ?_
    refine X_getI 91 f_X10_204 (hL.own hhw (vp_lt c14)) rfl dX10_divideIssue_88 rfl ?_
    refine X_imul 92 dX10_divideIssue_91 rfl ?_
    refine X_iload_n 93 dX10_divideIssue_92 rfl rfl ?_
    obtain ⟨c15, hw⟩ := hw
    refine X_idiv 94 dX10_divideIssue_93 rfl c15 ?_
    refine X_putI 97 f_X10_206 (Or.inl rfl) (hL.own hhw (vp_lt c14)) rfl dX10_divideIssue_94 rfl ?_
    refine X_nmM (fun M16 eM16 => ?_)
    have hw := hw M16 eM16
    refine X_aload 99 dX10_divideIssue_97 rfl rfl ?_
    refine X_aload 101 dX10_divideIssue_99 rfl rfl ?_
    refine X_getI 104 f_X10_204 (hL.own hhw (vp_lt c14)) rfl dX10_divideIssue_101 rfl ?_
    refine X_if_ne 111 107 (y := 0) dX10_divideIssue_104 rfl rfl (fun c17 => ?_) (fun c17 => ?_)
    · have hw := hw.2 c17
      refine X_aload 113 dX10_divideIssue_111 rfl rfl ?_
      refine X_iload_n 114 dX10_divideIssue_113 rfl rfl ?_
      refine X_aload_n 115 dX10_divideIssue_114 rfl rfl ?_
      refine X_getI 118 f_X10_94 (hL.W hhw) rfl dX10_divideIssue_115 rfl ?_
      refine X_aload 120 dX10_divideIssue_118 rfl rfl ?_
      refine X_getI 123 f_X10_204 (hL.own hhw (vp_lt c14)) rfl dX10_divideIssue_120 rfl ?_
      refine X_imul 124 dX10_divideIssue_123 rfl ?_
      refine X_iload_n 125 dX10_divideIssue_124 rfl rfl ?_
      refine Y_irem 126 dX10_divideIssue_125 rfl c15 ?_
      refine Y_cSI 129 (as := [.ref ((oA w (tn v4))), .int v2, .int ((jrem ((mi M16 w 13) * (mi M16 (oA w (tn v4)) 12)) p0))]) m_X10_212 (s_X10_claimOf hL (hL.own hhw (vp_lt c14)) hw) rfl (by decide) (Nat.le_of_ble_eq_true rfl) dX10_divideIssue_126 rfl rfl (fun x19 M18 hw => ?_)
      exact t_X10_divideIssue_129 hL hhw (hL.own hhw (vp_lt c14)) (hL.own hhw (vp_lt c14)) hw hK62
    · have hw := hw.1 c17
      refine X_iconst 108 (v := -1) dX10_divideIssue_107 rfl rfl ?_
      refine X_goto 129 dX10_divideIssue_108 rfl ?_
      exact t_X10_divideIssue_129 hL hhw (hL.own hhw (vp_lt c14)) (hL.own hhw (vp_lt c14)) hw hK62
def w_X10_divideIssue_53 (L : Lay) (w : Nat) (p0 : Int32)  (y0 : Int32) (M : Mem) (Q : Mem → Prop) : Prop := ∀ x7 : Int32, x7 = (mi M w 13) → (LP4 (fun K62 v2 v3 v4 M => w_X10_divideIssue_62 L w p0  K62 v2 v3 v4 M Q) y0 x7 (0 : Int32) M)
set_option maxRecDepth 20000 in
theorem t_X10_divideIssue_53 {L : Lay} (hL : LY L) {w : Nat} {p0 : Int32} (hhw : IsW w)  {y0 : Int32}  {M : Mem} {Q : Mem → Prop} (hw : w_X10_divideIssue_53 L w p0  y0 M Q)  : X (FM (QV L Q)) RX10 cX10_divideIssue none 6 "divideIssue" 2 0 0 (L, M) 53 [.ref w, .int p0, junk, junk, junk, junk] [.int y0] := by
  unfold w_X10_divideIssue_53 at hw
  refine X_istore_n 54 (ls' := [.ref w, .int p0, .int y0, junk, junk, junk]) dX10_divideIssue_53 rfl rfl (Nat.le_of_ble_eq_true rfl) rfl (Or.inr (Or.inr ⟨_, rfl, rfl⟩)) ?_
  refine X_aload_n 55 dX10_divideIssue_54 rfl rfl ?_
  refine X_getI 58 f_X10_94 (hL.W hhw) rfl dX10_divideIssue_55 rfl ?_
  refine X_nmI (fun x7 ex7 => ?_)
  have hw := hw x7 ex7
  refine X_istore_n 59 (ls' := [.ref w, .int p0, .int y0, .int x7, junk, junk]) dX10_divideIssue_58 rfl rfl (Nat.le_of_ble_eq_true rfl) rfl (Or.inr (Or.inr ⟨_, rfl, rfl⟩)) ?_
  refine X_iconst 60 (v := 0) dX10_divideIssue_59 rfl rfl ?_
  refine X_istore 62 (ls' := [.ref w, .int p0, .int y0, .int x7, .int (0 : Int32), junk]) dX10_divideIssue_60 rfl (Nat.le_of_ble_eq_true rfl) rfl (Or.inr (Or.inr ⟨_, rfl, rfl⟩)) ?_
  exact LP4_s hw (G := fun v2 v3 v4 M => X (FM (QV L Q)) RX10 cX10_divideIssue none 6 "divideIssue" 2 0 0 (L, M) 62 [.ref w, .int p0, .int v2, .int v3, .int v4, junk] []) (fun K62 v2 v3 v4 M hb hK => t_X10_divideIssue_62 hL hhw hb  hK)
def w_X10_divideIssue_6 (L : Lay) (w : Nat) (p0 : Int32) (K6 : Int32 → Mem → Prop) (v2 : Int32) (M : Mem) (Q : Mem → Prop) : Prop := ((v2 < (mi M w 2) → (vp_in v2 10 ∧ (∀ M10 : Mem, M10 = si M (oA w (tn v2)) 8 (0 : Int32) → (∀ x11 : Int32, x11 = v2 + (1 : Int32) → (K6 x11 M10))))) ∧ (¬ v2 < (mi M w 2) → (Q M)))
set_option maxRecDepth 20000 in
theorem t_X10_divideIssue_6 {L : Lay} (hL : LY L) {w : Nat} {p0 : Int32} (hhw : IsW w) {K6 : Int32 → Mem → Prop} {v2 : Int32}  {M : Mem} {Q : Mem → Prop} (hw : w_X10_divideIssue_6 L w p0 K6 v2 M Q) (hK6 : ∀ (v2 : Int32) (M : Mem), K6 v2 M → X (FM (QV L Q)) RX10 cX10_divideIssue none 6 "divideIssue" 2 0 0 (L, M) 6 [.ref w, junk, .int v2, junk, junk, junk] []) : X (FM (QV L Q)) RX10 cX10_divideIssue none 6 "divideIssue" 2 0 0 (L, M) 6 [.ref w, junk, .int v2, junk, junk, junk] [] := by
  unfold w_X10_divideIssue_6 at hw
  refine X_iload_n 7 dX10_divideIssue_6 rfl rfl ?_
  refine X_aload_n 8 dX10_divideIssue_7 rfl rfl ?_
  refine X_getI 11 f_X10_65 (hL.W hhw) rfl dX10_divideIssue_8 rfl ?_
  refine X_icmp_ge 30 14 dX10_divideIssue_11 rfl rfl (fun c8 => ?_) (fun c8 => ?_)
  · have hw := hw.2 c8
    exact X_retV rfl dX10_divideIssue_30 ⟨_, rfl, rfl, hw⟩
  · have hw := hw.1 c8
    refine X_aload_n 15 dX10_divideIssue_14 rfl rfl ?_
    refine X_getR 18 f_X10_11 (hL.W hhw) rfl (hL.wrr hhw (k := 0) (x := 1) rfl rfl (by decide)) dX10_divideIssue_15 rfl ?_
    refine X_iload_n 19 dX10_divideIssue_18 rfl rfl ?_
    obtain ⟨c9, hw⟩ := hw
    refine X_aald 20 (Nat.le_refl 5) (by decide) (hL.war hhw (k := 1) (t := 5) (n := 10) rfl rfl (by decide)) c9 (hL.ownr hhw (vp_lt c9)) dX10_divideIssue_19 rfl ?_
    refine X_iconst 21 (v := 0) dX10_divideIssue_20 rfl rfl ?_
    refine X_putI 24 f_X10_206 (Or.inl rfl) (hL.own hhw (vp_lt c9)) rfl dX10_divideIssue_21 rfl ?_
    refine X_nmM (fun M10 eM10 => ?_)
    have hw := hw M10 eM10
    obtain ⟨x11, ex11⟩ : ∃ x11 : Int32, x11 = v2 + (1 : Int32) := ⟨_, rfl⟩
    have hw := hw x11 ex11
    refine X_iinc 27 (v := x11) (ls' := [.ref w, junk, .int x11, junk, junk, junk]) dX10_divideIssue_24 rfl rfl (by rw [ex11]; rfl) rfl (Or.inr (Or.inl rfl)) ?_
    refine X_goto 6 dX10_divideIssue_27 rfl ?_
    exact hK6 x11 M10 hw
def w_X10_divideIssue (L : Lay) (w : Nat) (p0 : Int32) (M : Mem) (Q : Mem → Prop) : Prop := ((p0 = 0 → (LP2 (fun K6 v2 M => w_X10_divideIssue_6 L w p0  K6 v2 M Q) (0 : Int32) M)) ∧ (¬ p0 = 0 → (∃ a2 : Nat, (mp M w 9) = some a2 ∧ OB L a2 1 ∧ (w_X1_isVoid L a2 (4 : Int32) M (fun x4 M3 => (((x4 = 0 → (∃ a6 : Nat, (mp M3 w 11) = some a6 ∧ OB L a6 4 ∧ (w_X10_divideIssue_53 L w p0  (mi M3 a6 5) M3 Q))) ∧ (¬ x4 = 0 → (w_X10_divideIssue_53 L w p0  (-1 : Int32) M3 Q)))))))))
set_option maxRecDepth 20000 in
theorem s_X10_divideIssue {L : Lay} (hL : LY L) {w : Nat} {p0 : Int32} (hhw : IsW w) {M : Mem} {Q : Mem → Prop} (hw : w_X10_divideIssue L w p0 M Q) : MX yX10_divideIssue cX10_divideIssue none 6 2 0 0 [.ref w, .int p0] (L, M) (QV L Q) := by
  unfold w_X10_divideIssue at hw
  refine MX_of (by decide) [.ref w, .int p0, junk, junk, junk, junk] (by rfl) (by exact Nat.le_of_ble_eq_true rfl) ?_
  show X (FM (QV L Q)) RX10 cX10_divideIssue none 6 "divideIssue" 2 0 0 (L, M) 0 [.ref w, .int p0, junk, junk, junk, junk] []
  refine X_iload_n 1 dX10_divideIssue_0 rfl rfl ?_
  refine X_if_ne 31 4 (y := 0) dX10_divideIssue_1 rfl rfl (fun c1 => ?_) (fun c1 => ?_)
  · have hw := hw.2 c1
    refine X_aload_n 32 dX10_divideIssue_31 rfl rfl ?_
    refine X_getQ 35 f_X10_39 (hL.W hhw) rfl dX10_divideIssue_32 rfl ?_
    obtain ⟨a2, ea2, ha2, hw⟩ := hw
    refine X_rfS ea2 ?_
    refine X_iconst 36 (v := 4) dX10_divideIssue_35 rfl rfl ?_
    refine Y_cVZ 39 (as := [.int (4 : Int32)]) m_X10_101 (s_X1_isVoid hL ha2 hw) ha2 rfl (by decide) (Nat.le_of_ble_eq_true rfl) dX10_divideIssue_36 rfl rfl (fun x4 M3 bx4 hw => ?_)
    refine X_if_eq 46 42 (y := 0) dX10_divideIssue_39 rfl rfl (fun c5 => ?_) (fun c5 => ?_)
    · have hw := hw.1 c5
      refine X_aload_n 47 dX10_divideIssue_46 rfl rfl ?_
      refine X_getQ 50 f_X10_87 (hL.W hhw) rfl dX10_divideIssue_47 rfl ?_
      obtain ⟨a6, ea6, ha6, hw⟩ := hw
      refine X_rfS ea6 ?_
      refine X_getI 53 f_X10_209 ha6 rfl dX10_divideIssue_50 rfl ?_
      exact t_X10_divideIssue_53 hL hhw  hw 
    · have hw := hw.2 c5
      refine X_iconst 43 (v := -1) dX10_divideIssue_42 rfl rfl ?_
      refine X_goto 53 dX10_divideIssue_43 rfl ?_
      exact t_X10_divideIssue_53 hL hhw  hw 
  · have hw := hw.1 c1
    refine X_iconst 5 (v := 0) dX10_divideIssue_4 rfl rfl ?_
    refine X_istore_n 6 (ls' := [.ref w, .int p0, .int (0 : Int32), junk, junk, junk]) dX10_divideIssue_5 rfl rfl (Nat.le_of_ble_eq_true rfl) rfl (Or.inr (Or.inr ⟨_, rfl, rfl⟩)) ?_
    refine X_weak (ls' := [.ref w, junk, .int (0 : Int32), junk, junk, junk]) (WK.s (WK.j (WK.s (WK.s (WK.s (WK.s WK.n)))))) (Nat.le_of_ble_eq_true rfl) ?_
    exact LP2_s hw (G := fun v2 M => X (FM (QV L Q)) RX10 cX10_divideIssue none 6 "divideIssue" 2 0 0 (L, M) 6 [.ref w, junk, .int v2, junk, junk, junk] []) (fun K6 v2 M hb hK => t_X10_divideIssue_6 hL hhw hb  hK)
def w_X10_lineUp_90 (L : Lay) (w : Nat) (K4 : Int32 → Int32 → Mem → Prop) (v1 : Int32) (v2 : Int32) (v3 : Int32) (M : Mem) (Q : Int32 → Mem → Prop) : Prop := vp_in v3 8 ∧ (∀ M18 : Mem, M18 = si M (w + 8) (tn v3) v2 → (∀ x19 : Int32, x19 = v1 + (1 : Int32) → (∀ x20 : Int32, x20 = v2 + (1 : Int32) → (K4 x19 x20 M18))))
set_option maxRecDepth 20000 in
theorem t_X10_lineUp_90 {L : Lay} (hL : LY L) {w : Nat} (hhw : IsW w) {K4 : Int32 → Int32 → Mem → Prop} {v1 : Int32} {v2 : Int32} {v3 : Int32}  {M : Mem} {Q : Int32 → Mem → Prop} (hw : w_X10_lineUp_90 L w K4 v1 v2 v3 M Q) (hK4 : ∀ (v1 : Int32) (v2 : Int32) (M : Mem), K4 v1 v2 M → X (FM (QI L Q)) RX10 cX10_lineUp (some .int) 4 "lineUp" 2 0 0 (L, M) 4 [.ref w, .int v1, .int v2, junk] []) : X (FM (QI L Q)) RX10 cX10_lineUp (some .int) 4 "lineUp" 2 0 0 (L, M) 90 [.ref w, .int v1, .int v2, .int v3] [] := by
  unfold w_X10_lineUp_90 at hw
  refine X_aload_n 91 dX10_lineUp_90 rfl rfl ?_
  refine X_getR 94 f_X10_56 (hL.W hhw) rfl (hL.wrr hhw (k := 0) (x := 8) rfl rfl (by decide)) dX10_lineUp_91 rfl ?_
  refine X_iload_n 95 dX10_lineUp_94 rfl rfl ?_
  refine X_iload_n 96 dX10_lineUp_95 rfl rfl ?_
  obtain ⟨c17, hw⟩ := hw
  refine Y_iast 97 (k := (tn v3)) (hL.war hhw (k := 8) (t := 0) (n := 8) rfl rfl (by decide)) c17 rfl dX10_lineUp_96 rfl ?_
  refine X_nmM (fun M18 eM18 => ?_)
  have hw := hw M18 eM18
  obtain ⟨x19, ex19⟩ : ∃ x19 : Int32, x19 = v1 + (1 : Int32) := ⟨_, rfl⟩
  have hw := hw x19 ex19
  refine X_iinc 100 (v := x19) (ls' := [.ref w, .int x19, .int v2, .int v3]) dX10_lineUp_97 rfl rfl (by rw [ex19]; rfl) rfl (Or.inr (Or.inr ⟨_, rfl, rfl⟩)) ?_
  obtain ⟨x20, ex20⟩ : ∃ x20 : Int32, x20 = v2 + (1 : Int32) := ⟨_, rfl⟩
  have hw := hw x20 ex20
  refine X_iinc 103 (v := x20) (ls' := [.ref w, .int x19, .int x20, .int v3]) dX10_lineUp_100 rfl rfl (by rw [ex20]; rfl) rfl (Or.inr (Or.inr ⟨_, rfl, rfl⟩)) ?_
  refine X_goto 4 dX10_lineUp_103 rfl ?_
  refine X_weak (ls' := [.ref w, .int x19, .int x20, junk]) (WK.s (WK.s (WK.s (WK.j WK.n)))) (Nat.le_of_ble_eq_true rfl) ?_
  exact hK4 x19 x20 M18 hw
def w_X10_lineUp_38 (L : Lay) (w : Nat) (K4 : Int32 → Int32 → Mem → Prop) (K38 : Int32 → Int32 → Int32 → Mem → Prop) (v1 : Int32) (v2 : Int32) (v3 : Int32) (M : Mem) (Q : Int32 → Mem → Prop) : Prop := ((0 < v3 → (vp_in (v3 - (1 : Int32)) 8 ∧ (vp_in (mi M (w + 8) (tn (v3 - (1 : Int32)))) 8 ∧ (vp_in v2 8 ∧ ((((mi M (sA w (tn v2)) 4) < (mi M (sA w (tn (mi M (w + 8) (tn (v3 - (1 : Int32)))))) 4) → (vp_in v3 8 ∧ (∀ M15 : Mem, M15 = si M (w + 8) (tn v3) (mi M (w + 8) (tn (v3 - (1 : Int32)))) → (∀ x16 : Int32, x16 = v3 + (-1 : Int32) → (K38 v1 v2 x16 M15))))) ∧ (¬ (mi M (sA w (tn v2)) 4) < (mi M (sA w (tn (mi M (w + 8) (tn (v3 - (1 : Int32)))))) 4) → (w_X10_lineUp_90 L w K4 v1 v2 v3 M Q)))))))) ∧ (¬ 0 < v3 → (w_X10_lineUp_90 L w K4 v1 v2 v3 M Q)))
set_option maxRecDepth 20000 in
theorem t_X10_lineUp_38 {L : Lay} (hL : LY L) {w : Nat} (hhw : IsW w) {K4 : Int32 → Int32 → Mem → Prop} {K38 : Int32 → Int32 → Int32 → Mem → Prop} {v1 : Int32} {v2 : Int32} {v3 : Int32}  {M : Mem} {Q : Int32 → Mem → Prop} (hw : w_X10_lineUp_38 L w K4 K38 v1 v2 v3 M Q) (hK4 : ∀ (v1 : Int32) (v2 : Int32) (M : Mem), K4 v1 v2 M → X (FM (QI L Q)) RX10 cX10_lineUp (some .int) 4 "lineUp" 2 0 0 (L, M) 4 [.ref w, .int v1, .int v2, junk] []) (hK38 : ∀ (v1 : Int32) (v2 : Int32) (v3 : Int32) (M : Mem), K38 v1 v2 v3 M → X (FM (QI L Q)) RX10 cX10_lineUp (some .int) 4 "lineUp" 2 0 0 (L, M) 38 [.ref w, .int v1, .int v2, .int v3] []) : X (FM (QI L Q)) RX10 cX10_lineUp (some .int) 4 "lineUp" 2 0 0 (L, M) 38 [.ref w, .int v1, .int v2, .int v3] [] := by
  unfold w_X10_lineUp_38 at hw
  refine X_iload_n 39 dX10_lineUp_38 rfl rfl ?_
  refine X_if_le 90 42 (y := 0) dX10_lineUp_39 rfl rfl (fun c9 => ?_) (fun c9 => ?_)
  · have hw := hw.2 c9
    exact t_X10_lineUp_90 hL hhw  hw hK4
  · have hw := hw.1 c9
    refine X_aload_n 43 dX10_lineUp_42 rfl rfl ?_
    refine X_getR 46 f_X10_19 (hL.W hhw) rfl (hL.wrr hhw (k := 0) (x := 2) rfl rfl (by decide)) dX10_lineUp_43 rfl ?_
    refine X_aload_n 47 dX10_lineUp_46 rfl rfl ?_
    refine X_getR 50 f_X10_56 (hL.W hhw) rfl (hL.wrr hhw (k := 0) (x := 8) rfl rfl (by decide)) dX10_lineUp_47 rfl ?_
    refine X_iload_n 51 dX10_lineUp_50 rfl rfl ?_
    refine X_iconst 52 (v := 1) dX10_lineUp_51 rfl rfl ?_
    refine X_isub 53 dX10_lineUp_52 rfl ?_
    obtain ⟨c10, hw⟩ := hw
    refine Y_iald 54 (k := (tn (v3 - (1 : Int32)))) (hL.war hhw (k := 8) (t := 0) (n := 8) rfl rfl (by decide)) c10 rfl dX10_lineUp_53 rfl ?_
    obtain ⟨c11, hw⟩ := hw
    refine X_aald 55 (by decide) (by decide) (hL.war hhw (k := 2) (t := 6) (n := 8) rfl rfl (by decide)) c11 (hL.shpr hhw (vp_lt c11)) dX10_lineUp_54 rfl ?_
    refine X_getI 58 f_X10_239 (hL.shp hhw (vp_lt c11)).1 rfl dX10_lineUp_55 rfl ?_
    refine X_aload_n 59 dX10_lineUp_58 rfl rfl ?_
    refine X_getR 62 f_X10_19 (hL.W hhw) rfl (hL.wrr hhw (k := 0) (x := 2) rfl rfl (by decide)) dX10_lineUp_59 rfl ?_
    refine X_iload_n 63 dX10_lineUp_62 rfl rfl ?_
    obtain ⟨c12, hw⟩ := hw
    refine X_aald 64 (by decide) (by decide) (hL.war hhw (k := 2) (t := 6) (n := 8) rfl rfl (by decide)) c12 (hL.shpr hhw (vp_lt c12)) dX10_lineUp_63 rfl ?_
    refine X_getI 67 f_X10_239 (hL.shp hhw (vp_lt c12)).1 rfl dX10_lineUp_64 rfl ?_
    refine X_icmp_le 90 70 dX10_lineUp_67 rfl rfl (fun c13 => ?_) (fun c13 => ?_)
    · have hw := hw.2 c13
      exact t_X10_lineUp_90 hL hhw  hw hK4
    · have hw := hw.1 c13
      refine X_aload_n 71 dX10_lineUp_70 rfl rfl ?_
      refine X_getR 74 f_X10_56 (hL.W hhw) rfl (hL.wrr hhw (k := 0) (x := 8) rfl rfl (by decide)) dX10_lineUp_71 rfl ?_
      refine X_iload_n 75 dX10_lineUp_74 rfl rfl ?_
      refine X_aload_n 76 dX10_lineUp_75 rfl rfl ?_
      refine X_getR 79 f_X10_56 (hL.W hhw) rfl (hL.wrr hhw (k := 0) (x := 8) rfl rfl (by decide)) dX10_lineUp_76 rfl ?_
      refine X_iload_n 80 dX10_lineUp_79 rfl rfl ?_
      refine X_iconst 81 (v := 1) dX10_lineUp_80 rfl rfl ?_
      refine X_isub 82 dX10_lineUp_81 rfl ?_
      refine Y_iald 83 (k := (tn (v3 - (1 : Int32)))) (hL.war hhw (k := 8) (t := 0) (n := 8) rfl rfl (by decide)) c10 rfl dX10_lineUp_82 rfl ?_
      obtain ⟨c14, hw⟩ := hw
      refine Y_iast 84 (k := (tn v3)) (hL.war hhw (k := 8) (t := 0) (n := 8) rfl rfl (by decide)) c14 rfl dX10_lineUp_83 rfl ?_
      refine X_nmM (fun M15 eM15 => ?_)
      have hw := hw M15 eM15
      obtain ⟨x16, ex16⟩ : ∃ x16 : Int32, x16 = v3 + (-1 : Int32) := ⟨_, rfl⟩
      have hw := hw x16 ex16
      refine X_iinc 87 (v := x16) (ls' := [.ref w, .int v1, .int v2, .int x16]) dX10_lineUp_84 rfl rfl (by rw [ex16]; rfl) rfl (Or.inr (Or.inr ⟨_, rfl, rfl⟩)) ?_
      refine X_goto 38 dX10_lineUp_87 rfl ?_
      exact hK38 v1 v2 x16 M15 hw
def w_X10_lineUp_4 (L : Lay) (w : Nat) (K4 : Int32 → Int32 → Mem → Prop) (v1 : Int32) (v2 : Int32) (M : Mem) (Q : Int32 → Mem → Prop) : Prop := ((v2 < (mi M w 4) → (vp_in v2 8 ∧ ((((mi M (sA w (tn v2)) 2) = 0 → (w_X9_hasRoom L (sA w (tn v2)) M (fun x6 M5 => (((x6 = 0 → (∀ x8 : Int32, x8 = v2 + (1 : Int32) → (K4 v1 x8 M5))) ∧ (¬ x6 = 0 → (LP4 (fun K38 v1 v2 v3 M => w_X10_lineUp_38 L w K4 K38 v1 v2 v3 M Q) v1 v2 v1 M5))))))) ∧ (¬ (mi M (sA w (tn v2)) 2) = 0 → (∀ x4 : Int32, x4 = v2 + (1 : Int32) → (K4 v1 x4 M))))))) ∧ (¬ v2 < (mi M w 4) → (Q v1 M)))
set_option maxRecDepth 20000 in
theorem t_X10_lineUp_4 {L : Lay} (hL : LY L) {w : Nat} (hhw : IsW w) {K4 : Int32 → Int32 → Mem → Prop} {v1 : Int32} {v2 : Int32}  {M : Mem} {Q : Int32 → Mem → Prop} (hw : w_X10_lineUp_4 L w K4 v1 v2 M Q) (hK4 : ∀ (v1 : Int32) (v2 : Int32) (M : Mem), K4 v1 v2 M → X (FM (QI L Q)) RX10 cX10_lineUp (some .int) 4 "lineUp" 2 0 0 (L, M) 4 [.ref w, .int v1, .int v2, junk] []) : X (FM (QI L Q)) RX10 cX10_lineUp (some .int) 4 "lineUp" 2 0 0 (L, M) 4 [.ref w, .int v1, .int v2, junk] [] := by
  unfold w_X10_lineUp_4 at hw
  refine X_iload_n 5 dX10_lineUp_4 rfl rfl ?_
  refine X_aload_n 6 dX10_lineUp_5 rfl rfl ?_
  refine X_getI 9 f_X10_72 (hL.W hhw) rfl dX10_lineUp_6 rfl ?_
  refine X_icmp_ge 106 12 dX10_lineUp_9 rfl rfl (fun c1 => ?_) (fun c1 => ?_)
  · have hw := hw.2 c1
    refine X_iload_n 107 dX10_lineUp_106 rfl rfl ?_
    exact X_ret rfl rfl dX10_lineUp_107 ⟨_, _, rfl, rfl, hw⟩
  · have hw := hw.1 c1
    refine X_aload_n 13 dX10_lineUp_12 rfl rfl ?_
    refine X_getR 16 f_X10_19 (hL.W hhw) rfl (hL.wrr hhw (k := 0) (x := 2) rfl rfl (by decide)) dX10_lineUp_13 rfl ?_
    refine X_iload_n 17 dX10_lineUp_16 rfl rfl ?_
    obtain ⟨c2, hw⟩ := hw
    refine X_aald 18 (by decide) (by decide) (hL.war hhw (k := 2) (t := 6) (n := 8) rfl rfl (by decide)) c2 (hL.shpr hhw (vp_lt c2)) dX10_lineUp_17 rfl ?_
    refine X_getI 21 f_X10_174 (hL.shp hhw (vp_lt c2)).1 rfl dX10_lineUp_18 rfl ?_
    refine X_if_ne 100 24 (y := 0) dX10_lineUp_21 rfl rfl (fun c3 => ?_) (fun c3 => ?_)
    · have hw := hw.2 c3
      obtain ⟨x4, ex4⟩ : ∃ x4 : Int32, x4 = v2 + (1 : Int32) := ⟨_, rfl⟩
      have hw := hw x4 ex4
      refine X_iinc 103 (v := x4) (ls' := [.ref w, .int v1, .int x4, junk]) dX10_lineUp_100 rfl rfl (by rw [ex4]; rfl) rfl (Or.inr (Or.inr ⟨_, rfl, rfl⟩)) ?_
      refine X_goto 4 dX10_lineUp_103 rfl ?_
      exact hK4 v1 x4 M hw
    · have hw := hw.1 c3
      refine X_aload_n 25 dX10_lineUp_24 rfl rfl ?_
      refine X_getR 28 f_X10_19 (hL.W hhw) rfl (hL.wrr hhw (k := 0) (x := 2) rfl rfl (by decide)) dX10_lineUp_25 rfl ?_
      refine X_iload_n 29 dX10_lineUp_28 rfl rfl ?_
      refine X_aald 30 (by decide) (by decide) (hL.war hhw (k := 2) (t := 6) (n := 8) rfl rfl (by decide)) c2 (hL.shpr hhw (vp_lt c2)) dX10_lineUp_29 rfl ?_
      refine Y_cVZ 33 (as := []) m_X10_235 (s_X9_hasRoom hL (hL.shp hhw (vp_lt c2)) hw) (hL.shp hhw (vp_lt c2)).1 rfl (by decide) (Nat.le_of_ble_eq_true rfl) dX10_lineUp_30 rfl rfl (fun x6 M5 bx6 hw => ?_)
      refine X_if_eq 100 36 (y := 0) dX10_lineUp_33 rfl rfl (fun c7 => ?_) (fun c7 => ?_)
      · have hw := hw.1 c7
        obtain ⟨x8, ex8⟩ : ∃ x8 : Int32, x8 = v2 + (1 : Int32) := ⟨_, rfl⟩
        have hw := hw x8 ex8
        refine X_iinc 103 (v := x8) (ls' := [.ref w, .int v1, .int x8, junk]) dX10_lineUp_100 rfl rfl (by rw [ex8]; rfl) rfl (Or.inr (Or.inr ⟨_, rfl, rfl⟩)) ?_
        refine X_goto 4 dX10_lineUp_103 rfl ?_
        exact hK4 v1 x8 M5 hw
      · have hw := hw.2 c7
        refine X_iload_n 37 dX10_lineUp_36 rfl rfl ?_
        refine X_istore_n 38 (ls' := [.ref w, .int v1, .int v2, .int v1]) dX10_lineUp_37 rfl rfl (Nat.le_of_ble_eq_true rfl) rfl (Or.inr (Or.inr ⟨_, rfl, rfl⟩)) ?_
        exact LP4_s hw (G := fun v1 v2 v3 M => X (FM (QI L Q)) RX10 cX10_lineUp (some .int) 4 "lineUp" 2 0 0 (L, M) 38 [.ref w, .int v1, .int v2, .int v3] []) (fun K38 v1 v2 v3 M hb hK => t_X10_lineUp_38 hL hhw hb hK4 hK)
def w_X10_lineUp (L : Lay) (w : Nat) (M : Mem) (Q : Int32 → Mem → Prop) : Prop := LP3 (fun K4 v1 v2 M => w_X10_lineUp_4 L w  K4 v1 v2 M Q) (0 : Int32) (0 : Int32) M
set_option maxRecDepth 20000 in
theorem s_X10_lineUp {L : Lay} (hL : LY L) {w : Nat} (hhw : IsW w) {M : Mem} {Q : Int32 → Mem → Prop} (hw : w_X10_lineUp L w M Q) : MX yX10_lineUp cX10_lineUp (some .int) 4 2 0 0 [.ref w] (L, M) (QI L Q) := by
  unfold w_X10_lineUp at hw
  refine MX_of (by decide) [.ref w, junk, junk, junk] (by rfl) (by exact Nat.le_of_ble_eq_true rfl) ?_
  show X (FM (QI L Q)) RX10 cX10_lineUp (some .int) 4 "lineUp" 2 0 0 (L, M) 0 [.ref w, junk, junk, junk] []
  refine X_iconst 1 (v := 0) dX10_lineUp_0 rfl rfl ?_
  refine X_istore_n 2 (ls' := [.ref w, .int (0 : Int32), junk, junk]) dX10_lineUp_1 rfl rfl (Nat.le_of_ble_eq_true rfl) rfl (Or.inr (Or.inr ⟨_, rfl, rfl⟩)) ?_
  refine X_iconst 3 (v := 0) dX10_lineUp_2 rfl rfl ?_
  refine X_istore_n 4 (ls' := [.ref w, .int (0 : Int32), .int (0 : Int32), junk]) dX10_lineUp_3 rfl rfl (Nat.le_of_ble_eq_true rfl) rfl (Or.inr (Or.inr ⟨_, rfl, rfl⟩)) ?_
  exact LP3_s hw (G := fun v1 v2 M => X (FM (QI L Q)) RX10 cX10_lineUp (some .int) 4 "lineUp" 2 0 0 (L, M) 4 [.ref w, .int v1, .int v2, junk] []) (fun K4 v1 v2 M hb hK => t_X10_lineUp_4 hL hhw hb  hK)
def w_X10_nextOwnerFor_66 (L : Lay) (w : Nat) (p0 : Int32) (K2 : Int32 → Mem → Prop) (v2 : Int32) (v3 : Int32) (r4 : Nat) (y0 : Int32) (M : Mem) (Q : Int32 → Mem → Prop) : Prop := (((mi M r4 0) < p0 → (∀ x17 : Int32, x17 = v2 + (1 : Int32) → (K2 x17 M))) ∧ (¬ (mi M r4 0) < p0 → ((((mi M r4 6) < (8 : Int32) → (∀ x19 : Int32, x19 = v2 + (1 : Int32) → (K2 x19 M))) ∧ (¬ (mi M r4 6) < (8 : Int32) → (((y0 = 0 → (Q v3 M)) ∧ (¬ y0 = 0 → (∀ x21 : Int32, x21 = v2 + (1 : Int32) → (K2 x21 M))))))))))
set_option maxRecDepth 20000 in
theorem t_X10_nextOwnerFor_66 {L : Lay} (hL : LY L) {w : Nat} {p0 : Int32} (hhw : IsW w) {K2 : Int32 → Mem → Prop} {v2 : Int32} {v3 : Int32} {r4 : Nat} {y0 : Int32} (hr4 : OB L r4 3) {M : Mem} {Q : Int32 → Mem → Prop} (hw : w_X10_nextOwnerFor_66 L w p0 K2 v2 v3 r4 y0 M Q) (hK2 : ∀ (v2 : Int32) (M : Mem), K2 v2 M → X (FM (QI L Q)) RX10 cX10_nextOwnerFor (some .int) 6 "nextOwnerFor" 1 0 0 (L, M) 2 [.ref w, .int p0, .int v2, junk, junk, junk] []) : X (FM (QI L Q)) RX10 cX10_nextOwnerFor (some .int) 6 "nextOwnerFor" 1 0 0 (L, M) 66 [.ref w, .int p0, .int v2, .int v3, .ref r4, junk] [.int y0] := by
  unfold w_X10_nextOwnerFor_66 at hw
  refine X_istore 68 (ls' := [.ref w, .int p0, .int v2, .int v3, .ref r4, .int y0]) dX10_nextOwnerFor_66 rfl (Nat.le_of_ble_eq_true rfl) rfl (Or.inr (Or.inr ⟨_, rfl, rfl⟩)) ?_
  refine X_aload 70 dX10_nextOwnerFor_68 rfl rfl ?_
  refine X_getI 73 f_X10_225 hr4 rfl dX10_nextOwnerFor_70 rfl ?_
  refine X_iload_n 74 dX10_nextOwnerFor_73 rfl rfl ?_
  refine X_icmp_lt 94 77 dX10_nextOwnerFor_74 rfl rfl (fun c16 => ?_) (fun c16 => ?_)
  · have hw := hw.1 c16
    obtain ⟨x17, ex17⟩ : ∃ x17 : Int32, x17 = v2 + (1 : Int32) := ⟨_, rfl⟩
    have hw := hw x17 ex17
    refine X_iinc 97 (v := x17) (ls' := [.ref w, .int p0, .int x17, .int v3, .ref r4, .int y0]) dX10_nextOwnerFor_94 rfl rfl (by rw [ex17]; rfl) rfl (Or.inr (Or.inr ⟨_, rfl, rfl⟩)) ?_
    refine X_goto 2 dX10_nextOwnerFor_97 rfl ?_
    refine X_weak (ls' := [.ref w, .int p0, .int x17, junk, junk, junk]) (WK.s (WK.s (WK.s (WK.j (WK.j (WK.j WK.n)))))) (Nat.le_of_ble_eq_true rfl) ?_
    exact hK2 x17 M hw
  · have hw := hw.2 c16
    refine X_aload 79 dX10_nextOwnerFor_77 rfl rfl ?_
    refine X_getI 82 f_X10_144 hr4 rfl dX10_nextOwnerFor_79 rfl ?_
    refine X_bipush 84 (v := 8) dX10_nextOwnerFor_82 rfl rfl ?_
    refine X_icmp_lt 94 87 dX10_nextOwnerFor_84 rfl rfl (fun c18 => ?_) (fun c18 => ?_)
    · have hw := hw.1 c18
      obtain ⟨x19, ex19⟩ : ∃ x19 : Int32, x19 = v2 + (1 : Int32) := ⟨_, rfl⟩
      have hw := hw x19 ex19
      refine X_iinc 97 (v := x19) (ls' := [.ref w, .int p0, .int x19, .int v3, .ref r4, .int y0]) dX10_nextOwnerFor_94 rfl rfl (by rw [ex19]; rfl) rfl (Or.inr (Or.inr ⟨_, rfl, rfl⟩)) ?_
      refine X_goto 2 dX10_nextOwnerFor_97 rfl ?_
      refine X_weak (ls' := [.ref w, .int p0, .int x19, junk, junk, junk]) (WK.s (WK.s (WK.s (WK.j (WK.j (WK.j WK.n)))))) (Nat.le_of_ble_eq_true rfl) ?_
      exact hK2 x19 M hw
    · have hw := hw.2 c18
      refine X_iload 89 dX10_nextOwnerFor_87 rfl rfl ?_
      refine X_if_ne 94 92 (y := 0) dX10_nextOwnerFor_89 rfl rfl (fun c20 => ?_) (fun c20 => ?_)
      · have hw := hw.2 c20
        obtain ⟨x21, ex21⟩ : ∃ x21 : Int32, x21 = v2 + (1 : Int32) := ⟨_, rfl⟩
        have hw := hw x21 ex21
        refine X_iinc 97 (v := x21) (ls' := [.ref w, .int p0, .int x21, .int v3, .ref r4, .int y0]) dX10_nextOwnerFor_94 rfl rfl (by rw [ex21]; rfl) rfl (Or.inr (Or.inr ⟨_, rfl, rfl⟩)) ?_
        refine X_goto 2 dX10_nextOwnerFor_97 rfl ?_
        refine X_weak (ls' := [.ref w, .int p0, .int x21, junk, junk, junk]) (WK.s (WK.s (WK.s (WK.j (WK.j (WK.j WK.n)))))) (Nat.le_of_ble_eq_true rfl) ?_
        exact hK2 x21 M hw
      · have hw := hw.1 c20
        refine X_iload_n 93 dX10_nextOwnerFor_92 rfl rfl ?_
        exact X_ret rfl rfl dX10_nextOwnerFor_93 ⟨_, _, rfl, rfl, hw⟩
def w_X10_nextOwnerFor_65 (L : Lay) (w : Nat) (p0 : Int32) (K2 : Int32 → Mem → Prop) (v2 : Int32) (v3 : Int32) (r4 : Nat) (M : Mem) (Q : Int32 → Mem → Prop) : Prop := w_X10_nextOwnerFor_66 L w p0 K2 v2 v3 r4 (0 : Int32) M Q
set_option maxRecDepth 20000 in
theorem t_X10_nextOwnerFor_65 {L : Lay} (hL : LY L) {w : Nat} {p0 : Int32} (hhw : IsW w) {K2 : Int32 → Mem → Prop} {v2 : Int32} {v3 : Int32} {r4 : Nat} (hr4 : OB L r4 3) {M : Mem} {Q : Int32 → Mem → Prop} (hw : w_X10_nextOwnerFor_65 L w p0 K2 v2 v3 r4 M Q) (hK2 : ∀ (v2 : Int32) (M : Mem), K2 v2 M → X (FM (QI L Q)) RX10 cX10_nextOwnerFor (some .int) 6 "nextOwnerFor" 1 0 0 (L, M) 2 [.ref w, .int p0, .int v2, junk, junk, junk] []) : X (FM (QI L Q)) RX10 cX10_nextOwnerFor (some .int) 6 "nextOwnerFor" 1 0 0 (L, M) 65 [.ref w, .int p0, .int v2, .int v3, .ref r4, junk] [] := by
  unfold w_X10_nextOwnerFor_65 at hw
  refine X_iconst 66 (v := 0) dX10_nextOwnerFor_65 rfl rfl ?_
  exact t_X10_nextOwnerFor_66 hL hhw hr4 hw hK2
def w_X10_nextOwnerFor_2 (L : Lay) (w : Nat) (p0 : Int32) (K2 : Int32 → Mem → Prop) (v2 : Int32) (M : Mem) (Q : Int32 → Mem → Prop) : Prop := ((v2 < (mi M w 2) → (¬ (mi M w 2) = 0 ∧ (∀ x3 : Int32, x3 = (jrem ((mi M w 6) + v2) (mi M w 2)) → (vp_in x3 10 ∧ ((((mp M w 11) = none → (w_X10_nextOwnerFor_65 L w p0 K2 v2 x3 (oA w (tn x3)) M Q)) ∧ ∀ a6 : Nat, (mp M w 11) = some a6 → (∀ x7 : Int32, x7 = (if (mi M (oA w (tn x3)) 5) = 0 then (if (mi M (oA w (tn x3)) 8) < ((mi M (oA w (tn x3)) 7) + (8 : Int32)) then (1 : Int32) else (0 : Int32)) else (0 : Int32)) → ((((mi M (oA w (tn x3)) 0) < p0 → (∀ x9 : Int32, x9 = v2 + (1 : Int32) → (K2 x9 M))) ∧ (¬ (mi M (oA w (tn x3)) 0) < p0 → ((((mi M (oA w (tn x3)) 6) < (8 : Int32) → (∀ x11 : Int32, x11 = v2 + (1 : Int32) → (K2 x11 M))) ∧ (¬ (mi M (oA w (tn x3)) 6) < (8 : Int32) → (((x7 = 0 → (Q x3 M)) ∧ (¬ x7 = 0 → (∀ x13 : Int32, x13 = v2 + (1 : Int32) → (K2 x13 M)))))))))))))))))) ∧ (¬ v2 < (mi M w 2) → (Q (-1 : Int32) M)))
set_option maxRecDepth 20000 in
theorem t_X10_nextOwnerFor_2 {L : Lay} (hL : LY L) {w : Nat} {p0 : Int32} (hhw : IsW w) {K2 : Int32 → Mem → Prop} {v2 : Int32}  {M : Mem} {Q : Int32 → Mem → Prop} (hw : w_X10_nextOwnerFor_2 L w p0 K2 v2 M Q) (hK2 : ∀ (v2 : Int32) (M : Mem), K2 v2 M → X (FM (QI L Q)) RX10 cX10_nextOwnerFor (some .int) 6 "nextOwnerFor" 1 0 0 (L, M) 2 [.ref w, .int p0, .int v2, junk, junk, junk] []) : X (FM (QI L Q)) RX10 cX10_nextOwnerFor (some .int) 6 "nextOwnerFor" 1 0 0 (L, M) 2 [.ref w, .int p0, .int v2, junk, junk, junk] [] := by
  unfold w_X10_nextOwnerFor_2 at hw
  refine X_iload_n 3 dX10_nextOwnerFor_2 rfl rfl ?_
  refine X_aload_n 4 dX10_nextOwnerFor_3 rfl rfl ?_
  refine X_getI 7 f_X10_65 (hL.W hhw) rfl dX10_nextOwnerFor_4 rfl ?_
  refine X_icmp_ge 100 10 dX10_nextOwnerFor_7 rfl rfl (fun c1 => ?_) (fun c1 => ?_)
  · have hw := hw.2 c1
    refine X_iconst 101 (v := -1) dX10_nextOwnerFor_100 rfl rfl ?_
    exact X_ret rfl rfl dX10_nextOwnerFor_101 ⟨_, _, rfl, rfl, hw⟩
  · have hw := hw.1 c1
    refine X_aload_n 11 dX10_nextOwnerFor_10 rfl rfl ?_
    refine X_getI 14 f_X10_78 (hL.W hhw) rfl dX10_nextOwnerFor_11 rfl ?_
    refine X_iload_n 15 dX10_nextOwnerFor_14 rfl rfl ?_
    refine X_iadd 16 dX10_nextOwnerFor_15 rfl ?_
    refine X_aload_n 17 dX10_nextOwnerFor_16 rfl rfl ?_
    refine X_getI 20 f_X10_65 (hL.W hhw) rfl dX10_nextOwnerFor_17 rfl ?_
    obtain ⟨c2, hw⟩ := hw
    refine Y_irem 21 dX10_nextOwnerFor_20 rfl c2 ?_
    refine X_nmI (fun x3 ex3 => ?_)
    have hw := hw x3 ex3
    refine X_istore_n 22 (ls' := [.ref w, .int p0, .int v2, .int x3, junk, junk]) dX10_nextOwnerFor_21 rfl rfl (Nat.le_of_ble_eq_true rfl) rfl (Or.inr (Or.inr ⟨_, rfl, rfl⟩)) ?_
    refine X_aload_n 23 dX10_nextOwnerFor_22 rfl rfl ?_
    refine X_getR 26 f_X10_11 (hL.W hhw) rfl (hL.wrr hhw (k := 0) (x := 1) rfl rfl (by decide)) dX10_nextOwnerFor_23 rfl ?_
    refine X_iload_n 27 dX10_nextOwnerFor_26 rfl rfl ?_
    obtain ⟨c4, hw⟩ := hw
    refine X_aald 28 (Nat.le_refl 5) (by decide) (hL.war hhw (k := 1) (t := 5) (n := 10) rfl rfl (by decide)) c4 (hL.ownr hhw (vp_lt c4)) dX10_nextOwnerFor_27 rfl ?_
    refine X_astore 30 (ls' := [.ref w, .int p0, .int v2, .int x3, .ref ((oA w (tn x3))), junk]) dX10_nextOwnerFor_28 rfl (Nat.le_of_ble_eq_true rfl) rfl (Or.inr (Or.inr ⟨_, rfl, rfl⟩)) ?_
    refine X_aload_n 31 dX10_nextOwnerFor_30 rfl rfl ?_
    refine X_getQ 34 f_X10_87 (hL.W hhw) rfl dX10_nextOwnerFor_31 rfl ?_
    refine X_ifnull 65 37 dX10_nextOwnerFor_34 rfl rfl (fun c5 => ?_) (fun a6 c5 => ?_)
    · have hw := hw.1 c5
      exact t_X10_nextOwnerFor_65 hL hhw (hL.own hhw (vp_lt c4)) hw hK2
    · have hw := hw.2 a6 c5
      refine X_aload 39 dX10_nextOwnerFor_37 rfl rfl ?_
      refine X_getI 42 f_X10_97 (hL.own hhw (vp_lt c4)) rfl dX10_nextOwnerFor_39 rfl ?_
      obtain ⟨x7, ex7⟩ : ∃ x7 : Int32, x7 = (if (mi M (oA w (tn x3)) 5) = 0 then (if (mi M (oA w (tn x3)) 8) < ((mi M (oA w (tn x3)) 7) + (8 : Int32)) then (1 : Int32) else (0 : Int32)) else (0 : Int32)) := ⟨_, rfl⟩
      have hw := hw x7 ex7
      have bx7 : BZ x7 := by rw [ex7]; (repeat' split) <;> first | exact Or.inl rfl | exact Or.inr rfl
      have hJ : X (FM (QI L Q)) RX10 cX10_nextOwnerFor (some .int) 6 "nextOwnerFor" 1 0 0 (L, M) 66 [.ref w, .int p0, .int v2, .int x3, .ref ((oA w (tn x3))), junk] [.int x7] := by
        refine X_istore 68 (ls' := [.ref w, .int p0, .int v2, .int x3, .ref ((oA w (tn x3))), .int x7]) dX10_nextOwnerFor_66 rfl (Nat.le_of_ble_eq_true rfl) rfl (Or.inr (Or.inr ⟨_, rfl, rfl⟩)) ?_
        refine X_aload 70 dX10_nextOwnerFor_68 rfl rfl ?_
        refine X_getI 73 f_X10_225 (hL.own hhw (vp_lt c4)) rfl dX10_nextOwnerFor_70 rfl ?_
        refine X_iload_n 74 dX10_nextOwnerFor_73 rfl rfl ?_
        refine X_icmp_lt 94 77 dX10_nextOwnerFor_74 rfl rfl (fun c8 => ?_) (fun c8 => ?_)
        · have hw := hw.1 c8
          obtain ⟨x9, ex9⟩ : ∃ x9 : Int32, x9 = v2 + (1 : Int32) := ⟨_, rfl⟩
          have hw := hw x9 ex9
          refine X_iinc 97 (v := x9) (ls' := [.ref w, .int p0, .int x9, .int x3, .ref ((oA w (tn x3))), .int x7]) dX10_nextOwnerFor_94 rfl rfl (by rw [ex9]; rfl) rfl (Or.inr (Or.inr ⟨_, rfl, rfl⟩)) ?_
          refine X_goto 2 dX10_nextOwnerFor_97 rfl ?_
          refine X_weak (ls' := [.ref w, .int p0, .int x9, junk, junk, junk]) (WK.s (WK.s (WK.s (WK.j (WK.j (WK.j WK.n)))))) (Nat.le_of_ble_eq_true rfl) ?_
          exact hK2 x9 M hw
        · have hw := hw.2 c8
          refine X_aload 79 dX10_nextOwnerFor_77 rfl rfl ?_
          refine X_getI 82 f_X10_144 (hL.own hhw (vp_lt c4)) rfl dX10_nextOwnerFor_79 rfl ?_
          refine X_bipush 84 (v := 8) dX10_nextOwnerFor_82 rfl rfl ?_
          refine X_icmp_lt 94 87 dX10_nextOwnerFor_84 rfl rfl (fun c10 => ?_) (fun c10 => ?_)
          · have hw := hw.1 c10
            obtain ⟨x11, ex11⟩ : ∃ x11 : Int32, x11 = v2 + (1 : Int32) := ⟨_, rfl⟩
            have hw := hw x11 ex11
            refine X_iinc 97 (v := x11) (ls' := [.ref w, .int p0, .int x11, .int x3, .ref ((oA w (tn x3))), .int x7]) dX10_nextOwnerFor_94 rfl rfl (by rw [ex11]; rfl) rfl (Or.inr (Or.inr ⟨_, rfl, rfl⟩)) ?_
            refine X_goto 2 dX10_nextOwnerFor_97 rfl ?_
            refine X_weak (ls' := [.ref w, .int p0, .int x11, junk, junk, junk]) (WK.s (WK.s (WK.s (WK.j (WK.j (WK.j WK.n)))))) (Nat.le_of_ble_eq_true rfl) ?_
            exact hK2 x11 M hw
          · have hw := hw.2 c10
            refine X_iload 89 dX10_nextOwnerFor_87 rfl rfl ?_
            refine X_if_ne 94 92 (y := 0) dX10_nextOwnerFor_89 rfl rfl (fun c12 => ?_) (fun c12 => ?_)
            · have hw := hw.2 c12
              obtain ⟨x13, ex13⟩ : ∃ x13 : Int32, x13 = v2 + (1 : Int32) := ⟨_, rfl⟩
              have hw := hw x13 ex13
              refine X_iinc 97 (v := x13) (ls' := [.ref w, .int p0, .int x13, .int x3, .ref ((oA w (tn x3))), .int x7]) dX10_nextOwnerFor_94 rfl rfl (by rw [ex13]; rfl) rfl (Or.inr (Or.inr ⟨_, rfl, rfl⟩)) ?_
              refine X_goto 2 dX10_nextOwnerFor_97 rfl ?_
              refine X_weak (ls' := [.ref w, .int p0, .int x13, junk, junk, junk]) (WK.s (WK.s (WK.s (WK.j (WK.j (WK.j WK.n)))))) (Nat.le_of_ble_eq_true rfl) ?_
              exact hK2 x13 M hw
            · have hw := hw.1 c12
              refine X_iload_n 93 dX10_nextOwnerFor_92 rfl rfl ?_
              exact X_ret rfl rfl dX10_nextOwnerFor_93 ⟨_, _, rfl, rfl, hw⟩
      refine X_if_ne 65 45 (y := 0) dX10_nextOwnerFor_42 rfl rfl (fun c14 => ?_) (fun c14 => ?_)
      · refine X_iconst 66 (v := 0) dX10_nextOwnerFor_65 rfl rfl ?_
        rw [if_neg c14] at ex7
        rw [ex7] at hJ
        exact hJ
      · refine X_aload 47 dX10_nextOwnerFor_45 rfl rfl ?_
        refine X_getI 50 f_X10_141 (hL.own hhw (vp_lt c4)) rfl dX10_nextOwnerFor_47 rfl ?_
        refine X_bipush 52 (v := 8) dX10_nextOwnerFor_50 rfl rfl ?_
        refine X_iadd 53 dX10_nextOwnerFor_52 rfl ?_
        refine X_aload 55 dX10_nextOwnerFor_53 rfl rfl ?_
        refine X_getI 58 f_X10_206 (hL.own hhw (vp_lt c4)) rfl dX10_nextOwnerFor_55 rfl ?_
        refine X_icmp_le 65 61 dX10_nextOwnerFor_58 rfl rfl (fun c15 => ?_) (fun c15 => ?_)
        · refine X_iconst 66 (v := 0) dX10_nextOwnerFor_65 rfl rfl ?_
          rw [if_pos c14, if_neg c15] at ex7
          rw [ex7] at hJ
          exact hJ
        · refine X_iconst 62 (v := 1) dX10_nextOwnerFor_61 rfl rfl ?_
          refine X_goto 66 dX10_nextOwnerFor_62 rfl ?_
          rw [if_pos c14, if_pos c15] at ex7
          rw [ex7] at hJ
          exact hJ
def w_X10_nextOwnerFor (L : Lay) (w : Nat) (p0 : Int32) (M : Mem) (Q : Int32 → Mem → Prop) : Prop := LP2 (fun K2 v2 M => w_X10_nextOwnerFor_2 L w p0  K2 v2 M Q) (0 : Int32) M
set_option maxRecDepth 20000 in
theorem s_X10_nextOwnerFor {L : Lay} (hL : LY L) {w : Nat} {p0 : Int32} (hhw : IsW w) {M : Mem} {Q : Int32 → Mem → Prop} (hw : w_X10_nextOwnerFor L w p0 M Q) : MX yX10_nextOwnerFor cX10_nextOwnerFor (some .int) 6 1 0 0 [.ref w, .int p0] (L, M) (QI L Q) := by
  unfold w_X10_nextOwnerFor at hw
  refine MX_of (by decide) [.ref w, .int p0, junk, junk, junk, junk] (by rfl) (by exact Nat.le_of_ble_eq_true rfl) ?_
  show X (FM (QI L Q)) RX10 cX10_nextOwnerFor (some .int) 6 "nextOwnerFor" 1 0 0 (L, M) 0 [.ref w, .int p0, junk, junk, junk, junk] []
  refine X_iconst 1 (v := 0) dX10_nextOwnerFor_0 rfl rfl ?_
  refine X_istore_n 2 (ls' := [.ref w, .int p0, .int (0 : Int32), junk, junk, junk]) dX10_nextOwnerFor_1 rfl rfl (Nat.le_of_ble_eq_true rfl) rfl (Or.inr (Or.inr ⟨_, rfl, rfl⟩)) ?_
  exact LP2_s hw (G := fun v2 M => X (FM (QI L Q)) RX10 cX10_nextOwnerFor (some .int) 6 "nextOwnerFor" 1 0 0 (L, M) 2 [.ref w, .int p0, .int v2, junk, junk, junk] []) (fun K2 v2 M hb hK => t_X10_nextOwnerFor_2 hL hhw hb  hK)
def w_X10_loadShip_19 (L : Lay) (w : Nat) (sh : Nat)  (y0 : Int32) (M : Mem) (Q : Int32 → Mem → Prop) : Prop := ((y0 = (-1 : Int32) → (Q (0 : Int32) M)) ∧ (¬ y0 = (-1 : Int32) → (w_X9_take L sh y0 M (fun M7 => (vp_in y0 10 ∧ (∀ M9 : Mem, M9 = si M7 (oA w (tn y0)) 6 ((mi M7 (oA w (tn y0)) 6) - (8 : Int32)) → (∀ M10 : Mem, M10 = si M9 (oA w (tn y0)) 7 ((mi M9 (oA w (tn y0)) 7) + (8 : Int32)) → (∀ x11 : Int32, x11 = (if (y0 + (1 : Int32)) < (mi M10 w 2) then (y0 + (1 : Int32)) else (0 : Int32)) → (∀ M12 : Mem, M12 = si M10 w 6 x11 → (Q (1 : Int32) M12))))))))))
set_option maxRecDepth 20000 in
theorem t_X10_loadShip_19 {L : Lay} (hL : LY L) {w : Nat} {sh : Nat} (hhw : IsW w) (hhsh : IsS L sh)  {y0 : Int32}  {M : Mem} {Q : Int32 → Mem → Prop} (hw : w_X10_loadShip_19 L w sh  y0 M Q)  : X (FM (QZ L Q)) RX10 cX10_loadShip (some .boolean) 3 "loadShip" 2 0 0 (L, M) 19 [.ref w, .ref sh, junk] [.int y0] := by
  unfold w_X10_loadShip_19 at hw
  refine X_istore_n 20 (ls' := [.ref w, .ref sh, .int y0]) dX10_loadShip_19 rfl rfl (Nat.le_of_ble_eq_true rfl) rfl (Or.inr (Or.inr ⟨_, rfl, rfl⟩)) ?_
  refine X_iload_n 21 dX10_loadShip_20 rfl rfl ?_
  refine X_iconst 22 (v := -1) dX10_loadShip_21 rfl rfl ?_
  refine X_icmp_ne 27 25 dX10_loadShip_22 rfl rfl (fun c6 => ?_) (fun c6 => ?_)
  · have hw := hw.2 c6
    refine X_aload_n 28 dX10_loadShip_27 rfl rfl ?_
    refine X_iload_n 29 dX10_loadShip_28 rfl rfl ?_
    refine Y_cVV 32 (as := [.int y0]) m_X10_248 (s_X9_take hL hhsh hw) hhsh.1 rfl (by decide) (Nat.le_of_ble_eq_true rfl) dX10_loadShip_29 rfl rfl (fun M7 hw => ?_)
    refine X_aload_n 33 dX10_loadShip_32 rfl rfl ?_
    refine X_getR 36 f_X10_11 (hL.W hhw) rfl (hL.wrr hhw (k := 0) (x := 1) rfl rfl (by decide)) dX10_loadShip_33 rfl ?_
    refine X_iload_n 37 dX10_loadShip_36 rfl rfl ?_
    obtain ⟨c8, hw⟩ := hw
    refine X_aald 38 (Nat.le_refl 5) (by decide) (hL.war hhw (k := 1) (t := 5) (n := 10) rfl rfl (by decide)) c8 (hL.ownr hhw (vp_lt c8)) dX10_loadShip_37 rfl ?_
    refine X_dup 39 dX10_loadShip_38 rfl rfl ?_
    refine X_getI 42 f_X10_144 (hL.own hhw (vp_lt c8)) rfl dX10_loadShip_39 rfl ?_
    refine X_bipush 44 (v := 8) dX10_loadShip_42 rfl rfl ?_
    refine X_isub 45 dX10_loadShip_44 rfl ?_
    refine X_putI 48 f_X10_144 (Or.inl rfl) (hL.own hhw (vp_lt c8)) rfl dX10_loadShip_45 rfl ?_
    refine X_nmM (fun M9 eM9 => ?_)
    have hw := hw M9 eM9
    refine X_aload_n 49 dX10_loadShip_48 rfl rfl ?_
    refine X_getR 52 f_X10_11 (hL.W hhw) rfl (hL.wrr hhw (k := 0) (x := 1) rfl rfl (by decide)) dX10_loadShip_49 rfl ?_
    refine X_iload_n 53 dX10_loadShip_52 rfl rfl ?_
    refine X_aald 54 (Nat.le_refl 5) (by decide) (hL.war hhw (k := 1) (t := 5) (n := 10) rfl rfl (by decide)) c8 (hL.ownr hhw (vp_lt c8)) dX10_loadShip_53 rfl ?_
    refine X_dup 55 dX10_loadShip_54 rfl rfl ?_
    refine X_getI 58 f_X10_141 (hL.own hhw (vp_lt c8)) rfl dX10_loadShip_55 rfl ?_
    refine X_bipush 60 (v := 8) dX10_loadShip_58 rfl rfl ?_
    refine X_iadd 61 dX10_loadShip_60 rfl ?_
    refine X_putI 64 f_X10_141 (Or.inl rfl) (hL.own hhw (vp_lt c8)) rfl dX10_loadShip_61 rfl ?_
    refine X_nmM (fun M10 eM10 => ?_)
    have hw := hw M10 eM10
    refine X_aload_n 65 dX10_loadShip_64 rfl rfl ?_
    refine X_iload_n 66 dX10_loadShip_65 rfl rfl ?_
    refine X_iconst 67 (v := 1) dX10_loadShip_66 rfl rfl ?_
    refine X_iadd 68 dX10_loadShip_67 rfl ?_
    refine X_aload_n 69 dX10_loadShip_68 rfl rfl ?_
    refine X_getI 72 f_X10_65 (hL.W hhw) rfl dX10_loadShip_69 rfl ?_
    obtain ⟨x11, ex11⟩ : ∃ x11 : Int32, x11 = (if (y0 + (1 : Int32)) < (mi M10 w 2) then (y0 + (1 : Int32)) else (0 : Int32)) := ⟨_, rfl⟩
    have hw := hw x11 ex11
    have hJ : X (FM (QZ L Q)) RX10 cX10_loadShip (some .boolean) 3 "loadShip" 2 0 0 (L, M10) 82 [.ref w, .ref sh, .int y0] [.int x11, .ref w] := by
      refine X_putI 85 f_X10_78 (Or.inl rfl) (hL.W hhw) rfl dX10_loadShip_82 rfl ?_
      refine X_nmM (fun M12 eM12 => ?_)
      have hw := hw M12 eM12
      refine X_iconst 86 (v := 1) dX10_loadShip_85 rfl rfl ?_
      exact X_ret rfl (nar_bool (Or.inr rfl)) dX10_loadShip_86 ⟨_, _, rfl, Or.inr rfl, rfl, hw⟩
    refine X_icmp_ge 81 75 dX10_loadShip_72 rfl rfl (fun c13 => ?_) (fun c13 => ?_)
    · refine X_iconst 82 (v := 0) dX10_loadShip_81 rfl rfl ?_
      rw [if_neg c13] at ex11
      rw [ex11] at hJ
      exact hJ
    · refine X_iload_n 76 dX10_loadShip_75 rfl rfl ?_
      refine X_iconst 77 (v := 1) dX10_loadShip_76 rfl rfl ?_
      refine X_iadd 78 dX10_loadShip_77 rfl ?_
      refine X_goto 82 dX10_loadShip_78 rfl ?_
      rw [if_pos c13] at ex11
      rw [ex11] at hJ
      exact hJ
  · have hw := hw.1 c6
    refine X_iconst 26 (v := 0) dX10_loadShip_25 rfl rfl ?_
    exact X_ret rfl (nar_bool (Or.inl rfl)) dX10_loadShip_26 ⟨_, _, rfl, Or.inl rfl, rfl, hw⟩
def w_X10_loadShip (L : Lay) (w : Nat) (sh : Nat) (M : Mem) (Q : Int32 → Mem → Prop) : Prop := w_X9_hasRoom L sh M (fun x2 M1 => (((x2 = 0 → (w_X10_loadShip_19 L w sh  (-1 : Int32) M1 Q)) ∧ (¬ x2 = 0 → (w_X10_nextOwnerFor L w (mi M1 sh 1) M1 (fun x5 M4 => (w_X10_loadShip_19 L w sh  x5 M4 Q)))))))
set_option maxRecDepth 20000 in
theorem s_X10_loadShip {L : Lay} (hL : LY L) {w : Nat} {sh : Nat} (hhw : IsW w) (hhsh : IsS L sh) {M : Mem} {Q : Int32 → Mem → Prop} (hw : w_X10_loadShip L w sh M Q) : MX yX10_loadShip cX10_loadShip (some .boolean) 3 2 0 0 [.ref w, .ref sh] (L, M) (QZ L Q) := by
  unfold w_X10_loadShip at hw
  refine MX_of (by decide) [.ref w, .ref sh, junk] (by rfl) (by exact Nat.le_of_ble_eq_true rfl) ?_
  show X (FM (QZ L Q)) RX10 cX10_loadShip (some .boolean) 3 "loadShip" 2 0 0 (L, M) 0 [.ref w, .ref sh, junk] []
  refine X_aload_n 1 dX10_loadShip_0 rfl rfl ?_
  refine Y_cVZ 4 (as := []) m_X10_235 (s_X9_hasRoom hL hhsh hw) hhsh.1 rfl (by decide) (Nat.le_of_ble_eq_true rfl) dX10_loadShip_1 rfl rfl (fun x2 M1 bx2 hw => ?_)
  refine X_if_eq 18 7 (y := 0) dX10_loadShip_4 rfl rfl (fun c3 => ?_) (fun c3 => ?_)
  · have hw := hw.1 c3
    refine X_iconst 19 (v := -1) dX10_loadShip_18 rfl rfl ?_
    exact t_X10_loadShip_19 hL hhw hhsh  hw 
  · have hw := hw.2 c3
    refine X_aload_n 8 dX10_loadShip_7 rfl rfl ?_
    refine X_aload_n 9 dX10_loadShip_8 rfl rfl ?_
    refine X_getI 12 f_X10_242 hhsh.1 rfl dX10_loadShip_9 rfl ?_
    refine Y_cVI 15 (as := [.int ((mi M1 sh 1))]) m_X10_245 (s_X10_nextOwnerFor hL hhw hw) (hL.W hhw) rfl (by decide) (Nat.le_of_ble_eq_true rfl) dX10_loadShip_12 rfl rfl (fun x5 M4 hw => ?_)
    refine X_goto 19 dX10_loadShip_15 rfl ?_
    exact t_X10_loadShip_19 hL hhw hhsh  hw 
def w_X10_loadShips_53 (L : Lay) (w : Nat) (K7 : Int32 → Int32 → Mem → Prop) (v1 : Int32) (v2 : Int32) (v3 : Int32) (M : Mem) (Q : Mem → Prop) : Prop := ((v3 = 0 → (Q M)) ∧ (¬ v3 = 0 → (∀ x12 : Int32, x12 = v2 + (1 : Int32) → (K7 v1 x12 M))))
set_option maxRecDepth 20000 in
theorem t_X10_loadShips_53 {L : Lay} (hL : LY L) {w : Nat} (hhw : IsW w) {K7 : Int32 → Int32 → Mem → Prop} {v1 : Int32} {v2 : Int32} {v3 : Int32}  {M : Mem} {Q : Mem → Prop} (hw : w_X10_loadShips_53 L w K7 v1 v2 v3 M Q) (hK7 : ∀ (v1 : Int32) (v2 : Int32) (M : Mem), K7 v1 v2 M → X (FM (QV L Q)) RX10 cX10_loadShips none 5 "loadShips" 3 0 0 (L, M) 7 [.ref w, .int v1, .int v2, junk, junk] []) : X (FM (QV L Q)) RX10 cX10_loadShips none 5 "loadShips" 3 0 0 (L, M) 53 [.ref w, .int v1, .int v2, .int v3, junk] [] := by
  unfold w_X10_loadShips_53 at hw
  refine X_iload_n 54 dX10_loadShips_53 rfl rfl ?_
  refine X_if_ne 58 57 (y := 0) dX10_loadShips_54 rfl rfl (fun c11 => ?_) (fun c11 => ?_)
  · have hw := hw.2 c11
    obtain ⟨x12, ex12⟩ : ∃ x12 : Int32, x12 = v2 + (1 : Int32) := ⟨_, rfl⟩
    have hw := hw x12 ex12
    refine X_iinc 61 (v := x12) (ls' := [.ref w, .int v1, .int x12, .int v3, junk]) dX10_loadShips_58 rfl rfl (by rw [ex12]; rfl) rfl (Or.inr (Or.inr ⟨_, rfl, rfl⟩)) ?_
    refine X_goto 7 dX10_loadShips_61 rfl ?_
    refine X_weak (ls' := [.ref w, .int v1, .int x12, junk, junk]) (WK.s (WK.s (WK.s (WK.j (WK.s WK.n))))) (Nat.le_of_ble_eq_true rfl) ?_
    exact hK7 v1 x12 M hw
  · have hw := hw.1 c11
    exact X_retV rfl dX10_loadShips_57 ⟨_, rfl, rfl, hw⟩
def w_X10_loadShips_20 (L : Lay) (w : Nat) (K7 : Int32 → Int32 → Mem → Prop) (K20 : Int32 → Int32 → Int32 → Int32 → Mem → Prop) (v1 : Int32) (v2 : Int32) (v3 : Int32) (v4 : Int32) (M : Mem) (Q : Mem → Prop) : Prop := ((v4 < v1 → (((v3 = 0 → (vp_in v4 8 ∧ (vp_in (mi M (w + 8) (tn v4)) 8 ∧ (w_X10_loadShip L w (sA w (tn (mi M (w + 8) (tn v4)))) M (fun x9 M8 => (∀ x10 : Int32, x10 = v4 + (1 : Int32) → (K20 v1 v2 x9 x10 M8))))))) ∧ (¬ v3 = 0 → (w_X10_loadShips_53 L w K7 v1 v2 v3 M Q))))) ∧ (¬ v4 < v1 → (w_X10_loadShips_53 L w K7 v1 v2 v3 M Q)))
set_option maxRecDepth 20000 in
theorem t_X10_loadShips_20 {L : Lay} (hL : LY L) {w : Nat} (hhw : IsW w) {K7 : Int32 → Int32 → Mem → Prop} {K20 : Int32 → Int32 → Int32 → Int32 → Mem → Prop} {v1 : Int32} {v2 : Int32} {v3 : Int32} {v4 : Int32}  {M : Mem} {Q : Mem → Prop} (hw : w_X10_loadShips_20 L w K7 K20 v1 v2 v3 v4 M Q) (hK7 : ∀ (v1 : Int32) (v2 : Int32) (M : Mem), K7 v1 v2 M → X (FM (QV L Q)) RX10 cX10_loadShips none 5 "loadShips" 3 0 0 (L, M) 7 [.ref w, .int v1, .int v2, junk, junk] []) (hK20 : ∀ (v1 : Int32) (v2 : Int32) (v3 : Int32) (v4 : Int32) (M : Mem), K20 v1 v2 v3 v4 M → X (FM (QV L Q)) RX10 cX10_loadShips none 5 "loadShips" 3 0 0 (L, M) 20 [.ref w, .int v1, .int v2, .int v3, .int v4] []) : X (FM (QV L Q)) RX10 cX10_loadShips none 5 "loadShips" 3 0 0 (L, M) 20 [.ref w, .int v1, .int v2, .int v3, .int v4] [] := by
  unfold w_X10_loadShips_20 at hw
  refine X_iload 22 dX10_loadShips_20 rfl rfl ?_
  refine X_iload_n 23 dX10_loadShips_22 rfl rfl ?_
  refine X_icmp_ge 53 26 dX10_loadShips_23 rfl rfl (fun c4 => ?_) (fun c4 => ?_)
  · have hw := hw.2 c4
    refine X_weak (ls' := [.ref w, .int v1, .int v2, .int v3, junk]) (WK.s (WK.s (WK.s (WK.s (WK.j WK.n))))) (Nat.le_of_ble_eq_true rfl) ?_
    exact t_X10_loadShips_53 hL hhw  hw hK7
  · have hw := hw.1 c4
    refine X_iload_n 27 dX10_loadShips_26 rfl rfl ?_
    refine X_if_ne 53 30 (y := 0) dX10_loadShips_27 rfl rfl (fun c5 => ?_) (fun c5 => ?_)
    · have hw := hw.2 c5
      refine X_weak (ls' := [.ref w, .int v1, .int v2, .int v3, junk]) (WK.s (WK.s (WK.s (WK.s (WK.j WK.n))))) (Nat.le_of_ble_eq_true rfl) ?_
      exact t_X10_loadShips_53 hL hhw  hw hK7
    · have hw := hw.1 c5
      refine X_aload_n 31 dX10_loadShips_30 rfl rfl ?_
      refine X_aload_n 32 dX10_loadShips_31 rfl rfl ?_
      refine X_getR 35 f_X10_19 (hL.W hhw) rfl (hL.wrr hhw (k := 0) (x := 2) rfl rfl (by decide)) dX10_loadShips_32 rfl ?_
      refine X_aload_n 36 dX10_loadShips_35 rfl rfl ?_
      refine X_getR 39 f_X10_56 (hL.W hhw) rfl (hL.wrr hhw (k := 0) (x := 8) rfl rfl (by decide)) dX10_loadShips_36 rfl ?_
      refine X_iload 41 dX10_loadShips_39 rfl rfl ?_
      obtain ⟨c6, hw⟩ := hw
      refine Y_iald 42 (k := (tn v4)) (hL.war hhw (k := 8) (t := 0) (n := 8) rfl rfl (by decide)) c6 rfl dX10_loadShips_41 rfl ?_
      obtain ⟨c7, hw⟩ := hw
      refine X_aald 43 (by decide) (by decide) (hL.war hhw (k := 2) (t := 6) (n := 8) rfl rfl (by decide)) c7 (hL.shpr hhw (vp_lt c7)) dX10_loadShips_42 rfl ?_
      refine Y_cVZ 46 (as := [.ref ((sA w (tn (mi M (w + 8) (tn v4)))))]) m_X10_231 (s_X10_loadShip hL hhw (hL.shp hhw (vp_lt c7)) hw) (hL.W hhw) rfl (by decide) (Nat.le_of_ble_eq_true rfl) dX10_loadShips_43 rfl rfl (fun x9 M8 bx9 hw => ?_)
      refine X_istore_n 47 (ls' := [.ref w, .int v1, .int v2, .int x9, .int v4]) dX10_loadShips_46 rfl rfl (Nat.le_of_ble_eq_true rfl) rfl (Or.inr (Or.inr ⟨_, rfl, rfl⟩)) ?_
      obtain ⟨x10, ex10⟩ : ∃ x10 : Int32, x10 = v4 + (1 : Int32) := ⟨_, rfl⟩
      have hw := hw x10 ex10
      refine X_iinc 50 (v := x10) (ls' := [.ref w, .int v1, .int v2, .int x9, .int x10]) dX10_loadShips_47 rfl rfl (by rw [ex10]; rfl) rfl (Or.inr (Or.inr ⟨_, rfl, rfl⟩)) ?_
      refine X_goto 20 dX10_loadShips_50 rfl ?_
      exact hK20 v1 v2 x9 x10 M8 hw
def w_X10_loadShips_7 (L : Lay) (w : Nat) (K7 : Int32 → Int32 → Mem → Prop) (v1 : Int32) (v2 : Int32) (M : Mem) (Q : Mem → Prop) : Prop := ((v2 < (mi M w 5) → (LP5 (fun K20 v1 v2 v3 v4 M => w_X10_loadShips_20 L w K7 K20 v1 v2 v3 v4 M Q) v1 v2 (0 : Int32) (0 : Int32) M)) ∧ (¬ v2 < (mi M w 5) → (Q M)))
set_option maxRecDepth 20000 in
theorem t_X10_loadShips_7 {L : Lay} (hL : LY L) {w : Nat} (hhw : IsW w) {K7 : Int32 → Int32 → Mem → Prop} {v1 : Int32} {v2 : Int32}  {M : Mem} {Q : Mem → Prop} (hw : w_X10_loadShips_7 L w K7 v1 v2 M Q) (hK7 : ∀ (v1 : Int32) (v2 : Int32) (M : Mem), K7 v1 v2 M → X (FM (QV L Q)) RX10 cX10_loadShips none 5 "loadShips" 3 0 0 (L, M) 7 [.ref w, .int v1, .int v2, junk, junk] []) : X (FM (QV L Q)) RX10 cX10_loadShips none 5 "loadShips" 3 0 0 (L, M) 7 [.ref w, .int v1, .int v2, junk, junk] [] := by
  unfold w_X10_loadShips_7 at hw
  refine X_iload_n 8 dX10_loadShips_7 rfl rfl ?_
  refine X_aload_n 9 dX10_loadShips_8 rfl rfl ?_
  refine X_getI 12 f_X10_23 (hL.W hhw) rfl dX10_loadShips_9 rfl ?_
  refine X_icmp_ge 64 15 dX10_loadShips_12 rfl rfl (fun c3 => ?_) (fun c3 => ?_)
  · have hw := hw.2 c3
    exact X_retV rfl dX10_loadShips_64 ⟨_, rfl, rfl, hw⟩
  · have hw := hw.1 c3
    refine X_iconst 16 (v := 0) dX10_loadShips_15 rfl rfl ?_
    refine X_istore_n 17 (ls' := [.ref w, .int v1, .int v2, .int (0 : Int32), junk]) dX10_loadShips_16 rfl rfl (Nat.le_of_ble_eq_true rfl) rfl (Or.inr (Or.inr ⟨_, rfl, rfl⟩)) ?_
    refine X_iconst 18 (v := 0) dX10_loadShips_17 rfl rfl ?_
    refine X_istore 20 (ls' := [.ref w, .int v1, .int v2, .int (0 : Int32), .int (0 : Int32)]) dX10_loadShips_18 rfl (Nat.le_of_ble_eq_true rfl) rfl (Or.inr (Or.inr ⟨_, rfl, rfl⟩)) ?_
    exact LP5_s hw (G := fun v1 v2 v3 v4 M => X (FM (QV L Q)) RX10 cX10_loadShips none 5 "loadShips" 3 0 0 (L, M) 20 [.ref w, .int v1, .int v2, .int v3, .int v4] []) (fun K20 v1 v2 v3 v4 M hb hK => t_X10_loadShips_20 hL hhw hb hK7 hK)
def w_X10_loadShips (L : Lay) (w : Nat) (M : Mem) (Q : Mem → Prop) : Prop := w_X10_lineUp L w M (fun x2 M1 => (LP3 (fun K7 v1 v2 M => w_X10_loadShips_7 L w  K7 v1 v2 M Q) x2 (0 : Int32) M1))
set_option maxRecDepth 20000 in
theorem s_X10_loadShips {L : Lay} (hL : LY L) {w : Nat} (hhw : IsW w) {M : Mem} {Q : Mem → Prop} (hw : w_X10_loadShips L w M Q) : MX yX10_loadShips cX10_loadShips none 5 3 0 0 [.ref w] (L, M) (QV L Q) := by
  unfold w_X10_loadShips at hw
  refine MX_of (by decide) [.ref w, junk, junk, junk, junk] (by rfl) (by exact Nat.le_of_ble_eq_true rfl) ?_
  show X (FM (QV L Q)) RX10 cX10_loadShips none 5 "loadShips" 3 0 0 (L, M) 0 [.ref w, junk, junk, junk, junk] []
  refine X_aload_n 1 dX10_loadShips_0 rfl rfl ?_
  refine Y_cVI 4 (as := []) m_X10_228 (s_X10_lineUp hL hhw hw) (hL.W hhw) rfl (by decide) (Nat.le_of_ble_eq_true rfl) dX10_loadShips_1 rfl rfl (fun x2 M1 hw => ?_)
  refine X_istore_n 5 (ls' := [.ref w, .int x2, junk, junk, junk]) dX10_loadShips_4 rfl rfl (Nat.le_of_ble_eq_true rfl) rfl (Or.inr (Or.inr ⟨_, rfl, rfl⟩)) ?_
  refine X_iconst 6 (v := 0) dX10_loadShips_5 rfl rfl ?_
  refine X_istore_n 7 (ls' := [.ref w, .int x2, .int (0 : Int32), junk, junk]) dX10_loadShips_6 rfl rfl (Nat.le_of_ble_eq_true rfl) rfl (Or.inr (Or.inr ⟨_, rfl, rfl⟩)) ?_
  exact LP3_s hw (G := fun v1 v2 M => X (FM (QV L Q)) RX10 cX10_loadShips none 5 "loadShips" 3 0 0 (L, M) 7 [.ref w, .int v1, .int v2, junk, junk] []) (fun K7 v1 v2 M hb hK => t_X10_loadShips_7 hL hhw hb  hK)
def w_X10_sellLoads_2 (L : Lay) (w : Nat) (sh : Nat) (K2 : Int32 → Mem → Prop) (v2 : Int32) (M : Mem) (Q : Mem → Prop) : Prop := ((v2 < (mi M sh 5) → (vp_in v2 12 ∧ (vp_in (mi M (sh + 1) (tn v2)) 10 ∧ (w_X0_priceOf L (w + 3) (mi M (oA w (tn (mi M (sh + 1) (tn v2)))) 0) M (fun x8 M7 => (∃ a9 : Nat, (mp M7 w 9) = some a9 ∧ OB L a9 1 ∧ (∀ M10 : Mem, M10 = si M7 (oA w (tn (mi M (sh + 1) (tn v2)))) 9 ((mi M7 (oA w (tn (mi M (sh + 1) (tn v2)))) 9) + ((8 : Int32) * (((x8 - ((x8 * (mi M7 (oA w (tn (mi M (sh + 1) (tn v2)))) 4)) / (100 : Int32))) - (mi M7 a9 1)) - (mi M7 (oA w (tn (mi M (sh + 1) (tn v2)))) 3)))) → (∀ x11 : Int32, x11 = v2 + (1 : Int32) → (K2 x11 M10))))))))) ∧ (¬ v2 < (mi M sh 5) → (w_X0_addLoads L (w + 3) (mi M sh 5) M (fun M2 => (∀ M3 : Mem, M3 = si M2 w 7 ((mi M2 w 7) + (mi M2 sh 5)) → (∀ M4 : Mem, M4 = si M3 sh 5 (0 : Int32) → (Q M4)))))))
set_option maxRecDepth 20000 in
theorem t_X10_sellLoads_2 {L : Lay} (hL : LY L) {w : Nat} {sh : Nat} (hhw : IsW w) (hhsh : IsS L sh) {K2 : Int32 → Mem → Prop} {v2 : Int32}  {M : Mem} {Q : Mem → Prop} (hw : w_X10_sellLoads_2 L w sh K2 v2 M Q) (hK2 : ∀ (v2 : Int32) (M : Mem), K2 v2 M → X (FM (QV L Q)) RX10 cX10_sellLoads none 5 "sellLoads" 3 0 0 (L, M) 2 [.ref w, .ref sh, .int v2, junk, junk] []) : X (FM (QV L Q)) RX10 cX10_sellLoads none 5 "sellLoads" 3 0 0 (L, M) 2 [.ref w, .ref sh, .int v2, junk, junk] [] := by
  unfold w_X10_sellLoads_2 at hw
  refine X_iload_n 3 dX10_sellLoads_2 rfl rfl ?_
  refine X_aload_n 4 dX10_sellLoads_3 rfl rfl ?_
  refine X_getI 7 f_X10_258 hhsh.1 rfl dX10_sellLoads_4 rfl ?_
  refine X_icmp_ge 79 10 dX10_sellLoads_7 rfl rfl (fun c1 => ?_) (fun c1 => ?_)
  · have hw := hw.2 c1
    refine X_aload_n 80 dX10_sellLoads_79 rfl rfl ?_
    refine X_getR 83 f_X10_30 (hL.W hhw) rfl (hL.wrr hhw (k := 0) (x := 3) rfl rfl (by decide)) dX10_sellLoads_80 rfl ?_
    refine X_aload_n 84 dX10_sellLoads_83 rfl rfl ?_
    refine X_getI 87 f_X10_258 hhsh.1 rfl dX10_sellLoads_84 rfl ?_
    refine Y_cVV 90 (as := [.int ((mi M sh 5))]) m_X10_276 (s_X0_addLoads hL (hL.wob hhw (k := 3) (c := 0) rfl rfl (by decide)) hw) (hL.wob hhw (k := 3) (c := 0) rfl rfl (by decide)) rfl (by decide) (Nat.le_of_ble_eq_true rfl) dX10_sellLoads_87 rfl rfl (fun M2 hw => ?_)
    refine X_aload_n 91 dX10_sellLoads_90 rfl rfl ?_
    refine X_dup 92 dX10_sellLoads_91 rfl rfl ?_
    refine X_getI 95 f_X10_81 (hL.W hhw) rfl dX10_sellLoads_92 rfl ?_
    refine X_aload_n 96 dX10_sellLoads_95 rfl rfl ?_
    refine X_getI 99 f_X10_258 hhsh.1 rfl dX10_sellLoads_96 rfl ?_
    refine X_iadd 100 dX10_sellLoads_99 rfl ?_
    refine X_putI 103 f_X10_81 (Or.inl rfl) (hL.W hhw) rfl dX10_sellLoads_100 rfl ?_
    refine X_nmM (fun M3 eM3 => ?_)
    have hw := hw M3 eM3
    refine X_aload_n 104 dX10_sellLoads_103 rfl rfl ?_
    refine X_iconst 105 (v := 0) dX10_sellLoads_104 rfl rfl ?_
    refine X_putI 108 f_X10_258 (Or.inl rfl) hhsh.1 rfl dX10_sellLoads_105 rfl ?_
    refine X_nmM (fun M4 eM4 => ?_)
    have hw := hw M4 eM4
    exact X_retV rfl dX10_sellLoads_108 ⟨_, rfl, rfl, hw⟩
  · have hw := hw.1 c1
    refine X_aload_n 11 dX10_sellLoads_10 rfl rfl ?_
    refine X_getR 14 f_X10_11 (hL.W hhw) rfl (hL.wrr hhw (k := 0) (x := 1) rfl rfl (by decide)) dX10_sellLoads_11 rfl ?_
    refine X_aload_n 15 dX10_sellLoads_14 rfl rfl ?_
    refine X_getR 18 f_X10_261 hhsh.1 rfl hhsh.2.1 dX10_sellLoads_15 rfl ?_
    refine X_iload_n 19 dX10_sellLoads_18 rfl rfl ?_
    obtain ⟨c5, hw⟩ := hw
    refine Y_iald 20 (k := (tn v2)) hhsh.2.2 c5 rfl dX10_sellLoads_19 rfl ?_
    obtain ⟨c6, hw⟩ := hw
    refine X_aald 21 (Nat.le_refl 5) (by decide) (hL.war hhw (k := 1) (t := 5) (n := 10) rfl rfl (by decide)) c6 (hL.ownr hhw (vp_lt c6)) dX10_sellLoads_20 rfl ?_
    refine X_astore_n 22 (ls' := [.ref w, .ref sh, .int v2, .ref ((oA w (tn (mi M (sh + 1) (tn v2))))), junk]) dX10_sellLoads_21 rfl rfl (Nat.le_of_ble_eq_true rfl) rfl (Or.inr (Or.inr ⟨_, rfl, rfl⟩)) ?_
    refine X_aload_n 23 dX10_sellLoads_22 rfl rfl ?_
    refine X_getR 26 f_X10_30 (hL.W hhw) rfl (hL.wrr hhw (k := 0) (x := 3) rfl rfl (by decide)) dX10_sellLoads_23 rfl ?_
    refine X_aload_n 27 dX10_sellLoads_26 rfl rfl ?_
    refine X_getI 30 f_X10_225 (hL.own hhw (vp_lt c6)) rfl dX10_sellLoads_27 rfl ?_
    refine Y_cVI 33 (as := [.int ((mi M (oA w (tn (mi M (sh + 1) (tn v2)))) 0))]) m_X10_180 (s_X0_priceOf hL (hL.wob hhw (k := 3) (c := 0) rfl rfl (by decide)) hw) (hL.wob hhw (k := 3) (c := 0) rfl rfl (by decide)) rfl (by decide) (Nat.le_of_ble_eq_true rfl) dX10_sellLoads_30 rfl rfl (fun x8 M7 hw => ?_)
    refine X_istore 35 (ls' := [.ref w, .ref sh, .int v2, .ref ((oA w (tn (mi M (sh + 1) (tn v2))))), .int x8]) dX10_sellLoads_33 rfl (Nat.le_of_ble_eq_true rfl) rfl (Or.inr (Or.inr ⟨_, rfl, rfl⟩)) ?_
    refine X_aload_n 36 dX10_sellLoads_35 rfl rfl ?_
    refine X_dup 37 dX10_sellLoads_36 rfl rfl ?_
    refine X_getI 40 f_X10_264 (hL.own hhw (vp_lt c6)) rfl dX10_sellLoads_37 rfl ?_
    refine X_bipush 42 (v := 8) dX10_sellLoads_40 rfl rfl ?_
    refine X_iload 44 dX10_sellLoads_42 rfl rfl ?_
    refine X_iload 46 dX10_sellLoads_44 rfl rfl ?_
    refine X_aload_n 47 dX10_sellLoads_46 rfl rfl ?_
    refine X_getI 50 f_X10_267 (hL.own hhw (vp_lt c6)) rfl dX10_sellLoads_47 rfl ?_
    refine X_imul 51 dX10_sellLoads_50 rfl ?_
    refine X_bipush 53 (v := 100) dX10_sellLoads_51 rfl rfl ?_
    refine X_idiv 54 dX10_sellLoads_53 rfl (by decide) ?_
    refine X_isub 55 dX10_sellLoads_54 rfl ?_
    refine X_aload_n 56 dX10_sellLoads_55 rfl rfl ?_
    refine X_getQ 59 f_X10_39 (hL.W hhw) rfl dX10_sellLoads_56 rfl ?_
    obtain ⟨a9, ea9, ha9, hw⟩ := hw
    refine X_rfS ea9 ?_
    refine X_getI 62 f_X10_270 ha9 rfl dX10_sellLoads_59 rfl ?_
    refine X_isub 63 dX10_sellLoads_62 rfl ?_
    refine X_aload_n 64 dX10_sellLoads_63 rfl rfl ?_
    refine X_getI 67 f_X10_273 (hL.own hhw (vp_lt c6)) rfl dX10_sellLoads_64 rfl ?_
    refine X_isub 68 dX10_sellLoads_67 rfl ?_
    refine X_imul 69 dX10_sellLoads_68 rfl ?_
    refine X_iadd 70 dX10_sellLoads_69 rfl ?_
    refine X_putI 73 f_X10_264 (Or.inl rfl) (hL.own hhw (vp_lt c6)) rfl dX10_sellLoads_70 rfl ?_
    refine X_nmM (fun M10 eM10 => ?_)
    have hw := hw M10 eM10
    obtain ⟨x11, ex11⟩ : ∃ x11 : Int32, x11 = v2 + (1 : Int32) := ⟨_, rfl⟩
    have hw := hw x11 ex11
    refine X_iinc 76 (v := x11) (ls' := [.ref w, .ref sh, .int x11, .ref ((oA w (tn (mi M (sh + 1) (tn v2))))), .int x8]) dX10_sellLoads_73 rfl rfl (by rw [ex11]; rfl) rfl (Or.inr (Or.inr ⟨_, rfl, rfl⟩)) ?_
    refine X_goto 2 dX10_sellLoads_76 rfl ?_
    refine X_weak (ls' := [.ref w, .ref sh, .int x11, junk, junk]) (WK.s (WK.s (WK.s (WK.j (WK.j WK.n))))) (Nat.le_of_ble_eq_true rfl) ?_
    exact hK2 x11 M10 hw
def w_X10_sellLoads (L : Lay) (w : Nat) (sh : Nat) (M : Mem) (Q : Mem → Prop) : Prop := LP2 (fun K2 v2 M => w_X10_sellLoads_2 L w sh  K2 v2 M Q) (0 : Int32) M
set_option maxRecDepth 20000 in
theorem s_X10_sellLoads {L : Lay} (hL : LY L) {w : Nat} {sh : Nat} (hhw : IsW w) (hhsh : IsS L sh) {M : Mem} {Q : Mem → Prop} (hw : w_X10_sellLoads L w sh M Q) : MX yX10_sellLoads cX10_sellLoads none 5 3 0 0 [.ref w, .ref sh] (L, M) (QV L Q) := by
  unfold w_X10_sellLoads at hw
  refine MX_of (by decide) [.ref w, .ref sh, junk, junk, junk] (by rfl) (by exact Nat.le_of_ble_eq_true rfl) ?_
  show X (FM (QV L Q)) RX10 cX10_sellLoads none 5 "sellLoads" 3 0 0 (L, M) 0 [.ref w, .ref sh, junk, junk, junk] []
  refine X_iconst 1 (v := 0) dX10_sellLoads_0 rfl rfl ?_
  refine X_istore_n 2 (ls' := [.ref w, .ref sh, .int (0 : Int32), junk, junk]) dX10_sellLoads_1 rfl rfl (Nat.le_of_ble_eq_true rfl) rfl (Or.inr (Or.inr ⟨_, rfl, rfl⟩)) ?_
  exact LP2_s hw (G := fun v2 M => X (FM (QV L Q)) RX10 cX10_sellLoads none 5 "sellLoads" 3 0 0 (L, M) 2 [.ref w, .ref sh, .int v2, junk, junk] []) (fun K2 v2 M hb hK => t_X10_sellLoads_2 hL hhw hhsh hb  hK)
def w_X10_moveShips_2 (L : Lay) (w : Nat) (p0 : Int32) (K2 : Int32 → Mem → Prop) (v2 : Int32) (M : Mem) (Q : Mem → Prop) : Prop := ((v2 < (mi M w 4) → (vp_in v2 8 ∧ (w_X9_comesToCity L (sA w (tn v2)) p0 ((mi M w 0) + (1 : Int32)) M (fun x4 M3 => (((x4 = 0 → (∀ x6 : Int32, x6 = v2 + (1 : Int32) → (K2 x6 M3))) ∧ (¬ x4 = 0 → (w_X10_sellLoads L w (sA w (tn v2)) M3 (fun M7 => (∀ x8 : Int32, x8 = v2 + (1 : Int32) → (K2 x8 M7))))))))))) ∧ (¬ v2 < (mi M w 4) → (Q M)))
set_option maxRecDepth 20000 in
theorem t_X10_moveShips_2 {L : Lay} (hL : LY L) {w : Nat} {p0 : Int32} (hhw : IsW w) {K2 : Int32 → Mem → Prop} {v2 : Int32}  {M : Mem} {Q : Mem → Prop} (hw : w_X10_moveShips_2 L w p0 K2 v2 M Q) (hK2 : ∀ (v2 : Int32) (M : Mem), K2 v2 M → X (FM (QV L Q)) RX10 cX10_moveShips none 3 "moveShips" 4 0 0 (L, M) 2 [.ref w, .int p0, .int v2] []) : X (FM (QV L Q)) RX10 cX10_moveShips none 3 "moveShips" 4 0 0 (L, M) 2 [.ref w, .int p0, .int v2] [] := by
  unfold w_X10_moveShips_2 at hw
  refine X_iload_n 3 dX10_moveShips_2 rfl rfl ?_
  refine X_aload_n 4 dX10_moveShips_3 rfl rfl ?_
  refine X_getI 7 f_X10_72 (hL.W hhw) rfl dX10_moveShips_4 rfl ?_
  refine X_icmp_ge 45 10 dX10_moveShips_7 rfl rfl (fun c1 => ?_) (fun c1 => ?_)
  · have hw := hw.2 c1
    exact X_retV rfl dX10_moveShips_45 ⟨_, rfl, rfl, hw⟩
  · have hw := hw.1 c1
    refine X_aload_n 11 dX10_moveShips_10 rfl rfl ?_
    refine X_getR 14 f_X10_19 (hL.W hhw) rfl (hL.wrr hhw (k := 0) (x := 2) rfl rfl (by decide)) dX10_moveShips_11 rfl ?_
    refine X_iload_n 15 dX10_moveShips_14 rfl rfl ?_
    obtain ⟨c2, hw⟩ := hw
    refine X_aald 16 (by decide) (by decide) (hL.war hhw (k := 2) (t := 6) (n := 8) rfl rfl (by decide)) c2 (hL.shpr hhw (vp_lt c2)) dX10_moveShips_15 rfl ?_
    refine X_iload_n 17 dX10_moveShips_16 rfl rfl ?_
    refine X_aload_n 18 dX10_moveShips_17 rfl rfl ?_
    refine X_getI 21 f_X10_62 (hL.W hhw) rfl dX10_moveShips_18 rfl ?_
    refine X_iconst 22 (v := 1) dX10_moveShips_21 rfl rfl ?_
    refine X_iadd 23 dX10_moveShips_22 rfl ?_
    refine Y_cVZ 26 (as := [.int p0, .int (((mi M w 0) + (1 : Int32)))]) m_X10_251 (s_X9_comesToCity hL (hL.shp hhw (vp_lt c2)) hw) (hL.shp hhw (vp_lt c2)).1 rfl (by decide) (Nat.le_of_ble_eq_true rfl) dX10_moveShips_23 rfl rfl (fun x4 M3 bx4 hw => ?_)
    refine X_if_eq 39 29 (y := 0) dX10_moveShips_26 rfl rfl (fun c5 => ?_) (fun c5 => ?_)
    · have hw := hw.1 c5
      obtain ⟨x6, ex6⟩ : ∃ x6 : Int32, x6 = v2 + (1 : Int32) := ⟨_, rfl⟩
      have hw := hw x6 ex6
      refine X_iinc 42 (v := x6) (ls' := [.ref w, .int p0, .int x6]) dX10_moveShips_39 rfl rfl (by rw [ex6]; rfl) rfl (Or.inr (Or.inr ⟨_, rfl, rfl⟩)) ?_
      refine X_goto 2 dX10_moveShips_42 rfl ?_
      exact hK2 x6 M3 hw
    · have hw := hw.2 c5
      refine X_aload_n 30 dX10_moveShips_29 rfl rfl ?_
      refine X_aload_n 31 dX10_moveShips_30 rfl rfl ?_
      refine X_getR 34 f_X10_19 (hL.W hhw) rfl (hL.wrr hhw (k := 0) (x := 2) rfl rfl (by decide)) dX10_moveShips_31 rfl ?_
      refine X_iload_n 35 dX10_moveShips_34 rfl rfl ?_
      refine X_aald 36 (by decide) (by decide) (hL.war hhw (k := 2) (t := 6) (n := 8) rfl rfl (by decide)) c2 (hL.shpr hhw (vp_lt c2)) dX10_moveShips_35 rfl ?_
      refine Y_cVV 39 (as := [.ref ((sA w (tn v2)))]) m_X10_255 (s_X10_sellLoads hL hhw (hL.shp hhw (vp_lt c2)) hw) (hL.W hhw) rfl (by decide) (Nat.le_of_ble_eq_true rfl) dX10_moveShips_36 rfl rfl (fun M7 hw => ?_)
      obtain ⟨x8, ex8⟩ : ∃ x8 : Int32, x8 = v2 + (1 : Int32) := ⟨_, rfl⟩
      have hw := hw x8 ex8
      refine X_iinc 42 (v := x8) (ls' := [.ref w, .int p0, .int x8]) dX10_moveShips_39 rfl rfl (by rw [ex8]; rfl) rfl (Or.inr (Or.inr ⟨_, rfl, rfl⟩)) ?_
      refine X_goto 2 dX10_moveShips_42 rfl ?_
      exact hK2 x8 M7 hw
def w_X10_moveShips (L : Lay) (w : Nat) (p0 : Int32) (M : Mem) (Q : Mem → Prop) : Prop := LP2 (fun K2 v2 M => w_X10_moveShips_2 L w p0  K2 v2 M Q) (0 : Int32) M
set_option maxRecDepth 20000 in
theorem s_X10_moveShips {L : Lay} (hL : LY L) {w : Nat} {p0 : Int32} (hhw : IsW w) {M : Mem} {Q : Mem → Prop} (hw : w_X10_moveShips L w p0 M Q) : MX yX10_moveShips cX10_moveShips none 3 4 0 0 [.ref w, .int p0] (L, M) (QV L Q) := by
  unfold w_X10_moveShips at hw
  refine MX_of (by decide) [.ref w, .int p0, junk] (by rfl) (by exact Nat.le_of_ble_eq_true rfl) ?_
  show X (FM (QV L Q)) RX10 cX10_moveShips none 3 "moveShips" 4 0 0 (L, M) 0 [.ref w, .int p0, junk] []
  refine X_iconst 1 (v := 0) dX10_moveShips_0 rfl rfl ?_
  refine X_istore_n 2 (ls' := [.ref w, .int p0, .int (0 : Int32)]) dX10_moveShips_1 rfl rfl (Nat.le_of_ble_eq_true rfl) rfl (Or.inr (Or.inr ⟨_, rfl, rfl⟩)) ?_
  exact LP2_s hw (G := fun v2 M => X (FM (QV L Q)) RX10 cX10_moveShips none 3 "moveShips" 4 0 0 (L, M) 2 [.ref w, .int p0, .int v2] []) (fun K2 v2 M hb hK => t_X10_moveShips_2 hL hhw hb  hK)
def w_X10_keepMonth_2 (L : Lay) (w : Nat) (K2 : Int32 → Mem → Prop) (v1 : Int32) (M : Mem) (Q : Mem → Prop) : Prop := ((v1 < (mi M w 2) → (vp_in v1 10 ∧ (∀ M3 : Mem, M3 = si M (oA w (tn v1)) 10 (mi M (oA w (tn v1)) 7) → ((((mp M3 w 11) = none → (∀ M6 : Mem, M6 = si M3 (oA w (tn v1)) 11 (0 : Int32) → (∀ x7 : Int32, x7 = v1 + (1 : Int32) → (K2 x7 M6)))) ∧ ∀ a5 : Nat, (mp M3 w 11) = some a5 → (∀ M8 : Mem, M8 = si M3 (oA w (tn v1)) 11 (mi M3 (oA w (tn v1)) 8) → (∀ x9 : Int32, x9 = v1 + (1 : Int32) → (K2 x9 M8)))))))) ∧ (¬ v1 < (mi M w 2) → (Q M)))
set_option maxRecDepth 20000 in
theorem t_X10_keepMonth_2 {L : Lay} (hL : LY L) {w : Nat} (hhw : IsW w) {K2 : Int32 → Mem → Prop} {v1 : Int32}  {M : Mem} {Q : Mem → Prop} (hw : w_X10_keepMonth_2 L w K2 v1 M Q) (hK2 : ∀ (v1 : Int32) (M : Mem), K2 v1 M → X (FM (QV L Q)) RX10 cX10_keepMonth none 2 "keepMonth" 1 0 0 (L, M) 2 [.ref w, .int v1] []) : X (FM (QV L Q)) RX10 cX10_keepMonth none 2 "keepMonth" 1 0 0 (L, M) 2 [.ref w, .int v1] [] := by
  unfold w_X10_keepMonth_2 at hw
  refine X_iload_n 3 dX10_keepMonth_2 rfl rfl ?_
  refine X_aload_n 4 dX10_keepMonth_3 rfl rfl ?_
  refine X_getI 7 f_X10_65 (hL.W hhw) rfl dX10_keepMonth_4 rfl ?_
  refine X_icmp_ge 63 10 dX10_keepMonth_7 rfl rfl (fun c1 => ?_) (fun c1 => ?_)
  · have hw := hw.2 c1
    exact X_retV rfl dX10_keepMonth_63 ⟨_, rfl, rfl, hw⟩
  · have hw := hw.1 c1
    refine X_aload_n 11 dX10_keepMonth_10 rfl rfl ?_
    refine X_getR 14 f_X10_11 (hL.W hhw) rfl (hL.wrr hhw (k := 0) (x := 1) rfl rfl (by decide)) dX10_keepMonth_11 rfl ?_
    refine X_iload_n 15 dX10_keepMonth_14 rfl rfl ?_
    obtain ⟨c2, hw⟩ := hw
    refine X_aald 16 (Nat.le_refl 5) (by decide) (hL.war hhw (k := 1) (t := 5) (n := 10) rfl rfl (by decide)) c2 (hL.ownr hhw (vp_lt c2)) dX10_keepMonth_15 rfl ?_
    refine X_aload_n 17 dX10_keepMonth_16 rfl rfl ?_
    refine X_getR 20 f_X10_11 (hL.W hhw) rfl (hL.wrr hhw (k := 0) (x := 1) rfl rfl (by decide)) dX10_keepMonth_17 rfl ?_
    refine X_iload_n 21 dX10_keepMonth_20 rfl rfl ?_
    refine X_aald 22 (Nat.le_refl 5) (by decide) (hL.war hhw (k := 1) (t := 5) (n := 10) rfl rfl (by decide)) c2 (hL.ownr hhw (vp_lt c2)) dX10_keepMonth_21 rfl ?_
    refine X_getI 25 f_X10_141 (hL.own hhw (vp_lt c2)) rfl dX10_keepMonth_22 rfl ?_
    refine X_putI 28 f_X10_279 (Or.inl rfl) (hL.own hhw (vp_lt c2)) rfl dX10_keepMonth_25 rfl ?_
    refine X_nmM (fun M3 eM3 => ?_)
    have hw := hw M3 eM3
    refine X_aload_n 29 dX10_keepMonth_28 rfl rfl ?_
    refine X_getR 32 f_X10_11 (hL.W hhw) rfl (hL.wrr hhw (k := 0) (x := 1) rfl rfl (by decide)) dX10_keepMonth_29 rfl ?_
    refine X_iload_n 33 dX10_keepMonth_32 rfl rfl ?_
    refine X_aald 34 (Nat.le_refl 5) (by decide) (hL.war hhw (k := 1) (t := 5) (n := 10) rfl rfl (by decide)) c2 (hL.ownr hhw (vp_lt c2)) dX10_keepMonth_33 rfl ?_
    refine X_aload_n 35 dX10_keepMonth_34 rfl rfl ?_
    refine X_getQ 38 f_X10_87 (hL.W hhw) rfl dX10_keepMonth_35 rfl ?_
    refine X_ifnonnull 45 41 dX10_keepMonth_38 rfl rfl (fun a5 c4 => ?_) (fun c4 => ?_)
    · have hw := hw.2 a5 c4
      refine X_aload_n 46 dX10_keepMonth_45 rfl rfl ?_
      refine X_getR 49 f_X10_11 (hL.W hhw) rfl (hL.wrr hhw (k := 0) (x := 1) rfl rfl (by decide)) dX10_keepMonth_46 rfl ?_
      refine X_iload_n 50 dX10_keepMonth_49 rfl rfl ?_
      refine X_aald 51 (Nat.le_refl 5) (by decide) (hL.war hhw (k := 1) (t := 5) (n := 10) rfl rfl (by decide)) c2 (hL.ownr hhw (vp_lt c2)) dX10_keepMonth_50 rfl ?_
      refine X_getI 54 f_X10_206 (hL.own hhw (vp_lt c2)) rfl dX10_keepMonth_51 rfl ?_
      refine X_putI 57 f_X10_282 (Or.inl rfl) (hL.own hhw (vp_lt c2)) rfl dX10_keepMonth_54 rfl ?_
      refine X_nmM (fun M8 eM8 => ?_)
      have hw := hw M8 eM8
      obtain ⟨x9, ex9⟩ : ∃ x9 : Int32, x9 = v1 + (1 : Int32) := ⟨_, rfl⟩
      have hw := hw x9 ex9
      refine X_iinc 60 (v := x9) (ls' := [.ref w, .int x9]) dX10_keepMonth_57 rfl rfl (by rw [ex9]; rfl) rfl (Or.inr (Or.inr ⟨_, rfl, rfl⟩)) ?_
      refine X_goto 2 dX10_keepMonth_60 rfl ?_
      exact hK2 x9 M8 hw
    · have hw := hw.1 c4
      refine X_iconst 42 (v := 0) dX10_keepMonth_41 rfl rfl ?_
      refine X_goto 54 dX10_keepMonth_42 rfl ?_
      refine X_putI 57 f_X10_282 (Or.inl rfl) (hL.own hhw (vp_lt c2)) rfl dX10_keepMonth_54 rfl ?_
      refine X_nmM (fun M6 eM6 => ?_)
      have hw := hw M6 eM6
      obtain ⟨x7, ex7⟩ : ∃ x7 : Int32, x7 = v1 + (1 : Int32) := ⟨_, rfl⟩
      have hw := hw x7 ex7
      refine X_iinc 60 (v := x7) (ls' := [.ref w, .int x7]) dX10_keepMonth_57 rfl rfl (by rw [ex7]; rfl) rfl (Or.inr (Or.inr ⟨_, rfl, rfl⟩)) ?_
      refine X_goto 2 dX10_keepMonth_60 rfl ?_
      exact hK2 x7 M6 hw
def w_X10_keepMonth (L : Lay) (w : Nat) (M : Mem) (Q : Mem → Prop) : Prop := LP2 (fun K2 v1 M => w_X10_keepMonth_2 L w  K2 v1 M Q) (0 : Int32) M
set_option maxRecDepth 20000 in
theorem s_X10_keepMonth {L : Lay} (hL : LY L) {w : Nat} (hhw : IsW w) {M : Mem} {Q : Mem → Prop} (hw : w_X10_keepMonth L w M Q) : MX yX10_keepMonth cX10_keepMonth none 2 1 0 0 [.ref w] (L, M) (QV L Q) := by
  unfold w_X10_keepMonth at hw
  refine MX_of (by decide) [.ref w, junk] (by rfl) (by exact Nat.le_of_ble_eq_true rfl) ?_
  show X (FM (QV L Q)) RX10 cX10_keepMonth none 2 "keepMonth" 1 0 0 (L, M) 0 [.ref w, junk] []
  refine X_iconst 1 (v := 0) dX10_keepMonth_0 rfl rfl ?_
  refine X_istore_n 2 (ls' := [.ref w, .int (0 : Int32)]) dX10_keepMonth_1 rfl rfl (Nat.le_of_ble_eq_true rfl) rfl (Or.inr (Or.inr ⟨_, rfl, rfl⟩)) ?_
  exact LP2_s hw (G := fun v1 M => X (FM (QV L Q)) RX10 cX10_keepMonth none 2 "keepMonth" 1 0 0 (L, M) 2 [.ref w, .int v1] []) (fun K2 v1 M hb hK => t_X10_keepMonth_2 hL hhw hb  hK)
def w_X10_passDay_65 (L : Lay) (w : Nat) (p0 : Int32) (K65 : Int32 → Mem → Prop) (v2 : Int32) (M : Mem) (Q : Mem → Prop) : Prop := ((v2 < (mi M w 2) → (vp_in v2 10 ∧ (∀ M19 : Mem, M19 = si M (oA w (tn v2)) 6 (jmin (9999 : Int32) ((mi M (oA w (tn v2)) 6) + (mi M (oA w (tn v2)) 2))) → (∀ x20 : Int32, x20 = v2 + (1 : Int32) → (K65 x20 M19))))) ∧ (¬ v2 < (mi M w 2) → (w_X10_loadShips L w M (fun M10 => (w_X10_moveShips L w p0 M10 (fun M11 => (∀ x12 : Int32, x12 = (if p0 = (3 : Int32) then (1 : Int32) else (0 : Int32)) → (w_X0_useWant L (w + 3) x12 M11 (fun M13 => (∀ M14 : Mem, M14 = si M13 w 0 ((mi M13 w 0) + (1 : Int32)) → ((((jrem (mi M14 w 0) (30 : Int32)) = 0 → (w_X10_keepMonth L w M14 (fun M16 => (Q M16)))) ∧ (¬ (jrem (mi M14 w 0) (30 : Int32)) = 0 → (Q M14))))))))))))))
set_option maxRecDepth 20000 in
theorem t_X10_passDay_65 {L : Lay} (hL : LY L) {w : Nat} {p0 : Int32} (hhw : IsW w) {K65 : Int32 → Mem → Prop} {v2 : Int32}  {M : Mem} {Q : Mem → Prop} (hw : w_X10_passDay_65 L w p0 K65 v2 M Q) (hK65 : ∀ (v2 : Int32) (M : Mem), K65 v2 M → X (FM (QV L Q)) RX10 cX10_passDay none 3 "passDay" 5 0 0 (L, M) 65 [.ref w, .int p0, .int v2] []) : X (FM (QV L Q)) RX10 cX10_passDay none 3 "passDay" 5 0 0 (L, M) 65 [.ref w, .int p0, .int v2] [] := by
  unfold w_X10_passDay_65 at hw
  refine X_iload_n 66 dX10_passDay_65 rfl rfl ?_
  refine X_aload_n 67 dX10_passDay_66 rfl rfl ?_
  refine X_getI 70 f_X10_65 (hL.W hhw) rfl dX10_passDay_67 rfl ?_
  refine X_icmp_ge 113 73 dX10_passDay_70 rfl rfl (fun c9 => ?_) (fun c9 => ?_)
  · have hw := hw.2 c9
    refine X_aload_n 114 dX10_passDay_113 rfl rfl ?_
    refine Y_cVV 117 (as := []) m_X10_156 (s_X10_loadShips hL hhw hw) (hL.W hhw) rfl (by decide) (Nat.le_of_ble_eq_true rfl) dX10_passDay_114 rfl rfl (fun M10 hw => ?_)
    refine X_aload_n 118 dX10_passDay_117 rfl rfl ?_
    refine X_iload_n 119 dX10_passDay_118 rfl rfl ?_
    refine Y_cVV 122 (as := [.int p0]) m_X10_159 (s_X10_moveShips hL hhw hw) (hL.W hhw) rfl (by decide) (Nat.le_of_ble_eq_true rfl) dX10_passDay_119 rfl rfl (fun M11 hw => ?_)
    refine X_aload_n 123 dX10_passDay_122 rfl rfl ?_
    refine X_getR 126 f_X10_30 (hL.W hhw) rfl (hL.wrr hhw (k := 0) (x := 3) rfl rfl (by decide)) dX10_passDay_123 rfl ?_
    refine X_iload_n 127 dX10_passDay_126 rfl rfl ?_
    refine X_iconst 128 (v := 3) dX10_passDay_127 rfl rfl ?_
    obtain ⟨x12, ex12⟩ : ∃ x12 : Int32, x12 = (if p0 = (3 : Int32) then (1 : Int32) else (0 : Int32)) := ⟨_, rfl⟩
    have hw := hw x12 ex12
    have bx12 : BZ x12 := by rw [ex12]; (repeat' split) <;> first | exact Or.inl rfl | exact Or.inr rfl
    have hJ : X (FM (QV L Q)) RX10 cX10_passDay none 3 "passDay" 5 0 0 (L, M11) 136 [.ref w, .int p0, .int v2] [.int x12, .ref ((w + 3))] := by
      refine Y_cVV 139 (as := [.int x12]) m_X10_162 (s_X0_useWant hL (hL.wob hhw (k := 3) (c := 0) rfl rfl (by decide)) hw) (hL.wob hhw (k := 3) (c := 0) rfl rfl (by decide)) rfl (by decide) (Nat.le_of_ble_eq_true rfl) dX10_passDay_136 rfl rfl (fun M13 hw => ?_)
      refine X_aload_n 140 dX10_passDay_139 rfl rfl ?_
      refine X_dup 141 dX10_passDay_140 rfl rfl ?_
      refine X_getI 144 f_X10_62 (hL.W hhw) rfl dX10_passDay_141 rfl ?_
      refine X_iconst 145 (v := 1) dX10_passDay_144 rfl rfl ?_
      refine X_iadd 146 dX10_passDay_145 rfl ?_
      refine X_putI 149 f_X10_62 (Or.inl rfl) (hL.W hhw) rfl dX10_passDay_146 rfl ?_
      refine X_nmM (fun M14 eM14 => ?_)
      have hw := hw M14 eM14
      refine X_aload_n 150 dX10_passDay_149 rfl rfl ?_
      refine X_getI 153 f_X10_62 (hL.W hhw) rfl dX10_passDay_150 rfl ?_
      refine X_bipush 155 (v := 30) dX10_passDay_153 rfl rfl ?_
      refine Y_irem 156 dX10_passDay_155 rfl (by decide) ?_
      refine X_if_ne 163 159 (y := 0) dX10_passDay_156 rfl rfl (fun c15 => ?_) (fun c15 => ?_)
      · have hw := hw.2 c15
        exact X_retV rfl dX10_passDay_163 ⟨_, rfl, rfl, hw⟩
      · have hw := hw.1 c15
        refine X_aload_n 160 dX10_passDay_159 rfl rfl ?_
        refine Y_cVV 163 (as := []) m_X10_166 (s_X10_keepMonth hL hhw hw) (hL.W hhw) rfl (by decide) (Nat.le_of_ble_eq_true rfl) dX10_passDay_160 rfl rfl (fun M16 hw => ?_)
        exact X_retV rfl dX10_passDay_163 ⟨_, rfl, rfl, hw⟩
    refine X_icmp_ne 135 131 dX10_passDay_128 rfl rfl (fun c17 => ?_) (fun c17 => ?_)
    · refine X_iconst 136 (v := 0) dX10_passDay_135 rfl rfl ?_
      rw [if_neg c17] at ex12
      rw [ex12] at hJ
      exact hJ
    · refine X_iconst 132 (v := 1) dX10_passDay_131 rfl rfl ?_
      refine X_goto 136 dX10_passDay_132 rfl ?_
      rw [if_pos c17] at ex12
      rw [ex12] at hJ
      exact hJ
  · have hw := hw.1 c9
    refine X_aload_n 74 dX10_passDay_73 rfl rfl ?_
    refine X_getR 77 f_X10_11 (hL.W hhw) rfl (hL.wrr hhw (k := 0) (x := 1) rfl rfl (by decide)) dX10_passDay_74 rfl ?_
    refine X_iload_n 78 dX10_passDay_77 rfl rfl ?_
    obtain ⟨c18, hw⟩ := hw
    refine X_aald 79 (Nat.le_refl 5) (by decide) (hL.war hhw (k := 1) (t := 5) (n := 10) rfl rfl (by decide)) c18 (hL.ownr hhw (vp_lt c18)) dX10_passDay_78 rfl ?_
    refine X_sipush 82 (v := 9999) dX10_passDay_79 rfl rfl ?_
    refine X_aload_n 83 dX10_passDay_82 rfl rfl ?_
    refine X_getR 86 f_X10_11 (hL.W hhw) rfl (hL.wrr hhw (k := 0) (x := 1) rfl rfl (by decide)) dX10_passDay_83 rfl ?_
    refine X_iload_n 87 dX10_passDay_86 rfl rfl ?_
    refine X_aald 88 (Nat.le_refl 5) (by decide) (hL.war hhw (k := 1) (t := 5) (n := 10) rfl rfl (by decide)) c18 (hL.ownr hhw (vp_lt c18)) dX10_passDay_87 rfl ?_
    refine X_getI 91 f_X10_144 (hL.own hhw (vp_lt c18)) rfl dX10_passDay_88 rfl ?_
    refine X_aload_n 92 dX10_passDay_91 rfl rfl ?_
    refine X_getR 95 f_X10_11 (hL.W hhw) rfl (hL.wrr hhw (k := 0) (x := 1) rfl rfl (by decide)) dX10_passDay_92 rfl ?_
    refine X_iload_n 96 dX10_passDay_95 rfl rfl ?_
    refine X_aald 97 (Nat.le_refl 5) (by decide) (hL.war hhw (k := 1) (t := 5) (n := 10) rfl rfl (by decide)) c18 (hL.ownr hhw (vp_lt c18)) dX10_passDay_96 rfl ?_
    refine X_getI 100 f_X10_147 (hL.own hhw (vp_lt c18)) rfl dX10_passDay_97 rfl ?_
    refine X_iadd 101 dX10_passDay_100 rfl ?_
    refine Y_mmin 104 l_X10_150 (by decide) (Nat.le_of_ble_eq_true rfl) dX10_passDay_101 rfl ?_
    refine X_putI 107 f_X10_144 (Or.inl rfl) (hL.own hhw (vp_lt c18)) rfl dX10_passDay_104 rfl ?_
    refine X_nmM (fun M19 eM19 => ?_)
    have hw := hw M19 eM19
    obtain ⟨x20, ex20⟩ : ∃ x20 : Int32, x20 = v2 + (1 : Int32) := ⟨_, rfl⟩
    have hw := hw x20 ex20
    refine X_iinc 110 (v := x20) (ls' := [.ref w, .int p0, .int x20]) dX10_passDay_107 rfl rfl (by rw [ex20]; rfl) rfl (Or.inr (Or.inr ⟨_, rfl, rfl⟩)) ?_
    refine X_goto 65 dX10_passDay_110 rfl ?_
    exact hK65 x20 M19 hw
def w_X10_passDay_63 (L : Lay) (w : Nat) (p0 : Int32)   (M : Mem) (Q : Mem → Prop) : Prop := LP2 (fun K65 v2 M => w_X10_passDay_65 L w p0  K65 v2 M Q) (0 : Int32) M
set_option maxRecDepth 20000 in
theorem t_X10_passDay_63 {L : Lay} (hL : LY L) {w : Nat} {p0 : Int32} (hhw : IsW w)    {M : Mem} {Q : Mem → Prop} (hw : w_X10_passDay_63 L w p0   M Q)  : X (FM (QV L Q)) RX10 cX10_passDay none 3 "passDay" 5 0 0 (L, M) 63 [.ref w, .int p0, junk] [] := by
  unfold w_X10_passDay_63 at hw
  refine X_iconst 64 (v := 0) dX10_passDay_63 rfl rfl ?_
  refine X_istore_n 65 (ls' := [.ref w, .int p0, .int (0 : Int32)]) dX10_passDay_64 rfl rfl (Nat.le_of_ble_eq_true rfl) rfl (Or.inr (Or.inr ⟨_, rfl, rfl⟩)) ?_
  exact LP2_s hw (G := fun v2 M => X (FM (QV L Q)) RX10 cX10_passDay none 3 "passDay" 5 0 0 (L, M) 65 [.ref w, .int p0, .int v2] []) (fun K65 v2 M hb hK => t_X10_passDay_65 hL hhw hb  hK)
def w_X10_passDay_39 (L : Lay) (w : Nat) (p0 : Int32) (K39 : Int32 → Mem → Prop) (v2 : Int32) (M : Mem) (Q : Mem → Prop) : Prop := ((v2 < (mi M w 2) → (vp_in v2 10 ∧ (∀ M23 : Mem, M23 = si M (oA w (tn v2)) 7 (0 : Int32) → (∀ x24 : Int32, x24 = v2 + (1 : Int32) → (K39 x24 M23))))) ∧ (¬ v2 < (mi M w 2) → (w_X10_passDay_63 L w p0   M Q)))
set_option maxRecDepth 20000 in
theorem t_X10_passDay_39 {L : Lay} (hL : LY L) {w : Nat} {p0 : Int32} (hhw : IsW w) {K39 : Int32 → Mem → Prop} {v2 : Int32}  {M : Mem} {Q : Mem → Prop} (hw : w_X10_passDay_39 L w p0 K39 v2 M Q) (hK39 : ∀ (v2 : Int32) (M : Mem), K39 v2 M → X (FM (QV L Q)) RX10 cX10_passDay none 3 "passDay" 5 0 0 (L, M) 39 [.ref w, .int p0, .int v2] []) : X (FM (QV L Q)) RX10 cX10_passDay none 3 "passDay" 5 0 0 (L, M) 39 [.ref w, .int p0, .int v2] [] := by
  unfold w_X10_passDay_39 at hw
  refine X_iload_n 40 dX10_passDay_39 rfl rfl ?_
  refine X_aload_n 41 dX10_passDay_40 rfl rfl ?_
  refine X_getI 44 f_X10_65 (hL.W hhw) rfl dX10_passDay_41 rfl ?_
  refine X_icmp_ge 63 47 dX10_passDay_44 rfl rfl (fun c21 => ?_) (fun c21 => ?_)
  · have hw := hw.2 c21
    refine X_weak (ls' := [.ref w, .int p0, junk]) (WK.s (WK.s (WK.j WK.n))) (Nat.le_of_ble_eq_true rfl) ?_
    exact t_X10_passDay_63 hL hhw  hw 
  · have hw := hw.1 c21
    refine X_aload_n 48 dX10_passDay_47 rfl rfl ?_
    refine X_getR 51 f_X10_11 (hL.W hhw) rfl (hL.wrr hhw (k := 0) (x := 1) rfl rfl (by decide)) dX10_passDay_48 rfl ?_
    refine X_iload_n 52 dX10_passDay_51 rfl rfl ?_
    obtain ⟨c22, hw⟩ := hw
    refine X_aald 53 (Nat.le_refl 5) (by decide) (hL.war hhw (k := 1) (t := 5) (n := 10) rfl rfl (by decide)) c22 (hL.ownr hhw (vp_lt c22)) dX10_passDay_52 rfl ?_
    refine X_iconst 54 (v := 0) dX10_passDay_53 rfl rfl ?_
    refine X_putI 57 f_X10_141 (Or.inl rfl) (hL.own hhw (vp_lt c22)) rfl dX10_passDay_54 rfl ?_
    refine X_nmM (fun M23 eM23 => ?_)
    have hw := hw M23 eM23
    obtain ⟨x24, ex24⟩ : ∃ x24 : Int32, x24 = v2 + (1 : Int32) := ⟨_, rfl⟩
    have hw := hw x24 ex24
    refine X_iinc 60 (v := x24) (ls' := [.ref w, .int p0, .int x24]) dX10_passDay_57 rfl rfl (by rw [ex24]; rfl) rfl (Or.inr (Or.inr ⟨_, rfl, rfl⟩)) ?_
    refine X_goto 39 dX10_passDay_60 rfl ?_
    exact hK39 x24 M23 hw
def w_X10_passDay_37 (L : Lay) (w : Nat) (p0 : Int32)   (M : Mem) (Q : Mem → Prop) : Prop := LP2 (fun K39 v2 M => w_X10_passDay_39 L w p0  K39 v2 M Q) (0 : Int32) M
set_option maxRecDepth 20000 in
theorem t_X10_passDay_37 {L : Lay} (hL : LY L) {w : Nat} {p0 : Int32} (hhw : IsW w)    {M : Mem} {Q : Mem → Prop} (hw : w_X10_passDay_37 L w p0   M Q)  : X (FM (QV L Q)) RX10 cX10_passDay none 3 "passDay" 5 0 0 (L, M) 37 [.ref w, .int p0, junk] [] := by
  unfold w_X10_passDay_37 at hw
  refine X_iconst 38 (v := 0) dX10_passDay_37 rfl rfl ?_
  refine X_istore_n 39 (ls' := [.ref w, .int p0, .int (0 : Int32)]) dX10_passDay_38 rfl rfl (Nat.le_of_ble_eq_true rfl) rfl (Or.inr (Or.inr ⟨_, rfl, rfl⟩)) ?_
  exact LP2_s hw (G := fun v2 M => X (FM (QV L Q)) RX10 cX10_passDay none 3 "passDay" 5 0 0 (L, M) 39 [.ref w, .int p0, .int v2] []) (fun K39 v2 M hb hK => t_X10_passDay_39 hL hhw hb  hK)
def w_X10_passDay (L : Lay) (w : Nat) (p0 : Int32) (M : Mem) (Q : Mem → Prop) : Prop := ∀ M1 : Mem, M1 = sq M w 9 (mp M w 10) → ((((jrem (mi M1 w 0) (30 : Int32)) = 0 → (w_X10_renewPact L w M1 (fun M3 => ((((mp M3 w 11) = none → (w_X10_passDay_37 L w p0   M3 Q)) ∧ ∀ a5 : Nat, (mp M3 w 11) = some a5 → (w_X10_weighOwners L w M3 (fun x7 M6 => (w_X10_divideIssue L w x7 M6 (fun M8 => (w_X10_passDay_37 L w p0   M8 Q)))))))))) ∧ (¬ (jrem (mi M1 w 0) (30 : Int32)) = 0 → (w_X10_passDay_63 L w p0   M1 Q))))
set_option maxRecDepth 20000 in
theorem s_X10_passDay {L : Lay} (hL : LY L) {w : Nat} {p0 : Int32} (hhw : IsW w) {M : Mem} {Q : Mem → Prop} (hw : w_X10_passDay L w p0 M Q) : MX yX10_passDay cX10_passDay none 3 5 0 0 [.ref w, .int p0] (L, M) (QV L Q) := by
  unfold w_X10_passDay at hw
  refine MX_of (by decide) [.ref w, .int p0, junk] (by rfl) (by exact Nat.le_of_ble_eq_true rfl) ?_
  show X (FM (QV L Q)) RX10 cX10_passDay none 3 "passDay" 5 0 0 (L, M) 0 [.ref w, .int p0, junk] []
  refine X_aload_n 1 dX10_passDay_0 rfl rfl ?_
  refine X_aload_n 2 dX10_passDay_1 rfl rfl ?_
  refine X_getQ 5 f_X10_43 (hL.W hhw) rfl dX10_passDay_2 rfl ?_
  refine X_putQ (x := (mp M w 10)) 8 f_X10_39 (Or.inl ⟨_, rfl⟩) (Or.inl rfl) (hL.W hhw) rfl dX10_passDay_5 rfl ?_
  refine X_nmM (fun M1 eM1 => ?_)
  have hw := hw M1 eM1
  refine X_aload_n 9 dX10_passDay_8 rfl rfl ?_
  refine X_getI 12 f_X10_62 (hL.W hhw) rfl dX10_passDay_9 rfl ?_
  refine X_bipush 14 (v := 30) dX10_passDay_12 rfl rfl ?_
  refine Y_irem 15 dX10_passDay_14 rfl (by decide) ?_
  refine X_if_ne 63 18 (y := 0) dX10_passDay_15 rfl rfl (fun c2 => ?_) (fun c2 => ?_)
  · have hw := hw.2 c2
    exact t_X10_passDay_63 hL hhw  hw 
  · have hw := hw.1 c2
    refine X_aload_n 19 dX10_passDay_18 rfl rfl ?_
    refine Y_cVV 22 (as := []) m_X10_130 (s_X10_renewPact hL hhw hw) (hL.W hhw) rfl (by decide) (Nat.le_of_ble_eq_true rfl) dX10_passDay_19 rfl rfl (fun M3 hw => ?_)
    refine X_aload_n 23 dX10_passDay_22 rfl rfl ?_
    refine X_getQ 26 f_X10_87 (hL.W hhw) rfl dX10_passDay_23 rfl ?_
    refine X_ifnull 37 29 dX10_passDay_26 rfl rfl (fun c4 => ?_) (fun a5 c4 => ?_)
    · have hw := hw.1 c4
      exact t_X10_passDay_37 hL hhw  hw 
    · have hw := hw.2 a5 c4
      refine X_aload_n 30 dX10_passDay_29 rfl rfl ?_
      refine X_aload_n 31 dX10_passDay_30 rfl rfl ?_
      refine Y_cVI 34 (as := []) m_X10_133 (s_X10_weighOwners hL hhw hw) (hL.W hhw) rfl (by decide) (Nat.le_of_ble_eq_true rfl) dX10_passDay_31 rfl rfl (fun x7 M6 hw => ?_)
      refine Y_cVV 37 (as := [.int x7]) m_X10_137 (s_X10_divideIssue hL hhw hw) (hL.W hhw) rfl (by decide) (Nat.le_of_ble_eq_true rfl) dX10_passDay_34 rfl rfl (fun M8 hw => ?_)
      exact t_X10_passDay_37 hL hhw  hw 
def w_X10_fineBy (L : Lay) (w : Nat) (p0 : Option Nat) (ow : Nat) (p2 : Int32) (M : Mem) (Q : Int32 → Mem → Prop) : Prop := ((p0 = none → (Q (0 : Int32) M)) ∧ ∀ a2 : Nat, p0 = some a2 → (∃ a3 : Nat, (mp M w 9) = some a3 ∧ OB L a3 1 ∧ (w_X1_isVoid L a3 (2 : Int32) M (fun x5 M4 => (((x5 = 0 → (w_X10_tellFacts L w M4 (fun M7 => (w_X6_setOwner L (w + 5) ow M7 (fun M8 => (w_X6_setFact L (w + 5) (19 : Int32) p2 M8 (fun M9 => (∃ a10 : Nat, p0 = some a10 ∧ OB L a10 4 ∧ (w_X6_reckon L (w + 5) (mp M9 a10 2) (0 : Int32) M9 (fun x12 M11 => (w_X10_limited L x12 M11 (fun x14 M13 => (Q x14 M13))))))))))))) ∧ (¬ x5 = 0 → (Q (0 : Int32) M4))))))))
set_option maxRecDepth 20000 in
theorem s_X10_fineBy {L : Lay} (hL : LY L) {w : Nat} {p0 : Option Nat} {ow : Nat} {p2 : Int32} (hhw : IsW w) (hhow : OB L ow 3) {M : Mem} {Q : Int32 → Mem → Prop} (hw : w_X10_fineBy L w p0 ow p2 M Q) : MX yX10_fineBy cX10_fineBy (some .int) 4 4 0 0 [.ref w, va_rf p0, .ref ow, .int p2] (L, M) (QI L Q) := by
  unfold w_X10_fineBy at hw
  refine MX_of (by decide) [.ref w, va_rf p0, .ref ow, .int p2] (by cases p0 <;> rfl) (by cases p0 <;> exact Nat.le_of_ble_eq_true rfl) ?_
  show X (FM (QI L Q)) RX10 cX10_fineBy (some .int) 4 "fineBy" 4 0 0 (L, M) 0 [.ref w, va_rf p0, .ref ow, .int p2] []
  refine X_aloadQ_n 1 dX10_fineBy_0 rfl rfl ?_
  refine X_ifnull 15 4 dX10_fineBy_1 rfl rfl (fun c1 => ?_) (fun a2 c1 => ?_)
  · have hw := hw.1 c1
    refine X_iconst 16 (v := 0) dX10_fineBy_15 rfl rfl ?_
    exact X_ret rfl rfl dX10_fineBy_16 ⟨_, _, rfl, rfl, hw⟩
  · have hw := hw.2 a2 c1
    refine X_aload_n 5 dX10_fineBy_4 rfl rfl ?_
    refine X_getQ 8 f_X10_39 (hL.W hhw) rfl dX10_fineBy_5 rfl ?_
    obtain ⟨a3, ea3, ha3, hw⟩ := hw
    refine X_rfS ea3 ?_
    refine X_iconst 9 (v := 2) dX10_fineBy_8 rfl rfl ?_
    refine Y_cVZ 12 (as := [.int (2 : Int32)]) m_X10_101 (s_X1_isVoid hL ha3 hw) ha3 rfl (by decide) (Nat.le_of_ble_eq_true rfl) dX10_fineBy_9 rfl rfl (fun x5 M4 bx5 hw => ?_)
    refine X_if_eq 17 15 (y := 0) dX10_fineBy_12 rfl rfl (fun c6 => ?_) (fun c6 => ?_)
    · have hw := hw.1 c6
      refine X_aload_n 18 dX10_fineBy_17 rfl rfl ?_
      refine Y_cVV 21 (as := []) m_X10_110 (s_X10_tellFacts hL hhw hw) (hL.W hhw) rfl (by decide) (Nat.le_of_ble_eq_true rfl) dX10_fineBy_18 rfl rfl (fun M7 hw => ?_)
      refine X_aload_n 22 dX10_fineBy_21 rfl rfl ?_
      refine X_getR 25 f_X10_52 (hL.W hhw) rfl (hL.wrr hhw (k := 0) (x := 5) rfl rfl (by decide)) dX10_fineBy_22 rfl ?_
      refine X_aload_n 26 dX10_fineBy_25 rfl rfl ?_
      refine Y_cVV 29 (as := [.ref ow]) m_X10_113 (s_X6_setOwner hL (hL.rek hhw) hhow hw) (hL.rek hhw).1 rfl (by decide) (Nat.le_of_ble_eq_true rfl) dX10_fineBy_26 rfl rfl (fun M8 hw => ?_)
      refine X_aload_n 30 dX10_fineBy_29 rfl rfl ?_
      refine X_getR 33 f_X10_52 (hL.W hhw) rfl (hL.wrr hhw (k := 0) (x := 5) rfl rfl (by decide)) dX10_fineBy_30 rfl ?_
      refine X_bipush 35 (v := 19) dX10_fineBy_33 rfl rfl ?_
      refine X_iload_n 36 dX10_fineBy_35 rfl rfl ?_
      refine Y_cVV 39 (as := [.int (19 : Int32), .int p2]) m_X10_116 (s_X6_setFact hL (hL.rek hhw) hw) (hL.rek hhw).1 rfl (by decide) (Nat.le_of_ble_eq_true rfl) dX10_fineBy_36 rfl rfl (fun M9 hw => ?_)
      refine X_aload_n 40 dX10_fineBy_39 rfl rfl ?_
      refine X_getR 43 f_X10_52 (hL.W hhw) rfl (hL.wrr hhw (k := 0) (x := 5) rfl rfl (by decide)) dX10_fineBy_40 rfl ?_
      refine X_aloadQ_n 44 dX10_fineBy_43 rfl rfl ?_
      obtain ⟨a10, ea10, ha10, hw⟩ := hw
      refine X_rfS ea10 ?_
      refine X_getQ 47 f_X10_119 ha10 rfl dX10_fineBy_44 rfl ?_
      refine X_iconst 48 (v := 0) dX10_fineBy_47 rfl rfl ?_
      refine Y_cVI 51 (as := [va_rf ((mp M9 a10 2)), .int (0 : Int32)]) m_X10_122 (s_X6_reckon hL (hL.rek hhw) hw) (hL.rek hhw).1 rfl (by decide) (Nat.le_of_ble_eq_true rfl) dX10_fineBy_48 rfl rfl (fun x12 M11 hw => ?_)
      refine Y_cSI 54 (as := [.int x12]) m_X10_126 (s_X10_limited hL  hw) rfl (by decide) (Nat.le_of_ble_eq_true rfl) dX10_fineBy_51 rfl rfl (fun x14 M13 hw => ?_)
      exact X_ret rfl rfl dX10_fineBy_54 ⟨_, _, rfl, rfl, hw⟩
    · have hw := hw.2 c6
      refine X_iconst 16 (v := 0) dX10_fineBy_15 rfl rfl ?_
      exact X_ret rfl rfl dX10_fineBy_16 ⟨_, _, rfl, rfl, hw⟩
def w_X10_barNow (L : Lay) (w : Nat) (M : Mem) (Q : Int32 → Mem → Prop) : Prop := (((mp M w 11) = none → (Q (-1 : Int32) M)) ∧ ∀ a2 : Nat, (mp M w 11) = some a2 → (∃ a3 : Nat, (mp M w 9) = some a3 ∧ OB L a3 1 ∧ (w_X1_isVoid L a3 (5 : Int32) M (fun x5 M4 => (((x5 = 0 → (∃ a7 : Nat, (mp M4 w 11) = some a7 ∧ OB L a7 4 ∧ (Q (mi M4 a7 6) M4))) ∧ (¬ x5 = 0 → (Q (-1 : Int32) M4))))))))
set_option maxRecDepth 20000 in
theorem s_X10_barNow {L : Lay} (hL : LY L) {w : Nat} (hhw : IsW w) {M : Mem} {Q : Int32 → Mem → Prop} (hw : w_X10_barNow L w M Q) : MX yX10_barNow cX10_barNow (some .int) 1 2 0 0 [.ref w] (L, M) (QI L Q) := by
  unfold w_X10_barNow at hw
  refine MX_of (by decide) [.ref w] (by rfl) (by exact Nat.le_of_ble_eq_true rfl) ?_
  show X (FM (QI L Q)) RX10 cX10_barNow (some .int) 1 "barNow" 2 0 0 (L, M) 0 [.ref w] []
  refine X_aload_n 1 dX10_barNow_0 rfl rfl ?_
  refine X_getQ 4 f_X10_87 (hL.W hhw) rfl dX10_barNow_1 rfl ?_
  refine X_ifnull 18 7 dX10_barNow_4 rfl rfl (fun c1 => ?_) (fun a2 c1 => ?_)
  · have hw := hw.1 c1
    refine X_iconst 19 (v := -1) dX10_barNow_18 rfl rfl ?_
    refine X_goto 29 dX10_barNow_19 rfl ?_
    exact X_ret rfl rfl dX10_barNow_29 ⟨_, _, rfl, rfl, hw⟩
  · have hw := hw.2 a2 c1
    refine X_aload_n 8 dX10_barNow_7 rfl rfl ?_
    refine X_getQ 11 f_X10_39 (hL.W hhw) rfl dX10_barNow_8 rfl ?_
    obtain ⟨a3, ea3, ha3, hw⟩ := hw
    refine X_rfS ea3 ?_
    refine X_iconst 12 (v := 5) dX10_barNow_11 rfl rfl ?_
    refine Y_cVZ 15 (as := [.int (5 : Int32)]) m_X10_101 (s_X1_isVoid hL ha3 hw) ha3 rfl (by decide) (Nat.le_of_ble_eq_true rfl) dX10_barNow_12 rfl rfl (fun x5 M4 bx5 hw => ?_)
    refine X_if_eq 22 18 (y := 0) dX10_barNow_15 rfl rfl (fun c6 => ?_) (fun c6 => ?_)
    · have hw := hw.1 c6
      refine X_aload_n 23 dX10_barNow_22 rfl rfl ?_
      refine X_getQ 26 f_X10_87 (hL.W hhw) rfl dX10_barNow_23 rfl ?_
      obtain ⟨a7, ea7, ha7, hw⟩ := hw
      refine X_rfS ea7 ?_
      refine X_getI 29 f_X10_105 ha7 rfl dX10_barNow_26 rfl ?_
      exact X_ret rfl rfl dX10_barNow_29 ⟨_, _, rfl, rfl, hw⟩
    · have hw := hw.2 c6
      refine X_iconst 19 (v := -1) dX10_barNow_18 rfl rfl ?_
      refine X_goto 29 dX10_barNow_19 rfl ?_
      exact X_ret rfl rfl dX10_barNow_29 ⟨_, _, rfl, rfl, hw⟩
def w_X10_copyFrom_57 (L : Lay) (w : Nat) (w2 : Nat) (K57 : Int32 → Mem → Prop) (v2 : Int32) (M : Mem) (Q : Mem → Prop) : Prop := ((v2 < (mi M w 4) → (vp_in v2 8 ∧ (w_X9_copyFrom L (sA w (tn v2)) (sA w2 (tn v2)) M (fun M20 => (∀ x21 : Int32, x21 = v2 + (1 : Int32) → (K57 x21 M20)))))) ∧ (¬ v2 < (mi M w 4) → (∀ M9 : Mem, M9 = si M w 5 (mi M w2 5) → (∀ M10 : Mem, M10 = si M9 w 6 (mi M9 w2 6) → (∀ M11 : Mem, M11 = si M10 w 7 (mi M10 w2 7) → (w_X0_copyFrom L (w + 3) (w2 + 3) M11 (fun M12 => (∀ M13 : Mem, M13 = sq M12 w 9 (mp M12 w2 9) → (∀ M14 : Mem, M14 = sq M13 w 10 (mp M13 w2 10) → (∀ M15 : Mem, M15 = sq M14 w 11 (mp M14 w2 11) → (∀ M16 : Mem, M16 = sq M15 w 12 (mp M15 w2 12) → (∀ M17 : Mem, M17 = si M16 w 13 (mi M16 w2 13) → (∀ M18 : Mem, M18 = si M17 w 14 (-1 : Int32) → (Q M18))))))))))))))
set_option maxRecDepth 20000 in
theorem t_X10_copyFrom_57 {L : Lay} (hL : LY L) {w : Nat} {w2 : Nat} (hhw : IsW w) (hhw2 : IsW w2) {K57 : Int32 → Mem → Prop} {v2 : Int32}  {M : Mem} {Q : Mem → Prop} (hw : w_X10_copyFrom_57 L w w2 K57 v2 M Q) (hK57 : ∀ (v2 : Int32) (M : Mem), K57 v2 M → X (FM (QV L Q)) RX10 cX10_copyFrom none 3 "copyFrom" 4 0 0 (L, M) 57 [.ref w, .ref w2, .int v2] []) : X (FM (QV L Q)) RX10 cX10_copyFrom none 3 "copyFrom" 4 0 0 (L, M) 57 [.ref w, .ref w2, .int v2] [] := by
  unfold w_X10_copyFrom_57 at hw
  refine X_iload_n 58 dX10_copyFrom_57 rfl rfl ?_
  refine X_aload_n 59 dX10_copyFrom_58 rfl rfl ?_
  refine X_getI 62 f_X10_72 (hL.W hhw) rfl dX10_copyFrom_59 rfl ?_
  refine X_icmp_ge 86 65 dX10_copyFrom_62 rfl rfl (fun c8 => ?_) (fun c8 => ?_)
  · have hw := hw.2 c8
    refine X_aload_n 87 dX10_copyFrom_86 rfl rfl ?_
    refine X_aload_n 88 dX10_copyFrom_87 rfl rfl ?_
    refine X_getI 91 f_X10_23 (hL.W hhw2) rfl dX10_copyFrom_88 rfl ?_
    refine X_putI 94 f_X10_23 (Or.inl rfl) (hL.W hhw) rfl dX10_copyFrom_91 rfl ?_
    refine X_nmM (fun M9 eM9 => ?_)
    have hw := hw M9 eM9
    refine X_aload_n 95 dX10_copyFrom_94 rfl rfl ?_
    refine X_aload_n 96 dX10_copyFrom_95 rfl rfl ?_
    refine X_getI 99 f_X10_78 (hL.W hhw2) rfl dX10_copyFrom_96 rfl ?_
    refine X_putI 102 f_X10_78 (Or.inl rfl) (hL.W hhw) rfl dX10_copyFrom_99 rfl ?_
    refine X_nmM (fun M10 eM10 => ?_)
    have hw := hw M10 eM10
    refine X_aload_n 103 dX10_copyFrom_102 rfl rfl ?_
    refine X_aload_n 104 dX10_copyFrom_103 rfl rfl ?_
    refine X_getI 107 f_X10_81 (hL.W hhw2) rfl dX10_copyFrom_104 rfl ?_
    refine X_putI 110 f_X10_81 (Or.inl rfl) (hL.W hhw) rfl dX10_copyFrom_107 rfl ?_
    refine X_nmM (fun M11 eM11 => ?_)
    have hw := hw M11 eM11
    refine X_aload_n 111 dX10_copyFrom_110 rfl rfl ?_
    refine X_getR 114 f_X10_30 (hL.W hhw) rfl (hL.wrr hhw (k := 0) (x := 3) rfl rfl (by decide)) dX10_copyFrom_111 rfl ?_
    refine X_aload_n 115 dX10_copyFrom_114 rfl rfl ?_
    refine X_getR 118 f_X10_30 (hL.W hhw2) rfl (hL.wrr hhw2 (k := 0) (x := 3) rfl rfl (by decide)) dX10_copyFrom_115 rfl ?_
    refine Y_cVV 121 (as := [.ref ((w2 + 3))]) m_X10_84 (s_X0_copyFrom hL (hL.wob hhw (k := 3) (c := 0) rfl rfl (by decide)) (hL.wob hhw2 (k := 3) (c := 0) rfl rfl (by decide)) hw) (hL.wob hhw (k := 3) (c := 0) rfl rfl (by decide)) rfl (by decide) (Nat.le_of_ble_eq_true rfl) dX10_copyFrom_118 rfl rfl (fun M12 hw => ?_)
    refine X_aload_n 122 dX10_copyFrom_121 rfl rfl ?_
    refine X_aload_n 123 dX10_copyFrom_122 rfl rfl ?_
    refine X_getQ 126 f_X10_39 (hL.W hhw2) rfl dX10_copyFrom_123 rfl ?_
    refine X_putQ (x := (mp M12 w2 9)) 129 f_X10_39 (Or.inl ⟨_, rfl⟩) (Or.inl rfl) (hL.W hhw) rfl dX10_copyFrom_126 rfl ?_
    refine X_nmM (fun M13 eM13 => ?_)
    have hw := hw M13 eM13
    refine X_aload_n 130 dX10_copyFrom_129 rfl rfl ?_
    refine X_aload_n 131 dX10_copyFrom_130 rfl rfl ?_
    refine X_getQ 134 f_X10_43 (hL.W hhw2) rfl dX10_copyFrom_131 rfl ?_
    refine X_putQ (x := (mp M13 w2 10)) 137 f_X10_43 (Or.inl ⟨_, rfl⟩) (Or.inl rfl) (hL.W hhw) rfl dX10_copyFrom_134 rfl ?_
    refine X_nmM (fun M14 eM14 => ?_)
    have hw := hw M14 eM14
    refine X_aload_n 138 dX10_copyFrom_137 rfl rfl ?_
    refine X_aload_n 139 dX10_copyFrom_138 rfl rfl ?_
    refine X_getQ 142 f_X10_87 (hL.W hhw2) rfl dX10_copyFrom_139 rfl ?_
    refine X_putQ (x := (mp M14 w2 11)) 145 f_X10_87 (Or.inl ⟨_, rfl⟩) (Or.inl rfl) (hL.W hhw) rfl dX10_copyFrom_142 rfl ?_
    refine X_nmM (fun M15 eM15 => ?_)
    have hw := hw M15 eM15
    refine X_aload_n 146 dX10_copyFrom_145 rfl rfl ?_
    refine X_aload_n 147 dX10_copyFrom_146 rfl rfl ?_
    refine X_getQ 150 f_X10_91 (hL.W hhw2) rfl dX10_copyFrom_147 rfl ?_
    refine X_putQ (x := (mp M15 w2 12)) 153 f_X10_91 (Or.inl ⟨_, rfl⟩) (Or.inl rfl) (hL.W hhw) rfl dX10_copyFrom_150 rfl ?_
    refine X_nmM (fun M16 eM16 => ?_)
    have hw := hw M16 eM16
    refine X_aload_n 154 dX10_copyFrom_153 rfl rfl ?_
    refine X_aload_n 155 dX10_copyFrom_154 rfl rfl ?_
    refine X_getI 158 f_X10_94 (hL.W hhw2) rfl dX10_copyFrom_155 rfl ?_
    refine X_putI 161 f_X10_94 (Or.inl rfl) (hL.W hhw) rfl dX10_copyFrom_158 rfl ?_
    refine X_nmM (fun M17 eM17 => ?_)
    have hw := hw M17 eM17
    refine X_aload_n 162 dX10_copyFrom_161 rfl rfl ?_
    refine X_iconst 163 (v := -1) dX10_copyFrom_162 rfl rfl ?_
    refine X_putI 166 f_X10_46 (Or.inl rfl) (hL.W hhw) rfl dX10_copyFrom_163 rfl ?_
    refine X_nmM (fun M18 eM18 => ?_)
    have hw := hw M18 eM18
    exact X_retV rfl dX10_copyFrom_166 ⟨_, rfl, rfl, hw⟩
  · have hw := hw.1 c8
    refine X_aload_n 66 dX10_copyFrom_65 rfl rfl ?_
    refine X_getR 69 f_X10_19 (hL.W hhw) rfl (hL.wrr hhw (k := 0) (x := 2) rfl rfl (by decide)) dX10_copyFrom_66 rfl ?_
    refine X_iload_n 70 dX10_copyFrom_69 rfl rfl ?_
    obtain ⟨c19, hw⟩ := hw
    refine X_aald 71 (by decide) (by decide) (hL.war hhw (k := 2) (t := 6) (n := 8) rfl rfl (by decide)) c19 (hL.shpr hhw (vp_lt c19)) dX10_copyFrom_70 rfl ?_
    refine X_aload_n 72 dX10_copyFrom_71 rfl rfl ?_
    refine X_getR 75 f_X10_19 (hL.W hhw2) rfl (hL.wrr hhw2 (k := 0) (x := 2) rfl rfl (by decide)) dX10_copyFrom_72 rfl ?_
    refine X_iload_n 76 dX10_copyFrom_75 rfl rfl ?_
    refine X_aald 77 (by decide) (by decide) (hL.war hhw2 (k := 2) (t := 6) (n := 8) rfl rfl (by decide)) c19 (hL.shpr hhw2 (vp_lt c19)) dX10_copyFrom_76 rfl ?_
    refine Y_cVV 80 (as := [.ref ((sA w2 (tn v2)))]) m_X10_75 (s_X9_copyFrom hL (hL.shp hhw (vp_lt c19)) (hL.shp hhw2 (vp_lt c19)) hw) (hL.shp hhw (vp_lt c19)).1 rfl (by decide) (Nat.le_of_ble_eq_true rfl) dX10_copyFrom_77 rfl rfl (fun M20 hw => ?_)
    obtain ⟨x21, ex21⟩ : ∃ x21 : Int32, x21 = v2 + (1 : Int32) := ⟨_, rfl⟩
    have hw := hw x21 ex21
    refine X_iinc 83 (v := x21) (ls' := [.ref w, .ref w2, .int x21]) dX10_copyFrom_80 rfl rfl (by rw [ex21]; rfl) rfl (Or.inr (Or.inr ⟨_, rfl, rfl⟩)) ?_
    refine X_goto 57 dX10_copyFrom_83 rfl ?_
    exact hK57 x21 M20 hw
def w_X10_copyFrom_18 (L : Lay) (w : Nat) (w2 : Nat) (K18 : Int32 → Mem → Prop) (v2 : Int32) (M : Mem) (Q : Mem → Prop) : Prop := ((v2 < (mi M w 2) → (vp_in v2 10 ∧ (w_X3_copyFrom L (oA w (tn v2)) (oA w2 (tn v2)) M (fun M6 => (∀ x7 : Int32, x7 = v2 + (1 : Int32) → (K18 x7 M6)))))) ∧ (¬ v2 < (mi M w 2) → (∀ M4 : Mem, M4 = si M w 4 (mi M w2 4) → (LP2 (fun K57 v2 M => w_X10_copyFrom_57 L w w2  K57 v2 M Q) (0 : Int32) M4))))
set_option maxRecDepth 20000 in
theorem t_X10_copyFrom_18 {L : Lay} (hL : LY L) {w : Nat} {w2 : Nat} (hhw : IsW w) (hhw2 : IsW w2) {K18 : Int32 → Mem → Prop} {v2 : Int32}  {M : Mem} {Q : Mem → Prop} (hw : w_X10_copyFrom_18 L w w2 K18 v2 M Q) (hK18 : ∀ (v2 : Int32) (M : Mem), K18 v2 M → X (FM (QV L Q)) RX10 cX10_copyFrom none 3 "copyFrom" 4 0 0 (L, M) 18 [.ref w, .ref w2, .int v2] []) : X (FM (QV L Q)) RX10 cX10_copyFrom none 3 "copyFrom" 4 0 0 (L, M) 18 [.ref w, .ref w2, .int v2] [] := by
  unfold w_X10_copyFrom_18 at hw
  refine X_iload_n 19 dX10_copyFrom_18 rfl rfl ?_
  refine X_aload_n 20 dX10_copyFrom_19 rfl rfl ?_
  refine X_getI 23 f_X10_65 (hL.W hhw) rfl dX10_copyFrom_20 rfl ?_
  refine X_icmp_ge 47 26 dX10_copyFrom_23 rfl rfl (fun c3 => ?_) (fun c3 => ?_)
  · have hw := hw.2 c3
    refine X_aload_n 48 dX10_copyFrom_47 rfl rfl ?_
    refine X_aload_n 49 dX10_copyFrom_48 rfl rfl ?_
    refine X_getI 52 f_X10_72 (hL.W hhw2) rfl dX10_copyFrom_49 rfl ?_
    refine X_putI 55 f_X10_72 (Or.inl rfl) (hL.W hhw) rfl dX10_copyFrom_52 rfl ?_
    refine X_nmM (fun M4 eM4 => ?_)
    have hw := hw M4 eM4
    refine X_iconst 56 (v := 0) dX10_copyFrom_55 rfl rfl ?_
    refine X_istore_n 57 (ls' := [.ref w, .ref w2, .int (0 : Int32)]) dX10_copyFrom_56 rfl rfl (Nat.le_of_ble_eq_true rfl) rfl (Or.inr (Or.inr ⟨_, rfl, rfl⟩)) ?_
    exact LP2_s hw (G := fun v2 M => X (FM (QV L Q)) RX10 cX10_copyFrom none 3 "copyFrom" 4 0 0 (L, M) 57 [.ref w, .ref w2, .int v2] []) (fun K57 v2 M hb hK => t_X10_copyFrom_57 hL hhw hhw2 hb  hK)
  · have hw := hw.1 c3
    refine X_aload_n 27 dX10_copyFrom_26 rfl rfl ?_
    refine X_getR 30 f_X10_11 (hL.W hhw) rfl (hL.wrr hhw (k := 0) (x := 1) rfl rfl (by decide)) dX10_copyFrom_27 rfl ?_
    refine X_iload_n 31 dX10_copyFrom_30 rfl rfl ?_
    obtain ⟨c5, hw⟩ := hw
    refine X_aald 32 (Nat.le_refl 5) (by decide) (hL.war hhw (k := 1) (t := 5) (n := 10) rfl rfl (by decide)) c5 (hL.ownr hhw (vp_lt c5)) dX10_copyFrom_31 rfl ?_
    refine X_aload_n 33 dX10_copyFrom_32 rfl rfl ?_
    refine X_getR 36 f_X10_11 (hL.W hhw2) rfl (hL.wrr hhw2 (k := 0) (x := 1) rfl rfl (by decide)) dX10_copyFrom_33 rfl ?_
    refine X_iload_n 37 dX10_copyFrom_36 rfl rfl ?_
    refine X_aald 38 (Nat.le_refl 5) (by decide) (hL.war hhw2 (k := 1) (t := 5) (n := 10) rfl rfl (by decide)) c5 (hL.ownr hhw2 (vp_lt c5)) dX10_copyFrom_37 rfl ?_
    refine Y_cVV 41 (as := [.ref ((oA w2 (tn v2)))]) m_X10_68 (s_X3_copyFrom hL (hL.own hhw (vp_lt c5)) (hL.own hhw2 (vp_lt c5)) hw) (hL.own hhw (vp_lt c5)) rfl (by decide) (Nat.le_of_ble_eq_true rfl) dX10_copyFrom_38 rfl rfl (fun M6 hw => ?_)
    obtain ⟨x7, ex7⟩ : ∃ x7 : Int32, x7 = v2 + (1 : Int32) := ⟨_, rfl⟩
    have hw := hw x7 ex7
    refine X_iinc 44 (v := x7) (ls' := [.ref w, .ref w2, .int x7]) dX10_copyFrom_41 rfl rfl (by rw [ex7]; rfl) rfl (Or.inr (Or.inr ⟨_, rfl, rfl⟩)) ?_
    refine X_goto 18 dX10_copyFrom_44 rfl ?_
    exact hK18 x7 M6 hw
def w_X10_copyFrom (L : Lay) (w : Nat) (w2 : Nat) (M : Mem) (Q : Mem → Prop) : Prop := ∀ M1 : Mem, M1 = si M w 0 (mi M w2 0) → (∀ M2 : Mem, M2 = si M1 w 2 (mi M1 w2 2) → (LP2 (fun K18 v2 M => w_X10_copyFrom_18 L w w2  K18 v2 M Q) (0 : Int32) M2))
set_option maxRecDepth 20000 in
theorem s_X10_copyFrom {L : Lay} (hL : LY L) {w : Nat} {w2 : Nat} (hhw : IsW w) (hhw2 : IsW w2) {M : Mem} {Q : Mem → Prop} (hw : w_X10_copyFrom L w w2 M Q) : MX yX10_copyFrom cX10_copyFrom none 3 4 0 0 [.ref w, .ref w2] (L, M) (QV L Q) := by
  unfold w_X10_copyFrom at hw
  refine MX_of (by decide) [.ref w, .ref w2, junk] (by rfl) (by exact Nat.le_of_ble_eq_true rfl) ?_
  show X (FM (QV L Q)) RX10 cX10_copyFrom none 3 "copyFrom" 4 0 0 (L, M) 0 [.ref w, .ref w2, junk] []
  refine X_aload_n 1 dX10_copyFrom_0 rfl rfl ?_
  refine X_aload_n 2 dX10_copyFrom_1 rfl rfl ?_
  refine X_getI 5 f_X10_62 (hL.W hhw2) rfl dX10_copyFrom_2 rfl ?_
  refine X_putI 8 f_X10_62 (Or.inl rfl) (hL.W hhw) rfl dX10_copyFrom_5 rfl ?_
  refine X_nmM (fun M1 eM1 => ?_)
  have hw := hw M1 eM1
  refine X_aload_n 9 dX10_copyFrom_8 rfl rfl ?_
  refine X_aload_n 10 dX10_copyFrom_9 rfl rfl ?_
  refine X_getI 13 f_X10_65 (hL.W hhw2) rfl dX10_copyFrom_10 rfl ?_
  refine X_putI 16 f_X10_65 (Or.inl rfl) (hL.W hhw) rfl dX10_copyFrom_13 rfl ?_
  refine X_nmM (fun M2 eM2 => ?_)
  have hw := hw M2 eM2
  refine X_iconst 17 (v := 0) dX10_copyFrom_16 rfl rfl ?_
  refine X_istore_n 18 (ls' := [.ref w, .ref w2, .int (0 : Int32)]) dX10_copyFrom_17 rfl rfl (Nat.le_of_ble_eq_true rfl) rfl (Or.inr (Or.inr ⟨_, rfl, rfl⟩)) ?_
  exact LP2_s hw (G := fun v2 M => X (FM (QV L Q)) RX10 cX10_copyFrom none 3 "copyFrom" 4 0 0 (L, M) 18 [.ref w, .ref w2, .int v2] []) (fun K18 v2 M hb hK => t_X10_copyFrom_18 hL hhw hhw2 hb  hK)
def w_X10_setBreakers_2 (L : Lay) (w : Nat) (p0 : Int32) (K2 : Int32 → Mem → Prop) (v2 : Int32) (M : Mem) (Q : Mem → Prop) : Prop := ((v2 < (mi M w 2) → (vp_in v2 10 ∧ (∀ x3 : Int32, x3 = (if ((jshr p0 v2) &&& (1 : Int32)) = (1 : Int32) then (1 : Int32) else (0 : Int32)) → (∀ M4 : Mem, M4 = si M (oA w (tn v2)) 5 x3 → (∀ x5 : Int32, x5 = v2 + (1 : Int32) → (K2 x5 M4)))))) ∧ (¬ v2 < (mi M w 2) → (Q M)))
set_option maxRecDepth 20000 in
theorem t_X10_setBreakers_2 {L : Lay} (hL : LY L) {w : Nat} {p0 : Int32} (hhw : IsW w) {K2 : Int32 → Mem → Prop} {v2 : Int32}  {M : Mem} {Q : Mem → Prop} (hw : w_X10_setBreakers_2 L w p0 K2 v2 M Q) (hK2 : ∀ (v2 : Int32) (M : Mem), K2 v2 M → X (FM (QV L Q)) RX10 cX10_setBreakers none 3 "setBreakers" 1 0 0 (L, M) 2 [.ref w, .int p0, .int v2] []) : X (FM (QV L Q)) RX10 cX10_setBreakers none 3 "setBreakers" 1 0 0 (L, M) 2 [.ref w, .int p0, .int v2] [] := by
  unfold w_X10_setBreakers_2 at hw
  refine X_iload_n 3 dX10_setBreakers_2 rfl rfl ?_
  refine X_aload_n 4 dX10_setBreakers_3 rfl rfl ?_
  refine X_getI 7 f_X10_65 (hL.W hhw) rfl dX10_setBreakers_4 rfl ?_
  refine X_icmp_ge 39 10 dX10_setBreakers_7 rfl rfl (fun c1 => ?_) (fun c1 => ?_)
  · have hw := hw.2 c1
    exact X_retV rfl dX10_setBreakers_39 ⟨_, rfl, rfl, hw⟩
  · have hw := hw.1 c1
    refine X_aload_n 11 dX10_setBreakers_10 rfl rfl ?_
    refine X_getR 14 f_X10_11 (hL.W hhw) rfl (hL.wrr hhw (k := 0) (x := 1) rfl rfl (by decide)) dX10_setBreakers_11 rfl ?_
    refine X_iload_n 15 dX10_setBreakers_14 rfl rfl ?_
    obtain ⟨c2, hw⟩ := hw
    refine X_aald 16 (Nat.le_refl 5) (by decide) (hL.war hhw (k := 1) (t := 5) (n := 10) rfl rfl (by decide)) c2 (hL.ownr hhw (vp_lt c2)) dX10_setBreakers_15 rfl ?_
    refine X_iload_n 17 dX10_setBreakers_16 rfl rfl ?_
    refine X_iload_n 18 dX10_setBreakers_17 rfl rfl ?_
    refine Y_ishr 19 dX10_setBreakers_18 rfl ?_
    refine X_iconst 20 (v := 1) dX10_setBreakers_19 rfl rfl ?_
    refine X_iand 21 dX10_setBreakers_20 rfl ?_
    refine X_iconst 22 (v := 1) dX10_setBreakers_21 rfl rfl ?_
    obtain ⟨x3, ex3⟩ : ∃ x3 : Int32, x3 = (if ((jshr p0 v2) &&& (1 : Int32)) = (1 : Int32) then (1 : Int32) else (0 : Int32)) := ⟨_, rfl⟩
    have hw := hw x3 ex3
    have bx3 : BZ x3 := by rw [ex3]; (repeat' split) <;> first | exact Or.inl rfl | exact Or.inr rfl
    have hJ : X (FM (QV L Q)) RX10 cX10_setBreakers none 3 "setBreakers" 1 0 0 (L, M) 30 [.ref w, .int p0, .int v2] [.int x3, .ref ((oA w (tn v2)))] := by
      refine X_putZ 33 f_X10_97 (bx3) (Or.inl rfl) (hL.own hhw (vp_lt c2)) rfl dX10_setBreakers_30 rfl ?_
      refine X_nmM (fun M4 eM4 => ?_)
      have hw := hw M4 eM4
      obtain ⟨x5, ex5⟩ : ∃ x5 : Int32, x5 = v2 + (1 : Int32) := ⟨_, rfl⟩
      have hw := hw x5 ex5
      refine X_iinc 36 (v := x5) (ls' := [.ref w, .int p0, .int x5]) dX10_setBreakers_33 rfl rfl (by rw [ex5]; rfl) rfl (Or.inr (Or.inr ⟨_, rfl, rfl⟩)) ?_
      refine X_goto 2 dX10_setBreakers_36 rfl ?_
      exact hK2 x5 M4 hw
    refine X_icmp_ne 29 25 dX10_setBreakers_22 rfl rfl (fun c6 => ?_) (fun c6 => ?_)
    · refine X_iconst 30 (v := 0) dX10_setBreakers_29 rfl rfl ?_
      rw [if_neg c6] at ex3
      rw [ex3] at hJ
      exact hJ
    · refine X_iconst 26 (v := 1) dX10_setBreakers_25 rfl rfl ?_
      refine X_goto 30 dX10_setBreakers_26 rfl ?_
      rw [if_pos c6] at ex3
      rw [ex3] at hJ
      exact hJ
def w_X10_setBreakers (L : Lay) (w : Nat) (p0 : Int32) (M : Mem) (Q : Mem → Prop) : Prop := LP2 (fun K2 v2 M => w_X10_setBreakers_2 L w p0  K2 v2 M Q) (0 : Int32) M
set_option maxRecDepth 20000 in
theorem s_X10_setBreakers {L : Lay} (hL : LY L) {w : Nat} {p0 : Int32} (hhw : IsW w) {M : Mem} {Q : Mem → Prop} (hw : w_X10_setBreakers L w p0 M Q) : MX yX10_setBreakers cX10_setBreakers none 3 1 0 0 [.ref w, .int p0] (L, M) (QV L Q) := by
  unfold w_X10_setBreakers at hw
  refine MX_of (by decide) [.ref w, .int p0, junk] (by rfl) (by exact Nat.le_of_ble_eq_true rfl) ?_
  show X (FM (QV L Q)) RX10 cX10_setBreakers none 3 "setBreakers" 1 0 0 (L, M) 0 [.ref w, .int p0, junk] []
  refine X_iconst 1 (v := 0) dX10_setBreakers_0 rfl rfl ?_
  refine X_istore_n 2 (ls' := [.ref w, .int p0, .int (0 : Int32)]) dX10_setBreakers_1 rfl rfl (Nat.le_of_ble_eq_true rfl) rfl (Or.inr (Or.inr ⟨_, rfl, rfl⟩)) ?_
  exact LP2_s hw (G := fun v2 M => X (FM (QV L Q)) RX10 cX10_setBreakers none 3 "setBreakers" 1 0 0 (L, M) 2 [.ref w, .int p0, .int v2] []) (fun K2 v2 M hb hK => t_X10_setBreakers_2 hL hhw hb  hK)
