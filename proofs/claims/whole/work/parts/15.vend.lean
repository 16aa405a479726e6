-- printed walks (by program: wip/whole/gen.py)
def w_X11_init (th : Nat) (L : Lay) (rc rs : Nat) (M : Mem) (Q : Lay → Mem → Prop) : Prop := 1 ≤ rc ∧ (17 ≤ rs ∧ (∀ (L3 : Lay) (M4 : Mem), (L3, M4) = alc (L, M) (10, 0) → (∃ n6 n7 : Nat, n6 ≤ (rc - 1) ∧ n7 ≤ (rs - 17) ∧ w_X10_init (L.1) L3 n6 n7 M4 (fun L8 M9 => (LG L3 L8 ∧ (∀ L10 : Lay, L10 = sr L8 th 0 (some (L.1)) → (1 ≤ ((rc - 1) - n6) ∧ (17 ≤ ((rs - 17) - n7) ∧ (∀ (L13 : Lay) (M14 : Mem), (L13, M14) = alc (L10, M9) (10, 0) → (∃ n16 n17 : Nat, n16 ≤ (((rc - 1) - n6) - 1) ∧ n17 ≤ (((rs - 17) - n7) - 17) ∧ w_X10_init (L10.1) L13 n16 n17 M14 (fun L18 M19 => (LG L13 L18 ∧ (∀ L20 : Lay, L20 = sr L18 th 1 (some (L10.1)) → (1 ≤ ((((rc - 1) - n6) - 1) - n16) ∧ (14 ≤ ((((rs - 17) - n7) - 17) - n17) ∧ (∀ (L23 : Lay) (M24 : Mem), (L23, M24) = alc (L20, M19) (5, 0) → (∃ n26 n27 : Nat, n26 ≤ (((((rc - 1) - n6) - 1) - n16) - 1) ∧ n27 ≤ (((((rs - 17) - n7) - 17) - n17) - 14) ∧ w_X5_init (L20.1) L23 n26 n27 M24 (fun L28 M29 => (LG L23 L28 ∧ (∀ L30 : Lay, L30 = sr L28 th 2 (some (L20.1)) → (1 ≤ ((((((rc - 1) - n6) - 1) - n16) - 1) - n26) ∧ (4 ≤ ((((((rs - 17) - n7) - 17) - n17) - 14) - n27) ∧ (∀ (L33 : Lay) (M34 : Mem), (L33, M34) = alc (L30, M29) (2, 0) → (∃ n36 n37 : Nat, n36 ≤ (((((((rc - 1) - n6) - 1) - n16) - 1) - n26) - 1) ∧ n37 ≤ (((((((rs - 17) - n7) - 17) - n17) - 14) - n27) - 4) ∧ w_X2_init (L30.1) L33 n36 n37 M34 (fun L38 M39 => (LG L33 L38 ∧ (∀ L40 : Lay, L40 = sr L38 th 3 (some (L30.1)) → (1 ≤ ((((((((rc - 1) - n6) - 1) - n16) - 1) - n26) - 1) - n36) ∧ (7 ≤ ((((((((rs - 17) - n7) - 17) - n17) - 14) - n27) - 4) - n37) ∧ (∀ (L43 : Lay) (M44 : Mem), (L43, M44) = alc (L40, M39) (7, 0) → (∃ n46 n47 : Nat, n46 ≤ (((((((((rc - 1) - n6) - 1) - n16) - 1) - n26) - 1) - n36) - 1) ∧ n47 ≤ (((((((((rs - 17) - n7) - 17) - n17) - 14) - n27) - 4) - n37) - 7) ∧ w_X7_init (L40.1) L43 n46 n47 M44 (fun L48 M49 => (LG L43 L48 ∧ (∀ L50 : Lay, L50 = sr L48 th 4 (some (L40.1)) → (1 ≤ ((((((((((rc - 1) - n6) - 1) - n16) - 1) - n26) - 1) - n36) - 1) - n46) ∧ (5 ≤ ((((((((((rs - 17) - n7) - 17) - n17) - 14) - n27) - 4) - n37) - 7) - n47) ∧ (∀ (L53 : Lay) (M54 : Mem), (L53, M54) = alc (L50, M49) (8, 0) → (∃ n56 n57 : Nat, n56 ≤ (((((((((((rc - 1) - n6) - 1) - n16) - 1) - n26) - 1) - n36) - 1) - n46) - 1) ∧ n57 ≤ (((((((((((rs - 17) - n7) - 17) - n17) - 14) - n27) - 4) - n37) - 7) - n47) - 5) ∧ w_X8_init (L50.1) L53 n56 n57 M54 (fun L58 M59 => (LG L53 L58 ∧ (∀ L60 : Lay, L60 = sr L58 th 5 (some (L50.1)) → (1 ≤ ((((((((((((rc - 1) - n6) - 1) - n16) - 1) - n26) - 1) - n36) - 1) - n46) - 1) - n56) ∧ (720 ≤ ((((((((((((rs - 17) - n7) - 17) - n17) - 14) - n27) - 4) - n37) - 7) - n47) - 5) - n57) ∧ (∀ (L63 : Lay) (M64 : Mem), (L63, M64) = alc (L60, M59) (22, 720) → (∀ L66 : Lay, L66 = sr L63 th 6 (some (L60.1)) → (1 ≤ (((((((((((((rc - 1) - n6) - 1) - n16) - 1) - n26) - 1) - n36) - 1) - n46) - 1) - n56) - 1) ∧ (10 ≤ (((((((((((((rs - 17) - n7) - 17) - n17) - 14) - n27) - 4) - n37) - 7) - n47) - 5) - n57) - 720) ∧ (∀ (L69 : Lay) (M70 : Mem), (L69, M70) = alc (L66, M64) (20, 10) → (∀ L72 : Lay, L72 = sr L69 th 8 (some (L66.1)) → (Q L72 M70))))))))))))))))))))))))))))))))))))))))))))))))))
set_option maxRecDepth 20000 in
theorem s_X11_init {L : Lay} {th : Nat} {rc rs : Nat} {M : Mem} {Q : Lay → Mem → Prop} (hhth : OB L th 11) (hw : w_X11_init th L rc rs M Q) : MX yX11_init cX11_init none 1 4 rc rs [.ref th] (L, M) (QC L Q) := by
  unfold w_X11_init at hw
  obtain ⟨L0, eL0⟩ : ∃ L0, L0 = L := ⟨L, rfl⟩
  rw [show QC L Q = QC L0 Q from by rw [eL0]]
  refine MX_of (by decide) [.ref th] (by rfl) (by exact Nat.le_of_ble_eq_true rfl) ?_
  show X (FM (QC L0 Q)) RX11 cX11_init none 1 "<init>" 4 rc rs (L, M) 0 [.ref th] []
  refine X_aload_n 1 dX11_init_0 rfl rfl ?_
  refine X_objInit 4 l_X11_1 oi_i oi_c (by decide) (Nat.le_of_ble_eq_true rfl) dX11_init_1 rfl ?_
  refine X_aload_n 5 dX11_init_4 rfl rfl ?_
  obtain ⟨c1, hw⟩ := hw
  obtain ⟨c2, hw⟩ := hw
  refine X_new 8 cb10 n_X11_7 c1 c2 dX11_init_5 rfl ?_
  refine X_nmH (fun L3 M4 e5 => ?_)
  have hw := hw L3 M4 e5
  have obL3 := OB.of_alc e5
  have leL3 := LE.of_alc e5
  have hhth := leL3.ob hhth
  refine X_dup 9 dX11_init_8 rfl rfl ?_
  obtain ⟨n6, n7, hn6, hn7, hw⟩ := hw
  refine Y_kI 12 (as := []) m_X11_9 (s_X10_init obL3 hw) rfl (by decide) hn6 hn7 (Nat.le_of_ble_eq_true rfl) dX11_init_9 rfl rfl (fun L8 M9 hw => ?_)
  obtain ⟨leL8, hw⟩ := hw
  have hhth := leL8.ob hhth
  have obL3 := leL8.ob obL3
  refine X_putR (x := (some (L.1))) 15 f_X11_10 (Or.inl ⟨_, rfl⟩) (Or.inr ⟨rfl, _, _, _, cb11⟩) hhth rfl dX11_init_12 rfl ?_
  refine X_nmLy (fun L10 eL10 => ?_)
  have hw := hw L10 eL10
  have hhth := (SRE.mk eL10).ob hhth
  refine X_aload_n 16 dX11_init_15 rfl rfl ?_
  obtain ⟨c11, hw⟩ := hw
  obtain ⟨c12, hw⟩ := hw
  refine X_new 19 cb10 n_X11_7 c11 c12 dX11_init_16 rfl ?_
  refine X_nmH (fun L13 M14 e15 => ?_)
  have hw := hw L13 M14 e15
  have obL13 := OB.of_alc e15
  have leL13 := LE.of_alc e15
  have hhth := leL13.ob hhth
  refine X_dup 20 dX11_init_19 rfl rfl ?_
  obtain ⟨n16, n17, hn16, hn17, hw⟩ := hw
  refine Y_kI 23 (as := []) m_X11_9 (s_X10_init obL13 hw) rfl (by decide) hn16 hn17 (Nat.le_of_ble_eq_true rfl) dX11_init_20 rfl rfl (fun L18 M19 hw => ?_)
  obtain ⟨leL18, hw⟩ := hw
  have hhth := leL18.ob hhth
  have obL13 := leL18.ob obL13
  refine X_putR (x := (some (L10.1))) 26 f_X11_16 (Or.inl ⟨_, rfl⟩) (Or.inr ⟨rfl, _, _, _, cb11⟩) hhth rfl dX11_init_23 rfl ?_
  refine X_nmLy (fun L20 eL20 => ?_)
  have hw := hw L20 eL20
  have hhth := (SRE.mk eL20).ob hhth
  refine X_aload_n 27 dX11_init_26 rfl rfl ?_
  obtain ⟨c21, hw⟩ := hw
  obtain ⟨c22, hw⟩ := hw
  refine X_new 30 cb5 n_X11_19 c21 c22 dX11_init_27 rfl ?_
  refine X_nmH (fun L23 M24 e25 => ?_)
  have hw := hw L23 M24 e25
  have obL23 := OB.of_alc e25
  have leL23 := LE.of_alc e25
  have hhth := leL23.ob hhth
  refine X_dup 31 dX11_init_30 rfl rfl ?_
  obtain ⟨n26, n27, hn26, hn27, hw⟩ := hw
  refine Y_kI 34 (as := []) m_X11_21 (s_X5_init obL23 hw) rfl (by decide) hn26 hn27 (Nat.le_of_ble_eq_true rfl) dX11_init_31 rfl rfl (fun L28 M29 hw => ?_)
  obtain ⟨leL28, hw⟩ := hw
  have hhth := leL28.ob hhth
  have obL23 := leL28.ob obL23
  refine X_putR (x := (some (L20.1))) 37 f_X11_22 (Or.inl ⟨_, rfl⟩) (Or.inr ⟨rfl, _, _, _, cb11⟩) hhth rfl dX11_init_34 rfl ?_
  refine X_nmLy (fun L30 eL30 => ?_)
  have hw := hw L30 eL30
  have hhth := (SRE.mk eL30).ob hhth
  refine X_aload_n 38 dX11_init_37 rfl rfl ?_
  obtain ⟨c31, hw⟩ := hw
  obtain ⟨c32, hw⟩ := hw
  refine X_new 41 cb2 n_X11_26 c31 c32 dX11_init_38 rfl ?_
  refine X_nmH (fun L33 M34 e35 => ?_)
  have hw := hw L33 M34 e35
  have obL33 := OB.of_alc e35
  have leL33 := LE.of_alc e35
  have hhth := leL33.ob hhth
  refine X_dup 42 dX11_init_41 rfl rfl ?_
  obtain ⟨n36, n37, hn36, hn37, hw⟩ := hw
  refine Y_kI 45 (as := []) m_X11_28 (s_X2_init obL33 hw) rfl (by decide) hn36 hn37 (Nat.le_of_ble_eq_true rfl) dX11_init_42 rfl rfl (fun L38 M39 hw => ?_)
  obtain ⟨leL38, hw⟩ := hw
  have hhth := leL38.ob hhth
  have obL33 := leL38.ob obL33
  refine X_putR (x := (some (L30.1))) 48 f_X11_29 (Or.inl ⟨_, rfl⟩) (Or.inr ⟨rfl, _, _, _, cb11⟩) hhth rfl dX11_init_45 rfl ?_
  refine X_nmLy (fun L40 eL40 => ?_)
  have hw := hw L40 eL40
  have hhth := (SRE.mk eL40).ob hhth
  refine X_aload_n 49 dX11_init_48 rfl rfl ?_
  obtain ⟨c41, hw⟩ := hw
  obtain ⟨c42, hw⟩ := hw
  refine X_new 52 cb7 n_X11_33 c41 c42 dX11_init_49 rfl ?_
  refine X_nmH (fun L43 M44 e45 => ?_)
  have hw := hw L43 M44 e45
  have obL43 := OB.of_alc e45
  have leL43 := LE.of_alc e45
  have hhth := leL43.ob hhth
  refine X_dup 53 dX11_init_52 rfl rfl ?_
  obtain ⟨n46, n47, hn46, hn47, hw⟩ := hw
  refine Y_kI 56 (as := []) m_X11_35 (s_X7_init obL43 hw) rfl (by decide) hn46 hn47 (Nat.le_of_ble_eq_true rfl) dX11_init_53 rfl rfl (fun L48 M49 hw => ?_)
  obtain ⟨leL48, hw⟩ := hw
  have hhth := leL48.ob hhth
  have obL43 := leL48.ob obL43
  refine X_putR (x := (some (L40.1))) 59 f_X11_36 (Or.inl ⟨_, rfl⟩) (Or.inr ⟨rfl, _, _, _, cb11⟩) hhth rfl dX11_init_56 rfl ?_
  refine X_nmLy (fun L50 eL50 => ?_)
  have hw := hw L50 eL50
  have hhth := (SRE.mk eL50).ob hhth
  refine X_aload_n 60 dX11_init_59 rfl rfl ?_
  obtain ⟨c51, hw⟩ := hw
  obtain ⟨c52, hw⟩ := hw
  refine X_new 63 cb8 n_X11_40 c51 c52 dX11_init_60 rfl ?_
  refine X_nmH (fun L53 M54 e55 => ?_)
  have hw := hw L53 M54 e55
  have obL53 := OB.of_alc e55
  have leL53 := LE.of_alc e55
  have hhth := leL53.ob hhth
  refine X_dup 64 dX11_init_63 rfl rfl ?_
  obtain ⟨n56, n57, hn56, hn57, hw⟩ := hw
  refine Y_kI 67 (as := []) m_X11_42 (s_X8_init obL53 hw) rfl (by decide) hn56 hn57 (Nat.le_of_ble_eq_true rfl) dX11_init_64 rfl rfl (fun L58 M59 hw => ?_)
  obtain ⟨leL58, hw⟩ := hw
  have hhth := leL58.ob hhth
  have obL53 := leL58.ob obL53
  refine X_putR (x := (some (L50.1))) 70 f_X11_43 (Or.inl ⟨_, rfl⟩) (Or.inr ⟨rfl, _, _, _, cb11⟩) hhth rfl dX11_init_67 rfl ?_
  refine X_nmLy (fun L60 eL60 => ?_)
  have hw := hw L60 eL60
  have hhth := (SRE.mk eL60).ob hhth
  refine X_aload_n 71 dX11_init_70 rfl rfl ?_
  refine X_sipush 74 (v := 720) dX11_init_71 rfl rfl ?_
  obtain ⟨c61, hw⟩ := hw
  obtain ⟨c62, hw⟩ := hw
  refine X_newa 76 (t := 2) (n := 720) (by decide) rfl ac2 (by decide) (by decide) (by decide) c61 c62 dX11_init_74 rfl ?_
  refine X_nmH (fun L63 M64 e65 => ?_)
  have hw := hw L63 M64 e65
  have obL63 := AR.of_alc e65
  have leL63 := LE.of_alc e65
  have hhth := leL63.ob hhth
  refine X_putR (x := (some (L60.1))) 79 f_X11_47 (Or.inr ⟨_, rfl⟩) (Or.inr ⟨rfl, _, _, _, cb11⟩) hhth rfl dX11_init_76 rfl ?_
  refine X_nmLy (fun L66 eL66 => ?_)
  have hw := hw L66 eL66
  have hhth := (SRE.mk eL66).ob hhth
  refine X_aload_n 80 dX11_init_79 rfl rfl ?_
  refine X_bipush 82 (v := 10) dX11_init_80 rfl rfl ?_
  obtain ⟨c67, hw⟩ := hw
  obtain ⟨c68, hw⟩ := hw
  refine X_newa 84 (t := 0) (n := 10) (by decide) rfl ac0 (by decide) (by decide) (by decide) c67 c68 dX11_init_82 rfl ?_
  refine X_nmH (fun L69 M70 e71 => ?_)
  have hw := hw L69 M70 e71
  have obL69 := AR.of_alc e71
  have leL69 := LE.of_alc e71
  have hhth := leL69.ob hhth
  refine X_putR (x := (some (L66.1))) 87 f_X11_51 (Or.inr ⟨_, rfl⟩) (Or.inr ⟨rfl, _, _, _, cb11⟩) hhth rfl dX11_init_84 rfl ?_
  refine X_nmLy (fun L72 eL72 => ?_)
  have hw := hw L72 eL72
  have hhth := (SRE.mk eL72).ob hhth
  exact X_retV rfl dX11_init_87 ⟨_, _, rfl, rfl, hw⟩
def w_X11_isWithin (L : Lay) (p0 : Int32) (p1 : Int32) (p2 : Int32) (M : Mem) (Q : Int32 → Mem → Prop) : Prop := ∀ x1 : Int32, x1 = (if p0 < p1 then (0 : Int32) else (if p2 < p0 then (0 : Int32) else (1 : Int32))) → (Q x1 M)
set_option maxRecDepth 20000 in
theorem s_X11_isWithin {L : Lay} (hL : LY L) {p0 : Int32} {p1 : Int32} {p2 : Int32}  {M : Mem} {Q : Int32 → Mem → Prop} (hw : w_X11_isWithin L p0 p1 p2 M Q) : MX yX11_isWithin cX11_isWithin (some .boolean) 3 1 0 0 [.int p0, .int p1, .int p2] (L, M) (QZ L Q) := by
  unfold w_X11_isWithin at hw
  refine MX_of (by decide) [.int p0, .int p1, .int p2] (by rfl) (by exact Nat.le_of_ble_eq_true rfl) ?_
  show X (FM (QZ L Q)) RX11 cX11_isWithin (some .boolean) 3 "isWithin" 1 0 0 (L, M) 0 [.int p0, .int p1, .int p2] []
  refine X_iload_n 1 dX11_isWithin_0 rfl rfl ?_
  refine X_iload_n 2 dX11_isWithin_1 rfl rfl ?_
  obtain ⟨x1, ex1⟩ : ∃ x1 : Int32, x1 = (if p0 < p1 then (0 : Int32) else (if p2 < p0 then (0 : Int32) else (1 : Int32))) := ⟨_, rfl⟩
  have hw := hw x1 ex1
  have bx1 : BZ x1 := by rw [ex1]; (repeat' split) <;> first | exact Or.inl rfl | exact Or.inr rfl
  have hJ : X (FM (QZ L Q)) RX11 cX11_isWithin (some .boolean) 3 "isWithin" 1 0 0 (L, M) 15 [.int p0, .int p1, .int p2] [.int x1] := by
    exact X_ret rfl (nar_bool (bx1)) dX11_isWithin_15 ⟨_, _, rfl, bx1, rfl, hw⟩
  refine X_icmp_lt 14 5 dX11_isWithin_2 rfl rfl (fun c2 => ?_) (fun c2 => ?_)
  · refine X_iconst 15 (v := 0) dX11_isWithin_14 rfl rfl ?_
    rw [if_pos c2] at ex1
    rw [ex1] at hJ
    exact hJ
  · refine X_iload_n 6 dX11_isWithin_5 rfl rfl ?_
    refine X_iload_n 7 dX11_isWithin_6 rfl rfl ?_
    refine X_icmp_gt 14 10 dX11_isWithin_7 rfl rfl (fun c3 => ?_) (fun c3 => ?_)
    · refine X_iconst 15 (v := 0) dX11_isWithin_14 rfl rfl ?_
      rw [if_neg c2, if_pos c3] at ex1
      rw [ex1] at hJ
      exact hJ
    · refine X_iconst 11 (v := 1) dX11_isWithin_10 rfl rfl ?_
      refine X_goto 15 dX11_isWithin_11 rfl ?_
      rw [if_neg c2, if_neg c3] at ex1
      rw [ex1] at hJ
      exact hJ
def w_X11_owner_46 (L : Lay) (p0 : Int32) (p1 : Int32) (p2 : Int32) (p3 : Int32)  (y0 : Int32) (M : Mem) (Q : Int32 → Mem → Prop) : Prop := ((y0 = 0 → (Q (-1 : Int32) M)) ∧ (¬ y0 = 0 → ((((mi M 1 2) < (10 : Int32) → (vp_in (mi M 1 2) 10 ∧ (∀ M25 : Mem, M25 = si M (oA 1 (tn (mi M 1 2))) 0 p0 → (∀ M26 : Mem, M26 = si M25 (oA 1 (tn (mi M 1 2))) 1 p1 → (∀ M27 : Mem, M27 = si M26 (oA 1 (tn (mi M 1 2))) 2 p2 → (∀ M28 : Mem, M28 = si M27 (oA 1 (tn (mi M 1 2))) 3 p3 → (∀ M29 : Mem, M29 = si M28 1 2 ((mi M28 1 2) + (1 : Int32)) → (Q (mi M28 1 2) M29)))))))) ∧ (¬ (mi M 1 2) < (10 : Int32) → (Q (-1 : Int32) M))))))
set_option maxRecDepth 20000 in
theorem t_X11_owner_46 {L : Lay} (hL : LY L) {p0 : Int32} {p1 : Int32} {p2 : Int32} {p3 : Int32}   {y0 : Int32}  {M : Mem} {Q : Int32 → Mem → Prop} (hw : w_X11_owner_46 L p0 p1 p2 p3  y0 M Q)  : X (FM (QI L Q)) RX11 cX11_owner (some .int) 7 "owner" 2 0 0 (L, M) 46 [.ref 0, .int p0, .int p1, .int p2, .int p3, junk, junk] [.int y0] := by
  unfold w_X11_owner_46 at hw
  refine X_istore 48 (ls' := [.ref 0, .int p0, .int p1, .int p2, .int p3, .int y0, junk]) dX11_owner_46 rfl (Nat.le_of_ble_eq_true rfl) rfl (Or.inr (Or.inr ⟨_, rfl, rfl⟩)) ?_
  refine X_iload 50 dX11_owner_48 rfl rfl ?_
  refine X_if_eq 65 53 (y := 0) dX11_owner_50 rfl rfl (fun c22 => ?_) (fun c22 => ?_)
  · have hw := hw.1 c22
    refine X_iconst 66 (v := -1) dX11_owner_65 rfl rfl ?_
    exact X_ret rfl rfl dX11_owner_66 ⟨_, _, rfl, rfl, hw⟩
  · have hw := hw.2 c22
    refine X_aload_n 54 dX11_owner_53 rfl rfl ?_
    refine X_getR 57 f_X11_10 (hL.ob (c := 11) (by decide) rfl) rfl (hL.rr (by decide) rfl) dX11_owner_54 rfl ?_
    refine X_getI 60 f_X11_59 (hL.W (Or.inl rfl)) rfl dX11_owner_57 rfl ?_
    refine X_bipush 62 (v := 10) dX11_owner_60 rfl rfl ?_
    refine X_icmp_lt 67 65 dX11_owner_62 rfl rfl (fun c23 => ?_) (fun c23 => ?_)
    · have hw := hw.1 c23
      refine X_aload_n 68 dX11_owner_67 rfl rfl ?_
      refine X_getR 71 f_X11_10 (hL.ob (c := 11) (by decide) rfl) rfl (hL.rr (by decide) rfl) dX11_owner_68 rfl ?_
      refine X_getR 74 f_X11_63 (hL.W (Or.inl rfl)) rfl (hL.wrr (Or.inl rfl) (k := 0) (x := 1) rfl rfl (by decide)) dX11_owner_71 rfl ?_
      refine X_aload_n 75 dX11_owner_74 rfl rfl ?_
      refine X_getR 78 f_X11_10 (hL.ob (c := 11) (by decide) rfl) rfl (hL.rr (by decide) rfl) dX11_owner_75 rfl ?_
      refine X_getI 81 f_X11_59 (hL.W (Or.inl rfl)) rfl dX11_owner_78 rfl ?_
      obtain ⟨c24, hw⟩ := hw
      refine X_aald 82 (Nat.le_refl 5) (by decide) (hL.war (Or.inl rfl) (k := 1) (t := 5) (n := 10) rfl rfl (by decide)) c24 (hL.ownr (Or.inl rfl) (vp_lt c24)) dX11_owner_81 rfl ?_
      refine X_astore 84 (ls' := [.ref 0, .int p0, .int p1, .int p2, .int p3, .int y0, .ref ((oA 1 (tn (mi M 1 2))))]) dX11_owner_82 rfl (Nat.le_of_ble_eq_true rfl) rfl (Or.inr (Or.inr ⟨_, rfl, rfl⟩)) ?_
      refine X_aload 86 dX11_owner_84 rfl rfl ?_
      refine X_iload_n 87 dX11_owner_86 rfl rfl ?_
      refine X_putI 90 f_X11_67 (Or.inl rfl) (hL.own (Or.inl rfl) (vp_lt c24)) rfl dX11_owner_87 rfl ?_
      refine X_nmM (fun M25 eM25 => ?_)
      have hw := hw M25 eM25
      refine X_aload 92 dX11_owner_90 rfl rfl ?_
      refine X_iload_n 93 dX11_owner_92 rfl rfl ?_
      refine X_putI 96 f_X11_72 (Or.inl rfl) (hL.own (Or.inl rfl) (vp_lt c24)) rfl dX11_owner_93 rfl ?_
      refine X_nmM (fun M26 eM26 => ?_)
      have hw := hw M26 eM26
      refine X_aload 98 dX11_owner_96 rfl rfl ?_
      refine X_iload_n 99 dX11_owner_98 rfl rfl ?_
      refine X_putI 102 f_X11_75 (Or.inl rfl) (hL.own (Or.inl rfl) (vp_lt c24)) rfl dX11_owner_99 rfl ?_
      refine X_nmM (fun M27 eM27 => ?_)
      have hw := hw M27 eM27
      refine X_aload 104 dX11_owner_102 rfl rfl ?_
      refine X_iload 106 dX11_owner_104 rfl rfl ?_
      refine X_putI 109 f_X11_78 (Or.inl rfl) (hL.own (Or.inl rfl) (vp_lt c24)) rfl dX11_owner_106 rfl ?_
      refine X_nmM (fun M28 eM28 => ?_)
      have hw := hw M28 eM28
      refine X_aload_n 110 dX11_owner_109 rfl rfl ?_
      refine X_getR 113 f_X11_10 (hL.ob (c := 11) (by decide) rfl) rfl (hL.rr (by decide) rfl) dX11_owner_110 rfl ?_
      refine X_dup 114 dX11_owner_113 rfl rfl ?_
      refine X_getI 117 f_X11_59 (hL.W (Or.inl rfl)) rfl dX11_owner_114 rfl ?_
      refine X_dup_x1 118 dX11_owner_117 rfl rfl rfl ?_
      refine X_iconst 119 (v := 1) dX11_owner_118 rfl rfl ?_
      refine X_iadd 120 dX11_owner_119 rfl ?_
      refine X_putI 123 f_X11_59 (Or.inl rfl) (hL.W (Or.inl rfl)) rfl dX11_owner_120 rfl ?_
      refine X_nmM (fun M29 eM29 => ?_)
      have hw := hw M29 eM29
      exact X_ret rfl rfl dX11_owner_123 ⟨_, _, rfl, rfl, hw⟩
    · have hw := hw.2 c23
      refine X_iconst 66 (v := -1) dX11_owner_65 rfl rfl ?_
      exact X_ret rfl rfl dX11_owner_66 ⟨_, _, rfl, rfl, hw⟩
def w_X11_owner_45 (L : Lay) (p0 : Int32) (p1 : Int32) (p2 : Int32) (p3 : Int32)   (M : Mem) (Q : Int32 → Mem → Prop) : Prop := w_X11_owner_46 L p0 p1 p2 p3  (0 : Int32) M Q
set_option maxRecDepth 20000 in
theorem t_X11_owner_45 {L : Lay} (hL : LY L) {p0 : Int32} {p1 : Int32} {p2 : Int32} {p3 : Int32}     {M : Mem} {Q : Int32 → Mem → Prop} (hw : w_X11_owner_45 L p0 p1 p2 p3   M Q)  : X (FM (QI L Q)) RX11 cX11_owner (some .int) 7 "owner" 2 0 0 (L, M) 45 [.ref 0, .int p0, .int p1, .int p2, .int p3, junk, junk] [] := by
  unfold w_X11_owner_45 at hw
  refine X_iconst 46 (v := 0) dX11_owner_45 rfl rfl ?_
  exact t_X11_owner_46 hL   hw 
def w_X11_owner (L : Lay) (p0 : Int32) (p1 : Int32) (p2 : Int32) (p3 : Int32) (M : Mem) (Q : Int32 → Mem → Prop) : Prop := w_X11_isWithin L p0 (0 : Int32) (4 : Int32) M (fun x2 M1 => (((x2 = 0 → (w_X11_owner_45 L p0 p1 p2 p3   M1 Q)) ∧ (¬ x2 = 0 → (w_X11_isWithin L p1 (1 : Int32) (999 : Int32) M1 (fun x5 M4 => (((x5 = 0 → (w_X11_owner_45 L p0 p1 p2 p3   M4 Q)) ∧ (¬ x5 = 0 → (w_X11_isWithin L p2 (0 : Int32) (99 : Int32) M4 (fun x8 M7 => (((x8 = 0 → (w_X11_owner_45 L p0 p1 p2 p3   M7 Q)) ∧ (¬ x8 = 0 → (w_X11_isWithin L p3 (0 : Int32) (99 : Int32) M7 (fun x11 M10 => (∀ x12 : Int32, x12 = (if x11 = 0 then (0 : Int32) else (1 : Int32)) → (((x12 = 0 → (Q (-1 : Int32) M10)) ∧ (¬ x12 = 0 → ((((mi M10 1 2) < (10 : Int32) → (vp_in (mi M10 1 2) 10 ∧ (∀ M16 : Mem, M16 = si M10 (oA 1 (tn (mi M10 1 2))) 0 p0 → (∀ M17 : Mem, M17 = si M16 (oA 1 (tn (mi M10 1 2))) 1 p1 → (∀ M18 : Mem, M18 = si M17 (oA 1 (tn (mi M10 1 2))) 2 p2 → (∀ M19 : Mem, M19 = si M18 (oA 1 (tn (mi M10 1 2))) 3 p3 → (∀ M20 : Mem, M20 = si M19 1 2 ((mi M19 1 2) + (1 : Int32)) → (Q (mi M19 1 2) M20)))))))) ∧ (¬ (mi M10 1 2) < (10 : Int32) → (Q (-1 : Int32) M10))))))))))))))))))))))))
set_option maxRecDepth 20000 in
theorem s_X11_owner {L : Lay} (hL : LY L) {p0 : Int32} {p1 : Int32} {p2 : Int32} {p3 : Int32}  {M : Mem} {Q : Int32 → Mem → Prop} (hw : w_X11_owner L p0 p1 p2 p3 M Q) : MX yX11_owner cX11_owner (some .int) 7 2 0 0 [.ref 0, .int p0, .int p1, .int p2, .int p3] (L, M) (QI L Q) := by
  unfold w_X11_owner at hw
  refine MX_of (by decide) [.ref 0, .int p0, .int p1, .int p2, .int p3, junk, junk] (by rfl) (by exact Nat.le_of_ble_eq_true rfl) ?_
  show X (FM (QI L Q)) RX11 cX11_owner (some .int) 7 "owner" 2 0 0 (L, M) 0 [.ref 0, .int p0, .int p1, .int p2, .int p3, junk, junk] []
  refine X_iload_n 1 dX11_owner_0 rfl rfl ?_
  refine X_iconst 2 (v := 0) dX11_owner_1 rfl rfl ?_
  refine X_iconst 3 (v := 4) dX11_owner_2 rfl rfl ?_
  refine Y_cSZ 6 (as := [.int p0, .int (0 : Int32), .int (4 : Int32)]) m_X11_55 (s_X11_isWithin hL  hw) rfl (by decide) (Nat.le_of_ble_eq_true rfl) dX11_owner_3 rfl rfl (fun x2 M1 bx2 hw => ?_)
  refine X_if_eq 45 9 (y := 0) dX11_owner_6 rfl rfl (fun c3 => ?_) (fun c3 => ?_)
  · have hw := hw.1 c3
    exact t_X11_owner_45 hL   hw 
  · have hw := hw.2 c3
    refine X_iload_n 10 dX11_owner_9 rfl rfl ?_
    refine X_iconst 11 (v := 1) dX11_owner_10 rfl rfl ?_
    refine X_sipush 14 (v := 999) dX11_owner_11 rfl rfl ?_
    refine Y_cSZ 17 (as := [.int p1, .int (1 : Int32), .int (999 : Int32)]) m_X11_55 (s_X11_isWithin hL  hw) rfl (by decide) (Nat.le_of_ble_eq_true rfl) dX11_owner_14 rfl rfl (fun x5 M4 bx5 hw => ?_)
    refine X_if_eq 45 20 (y := 0) dX11_owner_17 rfl rfl (fun c6 => ?_) (fun c6 => ?_)
    · have hw := hw.1 c6
      exact t_X11_owner_45 hL   hw 
    · have hw := hw.2 c6
      refine X_iload_n 21 dX11_owner_20 rfl rfl ?_
      refine X_iconst 22 (v := 0) dX11_owner_21 rfl rfl ?_
      refine X_bipush 24 (v := 99) dX11_owner_22 rfl rfl ?_
      refine Y_cSZ 27 (as := [.int p2, .int (0 : Int32), .int (99 : Int32)]) m_X11_55 (s_X11_isWithin hL  hw) rfl (by decide) (Nat.le_of_ble_eq_true rfl) dX11_owner_24 rfl rfl (fun x8 M7 bx8 hw => ?_)
      refine X_if_eq 45 30 (y := 0) dX11_owner_27 rfl rfl (fun c9 => ?_) (fun c9 => ?_)
      · have hw := hw.1 c9
        exact t_X11_owner_45 hL   hw 
      · have hw := hw.2 c9
        refine X_iload 32 dX11_owner_30 rfl rfl ?_
        refine X_iconst 33 (v := 0) dX11_owner_32 rfl rfl ?_
        refine X_bipush 35 (v := 99) dX11_owner_33 rfl rfl ?_
        refine Y_cSZ 38 (as := [.int p3, .int (0 : Int32), .int (99 : Int32)]) m_X11_55 (s_X11_isWithin hL  hw) rfl (by decide) (Nat.le_of_ble_eq_true rfl) dX11_owner_35 rfl rfl (fun x11 M10 bx11 hw => ?_)
        obtain ⟨x12, ex12⟩ : ∃ x12 : Int32, x12 = (if x11 = 0 then (0 : Int32) else (1 : Int32)) := ⟨_, rfl⟩
        have hw := hw x12 ex12
        have bx12 : BZ x12 := by rw [ex12]; (repeat' split) <;> first | exact Or.inl rfl | exact Or.inr rfl
        have hJ : X (FM (QI L Q)) RX11 cX11_owner (some .int) 7 "owner" 2 0 0 (L, M10) 46 [.ref 0, .int p0, .int p1, .int p2, .int p3, junk, junk] [.int x12] := by
          refine X_istore 48 (ls' := [.ref 0, .int p0, .int p1, .int p2, .int p3, .int x12, junk]) dX11_owner_46 rfl (Nat.le_of_ble_eq_true rfl) rfl (Or.inr (Or.inr ⟨_, rfl, rfl⟩)) ?_
          refine X_iload 50 dX11_owner_48 rfl rfl ?_
          refine X_if_eq 65 53 (y := 0) dX11_owner_50 rfl rfl (fun c13 => ?_) (fun c13 => ?_)
          · have hw := hw.1 c13
            refine X_iconst 66 (v := -1) dX11_owner_65 rfl rfl ?_
            exact X_ret rfl rfl dX11_owner_66 ⟨_, _, rfl, rfl, hw⟩
          · have hw := hw.2 c13
            refine X_aload_n 54 dX11_owner_53 rfl rfl ?_
            refine X_getR 57 f_X11_10 (hL.ob (c := 11) (by decide) rfl) rfl (hL.rr (by decide) rfl) dX11_owner_54 rfl ?_
            refine X_getI 60 f_X11_59 (hL.W (Or.inl rfl)) rfl dX11_owner_57 rfl ?_
            refine X_bipush 62 (v := 10) dX11_owner_60 rfl rfl ?_
            refine X_icmp_lt 67 65 dX11_owner_62 rfl rfl (fun c14 => ?_) (fun c14 => ?_)
            · have hw := hw.1 c14
              refine X_aload_n 68 dX11_owner_67 rfl rfl ?_
              refine X_getR 71 f_X11_10 (hL.ob (c := 11) (by decide) rfl) rfl (hL.rr (by decide) rfl) dX11_owner_68 rfl ?_
              refine X_getR 74 f_X11_63 (hL.W (Or.inl rfl)) rfl (hL.wrr (Or.inl rfl) (k := 0) (x := 1) rfl rfl (by decide)) dX11_owner_71 rfl ?_
              refine X_aload_n 75 dX11_owner_74 rfl rfl ?_
              refine X_getR 78 f_X11_10 (hL.ob (c := 11) (by decide) rfl) rfl (hL.rr (by decide) rfl) dX11_owner_75 rfl ?_
              refine X_getI 81 f_X11_59 (hL.W (Or.inl rfl)) rfl dX11_owner_78 rfl ?_
              obtain ⟨c15, hw⟩ := hw
              refine X_aald 82 (Nat.le_refl 5) (by decide) (hL.war (Or.inl rfl) (k := 1) (t := 5) (n := 10) rfl rfl (by decide)) c15 (hL.ownr (Or.inl rfl) (vp_lt c15)) dX11_owner_81 rfl ?_
              refine X_astore 84 (ls' := [.ref 0, .int p0, .int p1, .int p2, .int p3, .int x12, .ref ((oA 1 (tn (mi M10 1 2))))]) dX11_owner_82 rfl (Nat.le_of_ble_eq_true rfl) rfl (Or.inr (Or.inr ⟨_, rfl, rfl⟩)) ?_
              refine X_aload 86 dX11_owner_84 rfl rfl ?_
              refine X_iload_n 87 dX11_owner_86 rfl rfl ?_
              refine X_putI 90 f_X11_67 (Or.inl rfl) (hL.own (Or.inl rfl) (vp_lt c15)) rfl dX11_owner_87 rfl ?_
              refine X_nmM (fun M16 eM16 => ?_)
              have hw := hw M16 eM16
              refine X_aload 92 dX11_owner_90 rfl rfl ?_
              refine X_iload_n 93 dX11_owner_92 rfl rfl ?_
              refine X_putI 96 f_X11_72 (Or.inl rfl) (hL.own (Or.inl rfl) (vp_lt c15)) rfl dX11_owner_93 rfl ?_
              refine X_nmM (fun M17 eM17 => ?_)
              have hw := hw M17 eM17
              refine X_aload 98 dX11_owner_96 rfl rfl ?_
              refine X_iload_n 99 dX11_owner_98 rfl rfl ?_
              refine X_putI 102 f_X11_75 (Or.inl rfl) (hL.own (Or.inl rfl) (vp_lt c15)) rfl dX11_owner_99 rfl ?_
              refine X_nmM (fun M18 eM18 => ?_)
              have hw := hw M18 eM18
              refine X_aload 104 dX11_owner_102 rfl rfl ?_
              refine X_iload 106 dX11_owner_104 rfl rfl ?_
              refine X_putI 109 f_X11_78 (Or.inl rfl) (hL.own (Or.inl rfl) (vp_lt c15)) rfl dX11_owner_106 rfl ?_
              refine X_nmM (fun M19 eM19 => ?_)
              have hw := hw M19 eM19
              refine X_aload_n 110 dX11_owner_109 rfl rfl ?_
              refine X_getR 113 f_X11_10 (hL.ob (c := 11) (by decide) rfl) rfl (hL.rr (by decide) rfl) dX11_owner_110 rfl ?_
              refine X_dup 114 dX11_owner_113 rfl rfl ?_
              refine X_getI 117 f_X11_59 (hL.W (Or.inl rfl)) rfl dX11_owner_114 rfl ?_
              refine X_dup_x1 118 dX11_owner_117 rfl rfl rfl ?_
              refine X_iconst 119 (v := 1) dX11_owner_118 rfl rfl ?_
              refine X_iadd 120 dX11_owner_119 rfl ?_
              refine X_putI 123 f_X11_59 (Or.inl rfl) (hL.W (Or.inl rfl)) rfl dX11_owner_120 rfl ?_
              refine X_nmM (fun M20 eM20 => ?_)
              have hw := hw M20 eM20
              exact X_ret rfl rfl dX11_owner_123 ⟨_, _, rfl, rfl, hw⟩
            · have hw := hw.2 c14
              refine X_iconst 66 (v := -1) dX11_owner_65 rfl rfl ?_
              exact X_ret rfl rfl dX11_owner_66 ⟨_, _, rfl, rfl, hw⟩
        refine X_if_eq 45 41 (y := 0) dX11_owner_38 rfl rfl (fun c21 => ?_) (fun c21 => ?_)
        · refine X_iconst 46 (v := 0) dX11_owner_45 rfl rfl ?_
          rw [if_pos c21] at ex12
          rw [ex12] at hJ
          exact hJ
        · refine X_iconst 42 (v := 1) dX11_owner_41 rfl rfl ?_
          refine X_goto 46 dX11_owner_42 rfl ?_
          rw [if_neg c21] at ex12
          rw [ex12] at hJ
          exact hJ
def w_X11_isOwner (L : Lay) (p0 : Int32) (M : Mem) (Q : Int32 → Mem → Prop) : Prop := ∀ x1 : Int32, x1 = (if p0 < 0 then (0 : Int32) else (if p0 < (mi M 1 2) then (1 : Int32) else (0 : Int32))) → (Q x1 M)
set_option maxRecDepth 20000 in
theorem s_X11_isOwner {L : Lay} (hL : LY L) {p0 : Int32}  {M : Mem} {Q : Int32 → Mem → Prop} (hw : w_X11_isOwner L p0 M Q) : MX yX11_isOwner cX11_isOwner (some .boolean) 2 1 0 0 [.ref 0, .int p0] (L, M) (QZ L Q) := by
  unfold w_X11_isOwner at hw
  refine MX_of (by decide) [.ref 0, .int p0] (by rfl) (by exact Nat.le_of_ble_eq_true rfl) ?_
  show X (FM (QZ L Q)) RX11 cX11_isOwner (some .boolean) 2 "isOwner" 1 0 0 (L, M) 0 [.ref 0, .int p0] []
  refine X_iload_n 1 dX11_isOwner_0 rfl rfl ?_
  obtain ⟨x1, ex1⟩ : ∃ x1 : Int32, x1 = (if p0 < 0 then (0 : Int32) else (if p0 < (mi M 1 2) then (1 : Int32) else (0 : Int32))) := ⟨_, rfl⟩
  have hw := hw x1 ex1
  have bx1 : BZ x1 := by rw [ex1]; (repeat' split) <;> first | exact Or.inl rfl | exact Or.inr rfl
  have hJ : X (FM (QZ L Q)) RX11 cX11_isOwner (some .boolean) 2 "isOwner" 1 0 0 (L, M) 20 [.ref 0, .int p0] [.int x1] := by
    exact X_ret rfl (nar_bool (bx1)) dX11_isOwner_20 ⟨_, _, rfl, bx1, rfl, hw⟩
  refine X_if_lt 19 4 (y := 0) dX11_isOwner_1 rfl rfl (fun c2 => ?_) (fun c2 => ?_)
  · refine X_iconst 20 (v := 0) dX11_isOwner_19 rfl rfl ?_
    rw [if_pos c2] at ex1
    rw [ex1] at hJ
    exact hJ
  · refine X_iload_n 5 dX11_isOwner_4 rfl rfl ?_
    refine X_aload_n 6 dX11_isOwner_5 rfl rfl ?_
    refine X_getR 9 f_X11_10 (hL.ob (c := 11) (by decide) rfl) rfl (hL.rr (by decide) rfl) dX11_isOwner_6 rfl ?_
    refine X_getI 12 f_X11_59 (hL.W (Or.inl rfl)) rfl dX11_isOwner_9 rfl ?_
    refine X_icmp_ge 19 15 dX11_isOwner_12 rfl rfl (fun c3 => ?_) (fun c3 => ?_)
    · refine X_iconst 20 (v := 0) dX11_isOwner_19 rfl rfl ?_
      rw [if_neg c2, if_neg c3] at ex1
      rw [ex1] at hJ
      exact hJ
    · refine X_iconst 16 (v := 1) dX11_isOwner_15 rfl rfl ?_
      refine X_goto 20 dX11_isOwner_16 rfl ?_
      rw [if_neg c2, if_pos c3] at ex1
      rw [ex1] at hJ
      exact hJ
def w_X11_digs (L : Lay) (p0 : Int32) (p1 : Int32) (M : Mem) (Q : Int32 → Mem → Prop) : Prop := w_X11_isOwner L p0 M (fun x2 M1 => (((x2 = 0 → (Q (0 : Int32) M1)) ∧ (¬ x2 = 0 → (w_X11_isWithin L p1 (0 : Int32) (99 : Int32) M1 (fun x5 M4 => (((x5 = 0 → (Q (0 : Int32) M4)) ∧ (¬ x5 = 0 → (vp_in p0 10 ∧ (∀ M8 : Mem, M8 = si M4 (oA 1 (tn p0)) 2 p1 → (Q (1 : Int32) M8))))))))))))
set_option maxRecDepth 20000 in
theorem s_X11_digs {L : Lay} (hL : LY L) {p0 : Int32} {p1 : Int32}  {M : Mem} {Q : Int32 → Mem → Prop} (hw : w_X11_digs L p0 p1 M Q) : MX yX11_digs cX11_digs (some .boolean) 3 2 0 0 [.ref 0, .int p0, .int p1] (L, M) (QZ L Q) := by
  unfold w_X11_digs at hw
  refine MX_of (by decide) [.ref 0, .int p0, .int p1] (by rfl) (by exact Nat.le_of_ble_eq_true rfl) ?_
  show X (FM (QZ L Q)) RX11 cX11_digs (some .boolean) 3 "digs" 2 0 0 (L, M) 0 [.ref 0, .int p0, .int p1] []
  refine X_aload_n 1 dX11_digs_0 rfl rfl ?_
  refine X_iload_n 2 dX11_digs_1 rfl rfl ?_
  refine Y_cVZ 5 (as := [.int p0]) m_X11_81 (s_X11_isOwner hL  hw) (hL.ob (c := 11) (by decide) rfl) rfl (by decide) (Nat.le_of_ble_eq_true rfl) dX11_digs_2 rfl rfl (fun x2 M1 bx2 hw => ?_)
  refine X_if_eq 18 8 (y := 0) dX11_digs_5 rfl rfl (fun c3 => ?_) (fun c3 => ?_)
  · have hw := hw.1 c3
    refine X_iconst 19 (v := 0) dX11_digs_18 rfl rfl ?_
    exact X_ret rfl (nar_bool (Or.inl rfl)) dX11_digs_19 ⟨_, _, rfl, Or.inl rfl, rfl, hw⟩
  · have hw := hw.2 c3
    refine X_iload_n 9 dX11_digs_8 rfl rfl ?_
    refine X_iconst 10 (v := 0) dX11_digs_9 rfl rfl ?_
    refine X_bipush 12 (v := 99) dX11_digs_10 rfl rfl ?_
    refine Y_cSZ 15 (as := [.int p1, .int (0 : Int32), .int (99 : Int32)]) m_X11_55 (s_X11_isWithin hL  hw) rfl (by decide) (Nat.le_of_ble_eq_true rfl) dX11_digs_12 rfl rfl (fun x5 M4 bx5 hw => ?_)
    refine X_if_ne 20 18 (y := 0) dX11_digs_15 rfl rfl (fun c6 => ?_) (fun c6 => ?_)
    · have hw := hw.2 c6
      refine X_aload_n 21 dX11_digs_20 rfl rfl ?_
      refine X_getR 24 f_X11_10 (hL.ob (c := 11) (by decide) rfl) rfl (hL.rr (by decide) rfl) dX11_digs_21 rfl ?_
      refine X_getR 27 f_X11_63 (hL.W (Or.inl rfl)) rfl (hL.wrr (Or.inl rfl) (k := 0) (x := 1) rfl rfl (by decide)) dX11_digs_24 rfl ?_
      refine X_iload_n 28 dX11_digs_27 rfl rfl ?_
      obtain ⟨c7, hw⟩ := hw
      refine X_aald 29 (Nat.le_refl 5) (by decide) (hL.war (Or.inl rfl) (k := 1) (t := 5) (n := 10) rfl rfl (by decide)) c7 (hL.ownr (Or.inl rfl) (vp_lt c7)) dX11_digs_28 rfl ?_
      refine X_iload_n 30 dX11_digs_29 rfl rfl ?_
      refine X_putI 33 f_X11_75 (Or.inl rfl) (hL.own (Or.inl rfl) (vp_lt c7)) rfl dX11_digs_30 rfl ?_
      refine X_nmM (fun M8 eM8 => ?_)
      have hw := hw M8 eM8
      refine X_iconst 34 (v := 1) dX11_digs_33 rfl rfl ?_
      exact X_ret rfl (nar_bool (Or.inr rfl)) dX11_digs_34 ⟨_, _, rfl, Or.inr rfl, rfl, hw⟩
    · have hw := hw.1 c6
      refine X_iconst 19 (v := 0) dX11_digs_18 rfl rfl ?_
      exact X_ret rfl (nar_bool (Or.inl rfl)) dX11_digs_19 ⟨_, _, rfl, Or.inl rfl, rfl, hw⟩
def w_X11_rebate (L : Lay) (p0 : Int32) (p1 : Int32) (M : Mem) (Q : Int32 → Mem → Prop) : Prop := w_X11_isOwner L p0 M (fun x2 M1 => (((x2 = 0 → (Q (0 : Int32) M1)) ∧ (¬ x2 = 0 → (w_X11_isWithin L p1 (0 : Int32) (50 : Int32) M1 (fun x5 M4 => (((x5 = 0 → (Q (0 : Int32) M4)) ∧ (¬ x5 = 0 → (vp_in p0 10 ∧ (∀ M8 : Mem, M8 = si M4 (oA 1 (tn p0)) 4 p1 → (Q (1 : Int32) M8))))))))))))
set_option maxRecDepth 20000 in
theorem s_X11_rebate {L : Lay} (hL : LY L) {p0 : Int32} {p1 : Int32}  {M : Mem} {Q : Int32 → Mem → Prop} (hw : w_X11_rebate L p0 p1 M Q) : MX yX11_rebate cX11_rebate (some .boolean) 3 2 0 0 [.ref 0, .int p0, .int p1] (L, M) (QZ L Q) := by
  unfold w_X11_rebate at hw
  refine MX_of (by decide) [.ref 0, .int p0, .int p1] (by rfl) (by exact Nat.le_of_ble_eq_true rfl) ?_
  show X (FM (QZ L Q)) RX11 cX11_rebate (some .boolean) 3 "rebate" 2 0 0 (L, M) 0 [.ref 0, .int p0, .int p1] []
  refine X_aload_n 1 dX11_rebate_0 rfl rfl ?_
  refine X_iload_n 2 dX11_rebate_1 rfl rfl ?_
  refine Y_cVZ 5 (as := [.int p0]) m_X11_81 (s_X11_isOwner hL  hw) (hL.ob (c := 11) (by decide) rfl) rfl (by decide) (Nat.le_of_ble_eq_true rfl) dX11_rebate_2 rfl rfl (fun x2 M1 bx2 hw => ?_)
  refine X_if_eq 18 8 (y := 0) dX11_rebate_5 rfl rfl (fun c3 => ?_) (fun c3 => ?_)
  · have hw := hw.1 c3
    refine X_iconst 19 (v := 0) dX11_rebate_18 rfl rfl ?_
    exact X_ret rfl (nar_bool (Or.inl rfl)) dX11_rebate_19 ⟨_, _, rfl, Or.inl rfl, rfl, hw⟩
  · have hw := hw.2 c3
    refine X_iload_n 9 dX11_rebate_8 rfl rfl ?_
    refine X_iconst 10 (v := 0) dX11_rebate_9 rfl rfl ?_
    refine X_bipush 12 (v := 50) dX11_rebate_10 rfl rfl ?_
    refine Y_cSZ 15 (as := [.int p1, .int (0 : Int32), .int (50 : Int32)]) m_X11_55 (s_X11_isWithin hL  hw) rfl (by decide) (Nat.le_of_ble_eq_true rfl) dX11_rebate_12 rfl rfl (fun x5 M4 bx5 hw => ?_)
    refine X_if_ne 20 18 (y := 0) dX11_rebate_15 rfl rfl (fun c6 => ?_) (fun c6 => ?_)
    · have hw := hw.2 c6
      refine X_aload_n 21 dX11_rebate_20 rfl rfl ?_
      refine X_getR 24 f_X11_10 (hL.ob (c := 11) (by decide) rfl) rfl (hL.rr (by decide) rfl) dX11_rebate_21 rfl ?_
      refine X_getR 27 f_X11_63 (hL.W (Or.inl rfl)) rfl (hL.wrr (Or.inl rfl) (k := 0) (x := 1) rfl rfl (by decide)) dX11_rebate_24 rfl ?_
      refine X_iload_n 28 dX11_rebate_27 rfl rfl ?_
      obtain ⟨c7, hw⟩ := hw
      refine X_aald 29 (Nat.le_refl 5) (by decide) (hL.war (Or.inl rfl) (k := 1) (t := 5) (n := 10) rfl rfl (by decide)) c7 (hL.ownr (Or.inl rfl) (vp_lt c7)) dX11_rebate_28 rfl ?_
      refine X_iload_n 30 dX11_rebate_29 rfl rfl ?_
      refine X_putI 33 f_X11_85 (Or.inl rfl) (hL.own (Or.inl rfl) (vp_lt c7)) rfl dX11_rebate_30 rfl ?_
      refine X_nmM (fun M8 eM8 => ?_)
      have hw := hw M8 eM8
      refine X_iconst 34 (v := 1) dX11_rebate_33 rfl rfl ?_
      exact X_ret rfl (nar_bool (Or.inr rfl)) dX11_rebate_34 ⟨_, _, rfl, Or.inr rfl, rfl, hw⟩
    · have hw := hw.1 c6
      refine X_iconst 19 (v := 0) dX11_rebate_18 rfl rfl ?_
      exact X_ret rfl (nar_bool (Or.inl rfl)) dX11_rebate_19 ⟨_, _, rfl, Or.inl rfl, rfl, hw⟩
def w_X11_breaker (L : Lay) (p0 : Int32) (p1 : Int32) (M : Mem) (Q : Int32 → Mem → Prop) : Prop := w_X11_isOwner L p0 M (fun x2 M1 => (((x2 = 0 → (Q (0 : Int32) M1)) ∧ (¬ x2 = 0 → (vp_in p0 10 ∧ (BZ p1 ∧ (∀ M6 : Mem, M6 = si M1 (oA 1 (tn p0)) 5 p1 → (Q (1 : Int32) M6))))))))
set_option maxRecDepth 20000 in
theorem s_X11_breaker {L : Lay} (hL : LY L) {p0 : Int32} {p1 : Int32}  {M : Mem} {Q : Int32 → Mem → Prop} (hw : w_X11_breaker L p0 p1 M Q) : MX yX11_breaker cX11_breaker (some .boolean) 3 2 0 0 [.ref 0, .int p0, .int p1] (L, M) (QZ L Q) := by
  unfold w_X11_breaker at hw
  refine MX_of (by decide) [.ref 0, .int p0, .int p1] (by rfl) (by exact Nat.le_of_ble_eq_true rfl) ?_
  show X (FM (QZ L Q)) RX11 cX11_breaker (some .boolean) 3 "breaker" 2 0 0 (L, M) 0 [.ref 0, .int p0, .int p1] []
  refine X_aload_n 1 dX11_breaker_0 rfl rfl ?_
  refine X_iload_n 2 dX11_breaker_1 rfl rfl ?_
  refine Y_cVZ 5 (as := [.int p0]) m_X11_81 (s_X11_isOwner hL  hw) (hL.ob (c := 11) (by decide) rfl) rfl (by decide) (Nat.le_of_ble_eq_true rfl) dX11_breaker_2 rfl rfl (fun x2 M1 bx2 hw => ?_)
  refine X_if_ne 10 8 (y := 0) dX11_breaker_5 rfl rfl (fun c3 => ?_) (fun c3 => ?_)
  · have hw := hw.2 c3
    refine X_aload_n 11 dX11_breaker_10 rfl rfl ?_
    refine X_getR 14 f_X11_10 (hL.ob (c := 11) (by decide) rfl) rfl (hL.rr (by decide) rfl) dX11_breaker_11 rfl ?_
    refine X_getR 17 f_X11_63 (hL.W (Or.inl rfl)) rfl (hL.wrr (Or.inl rfl) (k := 0) (x := 1) rfl rfl (by decide)) dX11_breaker_14 rfl ?_
    refine X_iload_n 18 dX11_breaker_17 rfl rfl ?_
    obtain ⟨c4, hw⟩ := hw
    refine X_aald 19 (Nat.le_refl 5) (by decide) (hL.war (Or.inl rfl) (k := 1) (t := 5) (n := 10) rfl rfl (by decide)) c4 (hL.ownr (Or.inl rfl) (vp_lt c4)) dX11_breaker_18 rfl ?_
    refine X_iload_n 20 dX11_breaker_19 rfl rfl ?_
    obtain ⟨c5, hw⟩ := hw
    refine X_putZ 23 f_X11_88 (c5) (Or.inl rfl) (hL.own (Or.inl rfl) (vp_lt c4)) rfl dX11_breaker_20 rfl ?_
    refine X_nmM (fun M6 eM6 => ?_)
    have hw := hw M6 eM6
    refine X_iconst 24 (v := 1) dX11_breaker_23 rfl rfl ?_
    exact X_ret rfl (nar_bool (Or.inr rfl)) dX11_breaker_24 ⟨_, _, rfl, Or.inr rfl, rfl, hw⟩
  · have hw := hw.1 c3
    refine X_iconst 9 (v := 0) dX11_breaker_8 rfl rfl ?_
    exact X_ret rfl (nar_bool (Or.inl rfl)) dX11_breaker_9 ⟨_, _, rfl, Or.inl rfl, rfl, hw⟩
def w_X11_ship (L : Lay) (p0 : Int32) (p1 : Int32) (M : Mem) (Q : Int32 → Mem → Prop) : Prop := w_X11_isWithin L p0 (8 : Int32) (96 : Int32) M (fun x2 M1 => (((x2 = 0 → (Q (-1 : Int32) M1)) ∧ (¬ x2 = 0 → (w_X11_isWithin L p1 (0 : Int32) (4 : Int32) M1 (fun x5 M4 => (((x5 = 0 → (Q (-1 : Int32) M4)) ∧ (¬ x5 = 0 → ((((mi M4 1 4) < (8 : Int32) → (vp_in (mi M4 1 4) 8 ∧ (∀ M9 : Mem, M9 = si M4 (sA 1 (tn (mi M4 1 4))) 0 p0 → (∀ M10 : Mem, M10 = si M9 (sA 1 (tn (mi M4 1 4))) 1 p1 → (∀ M11 : Mem, M11 = si M10 (sA 1 (tn (mi M4 1 4))) 4 (mi M10 1 0) → (∀ M12 : Mem, M12 = si M11 1 4 ((mi M11 1 4) + (1 : Int32)) → (Q (mi M11 1 4) M12))))))) ∧ (¬ (mi M4 1 4) < (8 : Int32) → (Q (-1 : Int32) M4)))))))))))))
set_option maxRecDepth 20000 in
theorem s_X11_ship {L : Lay} (hL : LY L) {p0 : Int32} {p1 : Int32}  {M : Mem} {Q : Int32 → Mem → Prop} (hw : w_X11_ship L p0 p1 M Q) : MX yX11_ship cX11_ship (some .int) 4 2 0 0 [.ref 0, .int p0, .int p1] (L, M) (QI L Q) := by
  unfold w_X11_ship at hw
  refine MX_of (by decide) [.ref 0, .int p0, .int p1, junk] (by rfl) (by exact Nat.le_of_ble_eq_true rfl) ?_
  show X (FM (QI L Q)) RX11 cX11_ship (some .int) 4 "ship" 2 0 0 (L, M) 0 [.ref 0, .int p0, .int p1, junk] []
  refine X_iload_n 1 dX11_ship_0 rfl rfl ?_
  refine X_bipush 3 (v := 8) dX11_ship_1 rfl rfl ?_
  refine X_bipush 5 (v := 96) dX11_ship_3 rfl rfl ?_
  refine Y_cSZ 8 (as := [.int p0, .int (8 : Int32), .int (96 : Int32)]) m_X11_55 (s_X11_isWithin hL  hw) rfl (by decide) (Nat.le_of_ble_eq_true rfl) dX11_ship_5 rfl rfl (fun x2 M1 bx2 hw => ?_)
  refine X_if_eq 32 11 (y := 0) dX11_ship_8 rfl rfl (fun c3 => ?_) (fun c3 => ?_)
  · have hw := hw.1 c3
    refine X_iconst 33 (v := -1) dX11_ship_32 rfl rfl ?_
    exact X_ret rfl rfl dX11_ship_33 ⟨_, _, rfl, rfl, hw⟩
  · have hw := hw.2 c3
    refine X_iload_n 12 dX11_ship_11 rfl rfl ?_
    refine X_iconst 13 (v := 0) dX11_ship_12 rfl rfl ?_
    refine X_iconst 14 (v := 4) dX11_ship_13 rfl rfl ?_
    refine Y_cSZ 17 (as := [.int p1, .int (0 : Int32), .int (4 : Int32)]) m_X11_55 (s_X11_isWithin hL  hw) rfl (by decide) (Nat.le_of_ble_eq_true rfl) dX11_ship_14 rfl rfl (fun x5 M4 bx5 hw => ?_)
    refine X_if_eq 32 20 (y := 0) dX11_ship_17 rfl rfl (fun c6 => ?_) (fun c6 => ?_)
    · have hw := hw.1 c6
      refine X_iconst 33 (v := -1) dX11_ship_32 rfl rfl ?_
      exact X_ret rfl rfl dX11_ship_33 ⟨_, _, rfl, rfl, hw⟩
    · have hw := hw.2 c6
      refine X_aload_n 21 dX11_ship_20 rfl rfl ?_
      refine X_getR 24 f_X11_10 (hL.ob (c := 11) (by decide) rfl) rfl (hL.rr (by decide) rfl) dX11_ship_21 rfl ?_
      refine X_getI 27 f_X11_92 (hL.W (Or.inl rfl)) rfl dX11_ship_24 rfl ?_
      refine X_bipush 29 (v := 8) dX11_ship_27 rfl rfl ?_
      refine X_icmp_lt 34 32 dX11_ship_29 rfl rfl (fun c7 => ?_) (fun c7 => ?_)
      · have hw := hw.1 c7
        refine X_aload_n 35 dX11_ship_34 rfl rfl ?_
        refine X_getR 38 f_X11_10 (hL.ob (c := 11) (by decide) rfl) rfl (hL.rr (by decide) rfl) dX11_ship_35 rfl ?_
        refine X_getR 41 f_X11_95 (hL.W (Or.inl rfl)) rfl (hL.wrr (Or.inl rfl) (k := 0) (x := 2) rfl rfl (by decide)) dX11_ship_38 rfl ?_
        refine X_aload_n 42 dX11_ship_41 rfl rfl ?_
        refine X_getR 45 f_X11_10 (hL.ob (c := 11) (by decide) rfl) rfl (hL.rr (by decide) rfl) dX11_ship_42 rfl ?_
        refine X_getI 48 f_X11_92 (hL.W (Or.inl rfl)) rfl dX11_ship_45 rfl ?_
        obtain ⟨c8, hw⟩ := hw
        refine X_aald 49 (by decide) (by decide) (hL.war (Or.inl rfl) (k := 2) (t := 6) (n := 8) rfl rfl (by decide)) c8 (hL.shpr (Or.inl rfl) (vp_lt c8)) dX11_ship_48 rfl ?_
        refine X_astore_n 50 (ls' := [.ref 0, .int p0, .int p1, .ref ((sA 1 (tn (mi M4 1 4))))]) dX11_ship_49 rfl rfl (Nat.le_of_ble_eq_true rfl) rfl (Or.inr (Or.inr ⟨_, rfl, rfl⟩)) ?_
        refine X_aload_n 51 dX11_ship_50 rfl rfl ?_
        refine X_iload_n 52 dX11_ship_51 rfl rfl ?_
        refine X_putI 55 f_X11_99 (Or.inl rfl) (hL.shp (Or.inl rfl) (vp_lt c8)).1 rfl dX11_ship_52 rfl ?_
        refine X_nmM (fun M9 eM9 => ?_)
        have hw := hw M9 eM9
        refine X_aload_n 56 dX11_ship_55 rfl rfl ?_
        refine X_iload_n 57 dX11_ship_56 rfl rfl ?_
        refine X_putI 60 f_X11_104 (Or.inl rfl) (hL.shp (Or.inl rfl) (vp_lt c8)).1 rfl dX11_ship_57 rfl ?_
        refine X_nmM (fun M10 eM10 => ?_)
        have hw := hw M10 eM10
        refine X_aload_n 61 dX11_ship_60 rfl rfl ?_
        refine X_aload_n 62 dX11_ship_61 rfl rfl ?_
        refine X_getR 65 f_X11_10 (hL.ob (c := 11) (by decide) rfl) rfl (hL.rr (by decide) rfl) dX11_ship_62 rfl ?_
        refine X_getI 68 f_X11_107 (hL.W (Or.inl rfl)) rfl dX11_ship_65 rfl ?_
        refine X_putI 71 f_X11_110 (Or.inl rfl) (hL.shp (Or.inl rfl) (vp_lt c8)).1 rfl dX11_ship_68 rfl ?_
        refine X_nmM (fun M11 eM11 => ?_)
        have hw := hw M11 eM11
        refine X_aload_n 72 dX11_ship_71 rfl rfl ?_
        refine X_getR 75 f_X11_10 (hL.ob (c := 11) (by decide) rfl) rfl (hL.rr (by decide) rfl) dX11_ship_72 rfl ?_
        refine X_dup 76 dX11_ship_75 rfl rfl ?_
        refine X_getI 79 f_X11_92 (hL.W (Or.inl rfl)) rfl dX11_ship_76 rfl ?_
        refine X_dup_x1 80 dX11_ship_79 rfl rfl rfl ?_
        refine X_iconst 81 (v := 1) dX11_ship_80 rfl rfl ?_
        refine X_iadd 82 dX11_ship_81 rfl ?_
        refine X_putI 85 f_X11_92 (Or.inl rfl) (hL.W (Or.inl rfl)) rfl dX11_ship_82 rfl ?_
        refine X_nmM (fun M12 eM12 => ?_)
        have hw := hw M12 eM12
        exact X_ret rfl rfl dX11_ship_85 ⟨_, _, rfl, rfl, hw⟩
      · have hw := hw.2 c7
        refine X_iconst 33 (v := -1) dX11_ship_32 rfl rfl ?_
        exact X_ret rfl rfl dX11_ship_33 ⟨_, _, rfl, rfl, hw⟩
def w_X11_keels (L : Lay) (p0 : Int32) (M : Mem) (Q : Int32 → Mem → Prop) : Prop := w_X11_isWithin L p0 (0 : Int32) (6 : Int32) M (fun x2 M1 => (((x2 = 0 → (Q (0 : Int32) M1)) ∧ (¬ x2 = 0 → (∀ M4 : Mem, M4 = si M1 1 5 p0 → (Q (1 : Int32) M4))))))
set_option maxRecDepth 20000 in
theorem s_X11_keels {L : Lay} (hL : LY L) {p0 : Int32}  {M : Mem} {Q : Int32 → Mem → Prop} (hw : w_X11_keels L p0 M Q) : MX yX11_keels cX11_keels (some .boolean) 2 2 0 0 [.ref 0, .int p0] (L, M) (QZ L Q) := by
  unfold w_X11_keels at hw
  refine MX_of (by decide) [.ref 0, .int p0] (by rfl) (by exact Nat.le_of_ble_eq_true rfl) ?_
  show X (FM (QZ L Q)) RX11 cX11_keels (some .boolean) 2 "keels" 2 0 0 (L, M) 0 [.ref 0, .int p0] []
  refine X_iload_n 1 dX11_keels_0 rfl rfl ?_
  refine X_iconst 2 (v := 0) dX11_keels_1 rfl rfl ?_
  refine X_bipush 4 (v := 6) dX11_keels_2 rfl rfl ?_
  refine Y_cSZ 7 (as := [.int p0, .int (0 : Int32), .int (6 : Int32)]) m_X11_55 (s_X11_isWithin hL  hw) rfl (by decide) (Nat.le_of_ble_eq_true rfl) dX11_keels_4 rfl rfl (fun x2 M1 bx2 hw => ?_)
  refine X_if_ne 12 10 (y := 0) dX11_keels_7 rfl rfl (fun c3 => ?_) (fun c3 => ?_)
  · have hw := hw.2 c3
    refine X_aload_n 13 dX11_keels_12 rfl rfl ?_
    refine X_getR 16 f_X11_10 (hL.ob (c := 11) (by decide) rfl) rfl (hL.rr (by decide) rfl) dX11_keels_13 rfl ?_
    refine X_iload_n 17 dX11_keels_16 rfl rfl ?_
    refine X_putI 20 f_X11_113 (Or.inl rfl) (hL.W (Or.inl rfl)) rfl dX11_keels_17 rfl ?_
    refine X_nmM (fun M4 eM4 => ?_)
    have hw := hw M4 eM4
    refine X_iconst 21 (v := 1) dX11_keels_20 rfl rfl ?_
    exact X_ret rfl (nar_bool (Or.inr rfl)) dX11_keels_21 ⟨_, _, rfl, Or.inr rfl, rfl, hw⟩
  · have hw := hw.1 c3
    refine X_iconst 11 (v := 0) dX11_keels_10 rfl rfl ?_
    exact X_ret rfl (nar_bool (Or.inl rfl)) dX11_keels_11 ⟨_, _, rfl, Or.inl rfl, rfl, hw⟩
def w_X11_winds_40 (L : Lay) (p0 : Int32) (p1 : Int32) (K40 : Int32 → Mem → Prop) (v3 : Int32) (M : Mem) (Q : Int32 → Mem → Prop) : Prop := ((v3 < ((mi M 0 7) + p1) → (vp_in v3 720 ∧ (∀ M12 : Mem, M12 = si M 90 (tn v3) (narB (jbyt p0)) → (∀ x13 : Int32, x13 = v3 + (1 : Int32) → (K40 x13 M12))))) ∧ (¬ v3 < ((mi M 0 7) + p1) → (∀ M10 : Mem, M10 = si M 0 7 ((mi M 0 7) + p1) → (Q (mi M10 0 7) M10))))
set_option maxRecDepth 20000 in
theorem t_X11_winds_40 {L : Lay} (hL : LY L) {p0 : Int32} {p1 : Int32}  {K40 : Int32 → Mem → Prop} {v3 : Int32}  {M : Mem} {Q : Int32 → Mem → Prop} (hw : w_X11_winds_40 L p0 p1 K40 v3 M Q) (hK40 : ∀ (v3 : Int32) (M : Mem), K40 v3 M → X (FM (QI L Q)) RX11 cX11_winds (some .int) 4 "winds" 2 0 0 (L, M) 40 [.ref 0, .int p0, .int p1, .int v3] []) : X (FM (QI L Q)) RX11 cX11_winds (some .int) 4 "winds" 2 0 0 (L, M) 40 [.ref 0, .int p0, .int p1, .int v3] [] := by
  unfold w_X11_winds_40 at hw
  refine X_iload_n 41 dX11_winds_40 rfl rfl ?_
  refine X_aload_n 42 dX11_winds_41 rfl rfl ?_
  refine X_getI 45 f_X11_116 (hL.ob (c := 11) (by decide) rfl) rfl dX11_winds_42 rfl ?_
  refine X_iload_n 46 dX11_winds_45 rfl rfl ?_
  refine X_iadd 47 dX11_winds_46 rfl ?_
  refine X_icmp_ge 64 50 dX11_winds_47 rfl rfl (fun c9 => ?_) (fun c9 => ?_)
  · have hw := hw.2 c9
    refine X_aload_n 65 dX11_winds_64 rfl rfl ?_
    refine X_dup 66 dX11_winds_65 rfl rfl ?_
    refine X_getI 69 f_X11_116 (hL.ob (c := 11) (by decide) rfl) rfl dX11_winds_66 rfl ?_
    refine X_iload_n 70 dX11_winds_69 rfl rfl ?_
    refine X_iadd 71 dX11_winds_70 rfl ?_
    refine X_putI 74 f_X11_116 (Or.inl rfl) (hL.ob (c := 11) (by decide) rfl) rfl dX11_winds_71 rfl ?_
    refine X_nmM (fun M10 eM10 => ?_)
    have hw := hw M10 eM10
    refine X_aload_n 75 dX11_winds_74 rfl rfl ?_
    refine X_getI 78 f_X11_116 (hL.ob (c := 11) (by decide) rfl) rfl dX11_winds_75 rfl ?_
    exact X_ret rfl rfl dX11_winds_78 ⟨_, _, rfl, rfl, hw⟩
  · have hw := hw.1 c9
    refine X_aload_n 51 dX11_winds_50 rfl rfl ?_
    refine X_getR 54 f_X11_47 (hL.ob (c := 11) (by decide) rfl) rfl (hL.rr (by decide) rfl) dX11_winds_51 rfl ?_
    refine X_iload_n 55 dX11_winds_54 rfl rfl ?_
    refine X_iload_n 56 dX11_winds_55 rfl rfl ?_
    refine Y_i2b 57 dX11_winds_56 rfl ?_
    obtain ⟨c11, hw⟩ := hw
    refine Y_bast 58 (k := (tn v3)) (hL.ar (t := 2) (n := 720) (by decide) rfl) c11 rfl dX11_winds_57 rfl ?_
    refine X_nmM (fun M12 eM12 => ?_)
    have hw := hw M12 eM12
    obtain ⟨x13, ex13⟩ : ∃ x13 : Int32, x13 = v3 + (1 : Int32) := ⟨_, rfl⟩
    have hw := hw x13 ex13
    refine X_iinc 61 (v := x13) (ls' := [.ref 0, .int p0, .int p1, .int x13]) dX11_winds_58 rfl rfl (by rw [ex13]; rfl) rfl (Or.inr (Or.inr ⟨_, rfl, rfl⟩)) ?_
    refine X_goto 40 dX11_winds_61 rfl ?_
    exact hK40 x13 M12 hw
def w_X11_winds (L : Lay) (p0 : Int32) (p1 : Int32) (M : Mem) (Q : Int32 → Mem → Prop) : Prop := w_X11_isWithin L p0 (0 : Int32) (3 : Int32) M (fun x2 M1 => (((x2 = 0 → (Q (-1 : Int32) M1)) ∧ (¬ x2 = 0 → (w_X11_isWithin L p1 (1 : Int32) (60 : Int32) M1 (fun x5 M4 => (((x5 = 0 → (Q (-1 : Int32) M4)) ∧ (¬ x5 = 0 → ((((nI 720) < ((mi M4 0 7) + p1) → (Q (-1 : Int32) M4)) ∧ (¬ (nI 720) < ((mi M4 0 7) + p1) → (∀ x8 : Int32, x8 = (mi M4 0 7) → (LP2 (fun K40 v3 M => w_X11_winds_40 L p0 p1  K40 v3 M Q) x8 M4))))))))))))))
set_option maxRecDepth 20000 in
theorem s_X11_winds {L : Lay} (hL : LY L) {p0 : Int32} {p1 : Int32}  {M : Mem} {Q : Int32 → Mem → Prop} (hw : w_X11_winds L p0 p1 M Q) : MX yX11_winds cX11_winds (some .int) 4 2 0 0 [.ref 0, .int p0, .int p1] (L, M) (QI L Q) := by
  unfold w_X11_winds at hw
  refine MX_of (by decide) [.ref 0, .int p0, .int p1, junk] (by rfl) (by exact Nat.le_of_ble_eq_true rfl) ?_
  show X (FM (QI L Q)) RX11 cX11_winds (some .int) 4 "winds" 2 0 0 (L, M) 0 [.ref 0, .int p0, .int p1, junk] []
  refine X_iload_n 1 dX11_winds_0 rfl rfl ?_
  refine X_iconst 2 (v := 0) dX11_winds_1 rfl rfl ?_
  refine X_iconst 3 (v := 3) dX11_winds_2 rfl rfl ?_
  refine Y_cSZ 6 (as := [.int p0, .int (0 : Int32), .int (3 : Int32)]) m_X11_55 (s_X11_isWithin hL  hw) rfl (by decide) (Nat.le_of_ble_eq_true rfl) dX11_winds_3 rfl rfl (fun x2 M1 bx2 hw => ?_)
  refine X_if_eq 33 9 (y := 0) dX11_winds_6 rfl rfl (fun c3 => ?_) (fun c3 => ?_)
  · have hw := hw.1 c3
    refine X_iconst 34 (v := -1) dX11_winds_33 rfl rfl ?_
    exact X_ret rfl rfl dX11_winds_34 ⟨_, _, rfl, rfl, hw⟩
  · have hw := hw.2 c3
    refine X_iload_n 10 dX11_winds_9 rfl rfl ?_
    refine X_iconst 11 (v := 1) dX11_winds_10 rfl rfl ?_
    refine X_bipush 13 (v := 60) dX11_winds_11 rfl rfl ?_
    refine Y_cSZ 16 (as := [.int p1, .int (1 : Int32), .int (60 : Int32)]) m_X11_55 (s_X11_isWithin hL  hw) rfl (by decide) (Nat.le_of_ble_eq_true rfl) dX11_winds_13 rfl rfl (fun x5 M4 bx5 hw => ?_)
    refine X_if_eq 33 19 (y := 0) dX11_winds_16 rfl rfl (fun c6 => ?_) (fun c6 => ?_)
    · have hw := hw.1 c6
      refine X_iconst 34 (v := -1) dX11_winds_33 rfl rfl ?_
      exact X_ret rfl rfl dX11_winds_34 ⟨_, _, rfl, rfl, hw⟩
    · have hw := hw.2 c6
      refine X_aload_n 20 dX11_winds_19 rfl rfl ?_
      refine X_getI 23 f_X11_116 (hL.ob (c := 11) (by decide) rfl) rfl dX11_winds_20 rfl ?_
      refine X_iload_n 24 dX11_winds_23 rfl rfl ?_
      refine X_iadd 25 dX11_winds_24 rfl ?_
      refine X_aload_n 26 dX11_winds_25 rfl rfl ?_
      refine X_getR 29 f_X11_47 (hL.ob (c := 11) (by decide) rfl) rfl (hL.rr (by decide) rfl) dX11_winds_26 rfl ?_
      refine X_alen 30 (t := 2) (by decide) (hL.ar (t := 2) (n := 720) (by decide) rfl) dX11_winds_29 rfl ?_
      refine X_icmp_le 35 33 dX11_winds_30 rfl rfl (fun c7 => ?_) (fun c7 => ?_)
      · have hw := hw.2 c7
        refine X_aload_n 36 dX11_winds_35 rfl rfl ?_
        refine X_getI 39 f_X11_116 (hL.ob (c := 11) (by decide) rfl) rfl dX11_winds_36 rfl ?_
        refine X_nmI (fun x8 ex8 => ?_)
        have hw := hw x8 ex8
        refine X_istore_n 40 (ls' := [.ref 0, .int p0, .int p1, .int x8]) dX11_winds_39 rfl rfl (Nat.le_of_ble_eq_true rfl) rfl (Or.inr (Or.inr ⟨_, rfl, rfl⟩)) ?_
        exact LP2_s hw (G := fun v3 M => X (FM (QI L Q)) RX11 cX11_winds (some .int) 4 "winds" 2 0 0 (L, M) 40 [.ref 0, .int p0, .int p1, .int v3] []) (fun K40 v3 M hb hK => t_X11_winds_40 hL  hb  hK)
      · have hw := hw.1 c7
        refine X_iconst 34 (v := -1) dX11_winds_33 rfl rfl ?_
        exact X_ret rfl rfl dX11_winds_34 ⟨_, _, rfl, rfl, hw⟩
def w_X11_city (L : Lay) (p0 : Int32) (p1 : Int32) (p2 : Int32) (M : Mem) (Q : Int32 → Mem → Prop) : Prop := w_X11_isWithin L p0 (0 : Int32) (99999 : Int32) M (fun x2 M1 => (((x2 = 0 → (Q (0 : Int32) M1)) ∧ (¬ x2 = 0 → (w_X11_isWithin L p1 (0 : Int32) (999 : Int32) M1 (fun x5 M4 => (((x5 = 0 → (Q (0 : Int32) M4)) ∧ (¬ x5 = 0 → (w_X11_isWithin L p2 (1 : Int32) (999 : Int32) M4 (fun x8 M7 => (((x8 = 0 → (Q (0 : Int32) M7)) ∧ (¬ x8 = 0 → (∀ M10 : Mem, M10 = si M7 4 0 p0 → (∀ M11 : Mem, M11 = si M10 4 1 p1 → (∀ M12 : Mem, M12 = si M11 4 2 p2 → (Q (1 : Int32) M12))))))))))))))))))
set_option maxRecDepth 20000 in
theorem s_X11_city {L : Lay} (hL : LY L) {p0 : Int32} {p1 : Int32} {p2 : Int32}  {M : Mem} {Q : Int32 → Mem → Prop} (hw : w_X11_city L p0 p1 p2 M Q) : MX yX11_city cX11_city (some .boolean) 4 2 0 0 [.ref 0, .int p0, .int p1, .int p2] (L, M) (QZ L Q) := by
  unfold w_X11_city at hw
  refine MX_of (by decide) [.ref 0, .int p0, .int p1, .int p2] (by rfl) (by exact Nat.le_of_ble_eq_true rfl) ?_
  show X (FM (QZ L Q)) RX11 cX11_city (some .boolean) 4 "city" 2 0 0 (L, M) 0 [.ref 0, .int p0, .int p1, .int p2] []
  refine X_iload_n 1 dX11_city_0 rfl rfl ?_
  refine X_iconst 2 (v := 0) dX11_city_1 rfl rfl ?_
  refine X_ldc 4 dX11_city_2 rfl k_X11_119 ?_
  refine Y_cSZ 7 (as := [.int p0, .int (0 : Int32), .int (99999 : Int32)]) m_X11_55 (s_X11_isWithin hL  hw) rfl (by decide) (Nat.le_of_ble_eq_true rfl) dX11_city_4 rfl rfl (fun x2 M1 bx2 hw => ?_)
  refine X_if_eq 32 10 (y := 0) dX11_city_7 rfl rfl (fun c3 => ?_) (fun c3 => ?_)
  · have hw := hw.1 c3
    refine X_iconst 33 (v := 0) dX11_city_32 rfl rfl ?_
    exact X_ret rfl (nar_bool (Or.inl rfl)) dX11_city_33 ⟨_, _, rfl, Or.inl rfl, rfl, hw⟩
  · have hw := hw.2 c3
    refine X_iload_n 11 dX11_city_10 rfl rfl ?_
    refine X_iconst 12 (v := 0) dX11_city_11 rfl rfl ?_
    refine X_sipush 15 (v := 999) dX11_city_12 rfl rfl ?_
    refine Y_cSZ 18 (as := [.int p1, .int (0 : Int32), .int (999 : Int32)]) m_X11_55 (s_X11_isWithin hL  hw) rfl (by decide) (Nat.le_of_ble_eq_true rfl) dX11_city_15 rfl rfl (fun x5 M4 bx5 hw => ?_)
    refine X_if_eq 32 21 (y := 0) dX11_city_18 rfl rfl (fun c6 => ?_) (fun c6 => ?_)
    · have hw := hw.1 c6
      refine X_iconst 33 (v := 0) dX11_city_32 rfl rfl ?_
      exact X_ret rfl (nar_bool (Or.inl rfl)) dX11_city_33 ⟨_, _, rfl, Or.inl rfl, rfl, hw⟩
    · have hw := hw.2 c6
      refine X_iload_n 22 dX11_city_21 rfl rfl ?_
      refine X_iconst 23 (v := 1) dX11_city_22 rfl rfl ?_
      refine X_sipush 26 (v := 999) dX11_city_23 rfl rfl ?_
      refine Y_cSZ 29 (as := [.int p2, .int (1 : Int32), .int (999 : Int32)]) m_X11_55 (s_X11_isWithin hL  hw) rfl (by decide) (Nat.le_of_ble_eq_true rfl) dX11_city_26 rfl rfl (fun x8 M7 bx8 hw => ?_)
      refine X_if_ne 34 32 (y := 0) dX11_city_29 rfl rfl (fun c9 => ?_) (fun c9 => ?_)
      · have hw := hw.2 c9
        refine X_aload_n 35 dX11_city_34 rfl rfl ?_
        refine X_getR 38 f_X11_10 (hL.ob (c := 11) (by decide) rfl) rfl (hL.rr (by decide) rfl) dX11_city_35 rfl ?_
        refine X_getR 41 f_X11_120 (hL.W (Or.inl rfl)) rfl (hL.wrr (Or.inl rfl) (k := 0) (x := 3) rfl rfl (by decide)) dX11_city_38 rfl ?_
        refine X_iload_n 42 dX11_city_41 rfl rfl ?_
        refine X_putI 45 f_X11_124 (Or.inl rfl) (hL.wob (Or.inl rfl) (k := 3) (c := 0) rfl rfl (by decide)) rfl dX11_city_42 rfl ?_
        refine X_nmM (fun M10 eM10 => ?_)
        have hw := hw M10 eM10
        refine X_aload_n 46 dX11_city_45 rfl rfl ?_
        refine X_getR 49 f_X11_10 (hL.ob (c := 11) (by decide) rfl) rfl (hL.rr (by decide) rfl) dX11_city_46 rfl ?_
        refine X_getR 52 f_X11_120 (hL.W (Or.inl rfl)) rfl (hL.wrr (Or.inl rfl) (k := 0) (x := 3) rfl rfl (by decide)) dX11_city_49 rfl ?_
        refine X_iload_n 53 dX11_city_52 rfl rfl ?_
        refine X_putI 56 f_X11_129 (Or.inl rfl) (hL.wob (Or.inl rfl) (k := 3) (c := 0) rfl rfl (by decide)) rfl dX11_city_53 rfl ?_
        refine X_nmM (fun M11 eM11 => ?_)
        have hw := hw M11 eM11
        refine X_aload_n 57 dX11_city_56 rfl rfl ?_
        refine X_getR 60 f_X11_10 (hL.ob (c := 11) (by decide) rfl) rfl (hL.rr (by decide) rfl) dX11_city_57 rfl ?_
        refine X_getR 63 f_X11_120 (hL.W (Or.inl rfl)) rfl (hL.wrr (Or.inl rfl) (k := 0) (x := 3) rfl rfl (by decide)) dX11_city_60 rfl ?_
        refine X_iload_n 64 dX11_city_63 rfl rfl ?_
        refine X_putI 67 f_X11_132 (Or.inl rfl) (hL.wob (Or.inl rfl) (k := 3) (c := 0) rfl rfl (by decide)) rfl dX11_city_64 rfl ?_
        refine X_nmM (fun M12 eM12 => ?_)
        have hw := hw M12 eM12
        refine X_iconst 68 (v := 1) dX11_city_67 rfl rfl ?_
        exact X_ret rfl (nar_bool (Or.inr rfl)) dX11_city_68 ⟨_, _, rfl, Or.inr rfl, rfl, hw⟩
      · have hw := hw.1 c9
        refine X_iconst 33 (v := 0) dX11_city_32 rfl rfl ?_
        exact X_ret rfl (nar_bool (Or.inl rfl)) dX11_city_33 ⟨_, _, rfl, Or.inl rfl, rfl, hw⟩
def w_X11_feed (L : Lay) (p0 : Int64) (p1 : Int64) (p2 : Int64) (M : Mem) (Q : Int32 → Mem → Prop) : Prop := w_X5_addBytes L p0 M (fun M1 => (w_X5_addBytes L p1 M1 (fun M2 => (w_X5_addBytes L p2 M2 (fun M3 => (Q (mi M3 71 1) M3))))))
set_option maxRecDepth 20000 in
theorem s_X11_feed {L : Lay} (hL : LY L) {p0 : Int64} {p1 : Int64} {p2 : Int64}  {M : Mem} {Q : Int32 → Mem → Prop} (hw : w_X11_feed L p0 p1 p2 M Q) : MX yX11_feed cX11_feed (some .int) 7 2 0 0 [.ref 0, .long p0, .long p1, .long p2] (L, M) (QI L Q) := by
  unfold w_X11_feed at hw
  refine MX_of (by decide) [.ref 0, .long p0, junk, .long p1, junk, .long p2, junk] (by rfl) (by exact Nat.le_of_ble_eq_true rfl) ?_
  show X (FM (QI L Q)) RX11 cX11_feed (some .int) 7 "feed" 2 0 0 (L, M) 0 [.ref 0, .long p0, junk, .long p1, junk, .long p2, junk] []
  refine X_aload_n 1 dX11_feed_0 rfl rfl ?_
  refine X_getR 4 f_X11_22 (hL.ob (c := 11) (by decide) rfl) rfl (hL.rr (by decide) rfl) dX11_feed_1 rfl ?_
  refine X_lload_n 5 dX11_feed_4 rfl rfl ?_
  refine Y_cVV 8 (as := [.long p0]) m_X11_135 (s_X5_addBytes hL  hw) (hL.ob (c := 5) (by decide) rfl) rfl (by decide) (Nat.le_of_ble_eq_true rfl) dX11_feed_5 rfl rfl (fun M1 hw => ?_)
  refine X_aload_n 9 dX11_feed_8 rfl rfl ?_
  refine X_getR 12 f_X11_22 (hL.ob (c := 11) (by decide) rfl) rfl (hL.rr (by decide) rfl) dX11_feed_9 rfl ?_
  refine X_lload_n 13 dX11_feed_12 rfl rfl ?_
  refine Y_cVV 16 (as := [.long p1]) m_X11_135 (s_X5_addBytes hL  hw) (hL.ob (c := 5) (by decide) rfl) rfl (by decide) (Nat.le_of_ble_eq_true rfl) dX11_feed_13 rfl rfl (fun M2 hw => ?_)
  refine X_aload_n 17 dX11_feed_16 rfl rfl ?_
  refine X_getR 20 f_X11_22 (hL.ob (c := 11) (by decide) rfl) rfl (hL.rr (by decide) rfl) dX11_feed_17 rfl ?_
  refine X_lload 22 dX11_feed_20 rfl rfl ?_
  refine Y_cVV 25 (as := [.long p2]) m_X11_135 (s_X5_addBytes hL  hw) (hL.ob (c := 5) (by decide) rfl) rfl (by decide) (Nat.le_of_ble_eq_true rfl) dX11_feed_22 rfl rfl (fun M3 hw => ?_)
  refine X_aload_n 26 dX11_feed_25 rfl rfl ?_
  refine X_getR 29 f_X11_22 (hL.ob (c := 11) (by decide) rfl) rfl (hL.rr (by decide) rfl) dX11_feed_26 rfl ?_
  refine X_getI 32 f_X11_139 (hL.ob (c := 5) (by decide) rfl) rfl dX11_feed_29 rfl ?_
  exact X_ret rfl rfl dX11_feed_32 ⟨_, _, rfl, rfl, hw⟩
def w_X11_pact  (L : Lay) (rc rs : Nat) (M : Mem) (Q : Int32 → Lay → Mem → Prop) : Prop := ∃ n1 n2 : Nat, n1 ≤ rc ∧ n2 ≤ rs ∧ w_X5_readPact  L n1 n2 M (fun x5 L3 M4 => (((x5 = none → (Q (mi M4 71 2) L3 M4)) ∧ ∀ a7 : Nat, x5 = some a7 → (∀ M8 : Mem, M8 = sq M4 1 12 x5 → (Q (mi M8 71 2) L3 M8)))))
set_option maxRecDepth 20000 in
theorem s_X11_pact {L : Lay}  {rc rs : Nat} {M : Mem} {Q : Int32 → Lay → Mem → Prop} (hL : LY L)  (hw : w_X11_pact  L rc rs M Q) : MX yX11_pact cX11_pact (some .int) 2 11 rc rs [.ref 0] (L, M) (QIa L Q) := by
  unfold w_X11_pact at hw
  obtain ⟨L0, eL0⟩ : ∃ L0, L0 = L := ⟨L, rfl⟩
  rw [show QIa L Q = QIa L0 Q from by rw [eL0]]
  have hLE : LE L0 L := by rw [eL0]; exact LE.rf L
  refine MX_of (by decide) [.ref 0, junk] (by rfl) (by exact Nat.le_of_ble_eq_true rfl) ?_
  show X (FM (QIa L0 Q)) RX11 cX11_pact (some .int) 2 "pact" 11 rc rs (L, M) 0 [.ref 0, junk] []
  refine X_aload_n 1 dX11_pact_0 rfl rfl ?_
  refine X_getR 4 f_X11_22 (hL.ob (c := 11) (by decide) rfl) rfl (hL.rr (by decide) rfl) dX11_pact_1 rfl ?_
  obtain ⟨n1, n2, hn1, hn2, hw⟩ := hw
  refine Y_aVR 7 (as := []) m_X11_142 (s_X5_readPact hL  hw) (hL.ob (c := 5) (by decide) rfl) rfl (by decide) hn1 hn2 (Nat.le_of_ble_eq_true rfl) dX11_pact_4 rfl rfl (fun x5 L3 M4 leL3 hw => ?_)
  have hLE := hLE.tr leL3
  have hL := leL3.ly hL
  refine X_astoreQ_n 8 (ls' := [.ref 0, va_rf x5]) dX11_pact_7 rfl rfl (Nat.le_of_ble_eq_true rfl) rfl (Or.inr (Or.inr ⟨_, rfl, rfl⟩)) ?_
  refine X_aloadQ_n 9 dX11_pact_8 rfl rfl ?_
  refine X_ifnull 20 12 dX11_pact_9 rfl rfl (fun c6 => ?_) (fun a7 c6 => ?_)
  · have hw := hw.1 c6
    refine X_aload_n 21 dX11_pact_20 rfl rfl ?_
    refine X_getR 24 f_X11_22 (hL.ob (c := 11) (by decide) rfl) rfl (hL.rr (by decide) rfl) dX11_pact_21 rfl ?_
    refine X_getI 27 f_X11_150 (hL.ob (c := 5) (by decide) rfl) rfl dX11_pact_24 rfl ?_
    exact X_ret rfl rfl dX11_pact_27 ⟨_, _, _, rfl, rfl, hLE, hw⟩
  · have hw := hw.2 a7 c6
    refine X_aload_n 13 dX11_pact_12 rfl rfl ?_
    refine X_getR 16 f_X11_10 (hL.ob (c := 11) (by decide) rfl) rfl (hL.rr (by decide) rfl) dX11_pact_13 rfl ?_
    refine X_aloadQ_n 17 dX11_pact_16 rfl rfl ?_
    refine X_putQ (x := x5) 20 f_X11_146 (Or.inl ⟨_, rfl⟩) (Or.inl rfl) (hL.W (Or.inl rfl)) rfl dX11_pact_17 rfl ?_
    refine X_nmM (fun M8 eM8 => ?_)
    have hw := hw M8 eM8
    refine X_aload_n 21 dX11_pact_20 rfl rfl ?_
    refine X_getR 24 f_X11_22 (hL.ob (c := 11) (by decide) rfl) rfl (hL.rr (by decide) rfl) dX11_pact_21 rfl ?_
    refine X_getI 27 f_X11_150 (hL.ob (c := 5) (by decide) rfl) rfl dX11_pact_24 rfl ?_
    exact X_ret rfl rfl dX11_pact_27 ⟨_, _, _, rfl, rfl, hLE, hw⟩
def w_X11_law  (L : Lay) (rc rs : Nat) (M : Mem) (Q : Int32 → Lay → Mem → Prop) : Prop := ∃ n1 n2 : Nat, n1 ≤ rc ∧ n2 ≤ rs ∧ w_X5_readLaw  L n1 n2 M (fun x5 L3 M4 => (((x5 = none → (Q (mi M4 71 2) L3 M4)) ∧ ∀ a7 : Nat, x5 = some a7 → (∀ M8 : Mem, M8 = sq M4 1 10 x5 → (Q (mi M8 71 2) L3 M8)))))
set_option maxRecDepth 20000 in
theorem s_X11_law {L : Lay}  {rc rs : Nat} {M : Mem} {Q : Int32 → Lay → Mem → Prop} (hL : LY L)  (hw : w_X11_law  L rc rs M Q) : MX yX11_law cX11_law (some .int) 2 10 rc rs [.ref 0] (L, M) (QIa L Q) := by
  unfold w_X11_law at hw
  obtain ⟨L0, eL0⟩ : ∃ L0, L0 = L := ⟨L, rfl⟩
  rw [show QIa L Q = QIa L0 Q from by rw [eL0]]
  have hLE : LE L0 L := by rw [eL0]; exact LE.rf L
  refine MX_of (by decide) [.ref 0, junk] (by rfl) (by exact Nat.le_of_ble_eq_true rfl) ?_
  show X (FM (QIa L0 Q)) RX11 cX11_law (some .int) 2 "law" 10 rc rs (L, M) 0 [.ref 0, junk] []
  refine X_aload_n 1 dX11_law_0 rfl rfl ?_
  refine X_getR 4 f_X11_22 (hL.ob (c := 11) (by decide) rfl) rfl (hL.rr (by decide) rfl) dX11_law_1 rfl ?_
  obtain ⟨n1, n2, hn1, hn2, hw⟩ := hw
  refine Y_aVR 7 (as := []) m_X11_153 (s_X5_readLaw hL  hw) (hL.ob (c := 5) (by decide) rfl) rfl (by decide) hn1 hn2 (Nat.le_of_ble_eq_true rfl) dX11_law_4 rfl rfl (fun x5 L3 M4 leL3 hw => ?_)
  have hLE := hLE.tr leL3
  have hL := leL3.ly hL
  refine X_astoreQ_n 8 (ls' := [.ref 0, va_rf x5]) dX11_law_7 rfl rfl (Nat.le_of_ble_eq_true rfl) rfl (Or.inr (Or.inr ⟨_, rfl, rfl⟩)) ?_
  refine X_aloadQ_n 9 dX11_law_8 rfl rfl ?_
  refine X_ifnull 20 12 dX11_law_9 rfl rfl (fun c6 => ?_) (fun a7 c6 => ?_)
  · have hw := hw.1 c6
    refine X_aload_n 21 dX11_law_20 rfl rfl ?_
    refine X_getR 24 f_X11_22 (hL.ob (c := 11) (by decide) rfl) rfl (hL.rr (by decide) rfl) dX11_law_21 rfl ?_
    refine X_getI 27 f_X11_150 (hL.ob (c := 5) (by decide) rfl) rfl dX11_law_24 rfl ?_
    exact X_ret rfl rfl dX11_law_27 ⟨_, _, _, rfl, rfl, hLE, hw⟩
  · have hw := hw.2 a7 c6
    refine X_aload_n 13 dX11_law_12 rfl rfl ?_
    refine X_getR 16 f_X11_10 (hL.ob (c := 11) (by decide) rfl) rfl (hL.rr (by decide) rfl) dX11_law_13 rfl ?_
    refine X_aloadQ_n 17 dX11_law_16 rfl rfl ?_
    refine X_putQ (x := x5) 20 f_X11_157 (Or.inl ⟨_, rfl⟩) (Or.inl rfl) (hL.W (Or.inl rfl)) rfl dX11_law_17 rfl ?_
    refine X_nmM (fun M8 eM8 => ?_)
    have hw := hw M8 eM8
    refine X_aload_n 21 dX11_law_20 rfl rfl ?_
    refine X_getR 24 f_X11_22 (hL.ob (c := 11) (by decide) rfl) rfl (hL.rr (by decide) rfl) dX11_law_21 rfl ?_
    refine X_getI 27 f_X11_150 (hL.ob (c := 5) (by decide) rfl) rfl dX11_law_24 rfl ?_
    exact X_ret rfl rfl dX11_law_27 ⟨_, _, _, rfl, rfl, hLE, hw⟩
def w_X11_windOf (L : Lay) (p0 : Int32) (M : Mem) (Q : Int32 → Mem → Prop) : Prop := ((p0 < (1 : Int32) → (Q (0 : Int32) M)) ∧ (¬ p0 < (1 : Int32) → ((((mi M 0 7) < p0 → (Q (0 : Int32) M)) ∧ (¬ (mi M 0 7) < p0 → (vp_in (p0 - (1 : Int32)) 720 ∧ (Q (mi M 90 (tn (p0 - (1 : Int32)))) M)))))))
set_option maxRecDepth 20000 in
theorem s_X11_windOf {L : Lay} (hL : LY L) {p0 : Int32}  {M : Mem} {Q : Int32 → Mem → Prop} (hw : w_X11_windOf L p0 M Q) : MX yX11_windOf cX11_windOf (some .int) 2 1 0 0 [.ref 0, .int p0] (L, M) (QI L Q) := by
  unfold w_X11_windOf at hw
  refine MX_of (by decide) [.ref 0, .int p0] (by rfl) (by exact Nat.le_of_ble_eq_true rfl) ?_
  show X (FM (QI L Q)) RX11 cX11_windOf (some .int) 2 "windOf" 1 0 0 (L, M) 0 [.ref 0, .int p0] []
  refine X_iload_n 1 dX11_windOf_0 rfl rfl ?_
  refine X_iconst 2 (v := 1) dX11_windOf_1 rfl rfl ?_
  refine X_icmp_lt 24 5 dX11_windOf_2 rfl rfl (fun c1 => ?_) (fun c1 => ?_)
  · have hw := hw.1 c1
    refine X_iconst 25 (v := 0) dX11_windOf_24 rfl rfl ?_
    exact X_ret rfl rfl dX11_windOf_25 ⟨_, _, rfl, rfl, hw⟩
  · have hw := hw.2 c1
    refine X_iload_n 6 dX11_windOf_5 rfl rfl ?_
    refine X_aload_n 7 dX11_windOf_6 rfl rfl ?_
    refine X_getI 10 f_X11_116 (hL.ob (c := 11) (by decide) rfl) rfl dX11_windOf_7 rfl ?_
    refine X_icmp_gt 24 13 dX11_windOf_10 rfl rfl (fun c2 => ?_) (fun c2 => ?_)
    · have hw := hw.1 c2
      refine X_iconst 25 (v := 0) dX11_windOf_24 rfl rfl ?_
      exact X_ret rfl rfl dX11_windOf_25 ⟨_, _, rfl, rfl, hw⟩
    · have hw := hw.2 c2
      refine X_aload_n 14 dX11_windOf_13 rfl rfl ?_
      refine X_getR 17 f_X11_47 (hL.ob (c := 11) (by decide) rfl) rfl (hL.rr (by decide) rfl) dX11_windOf_14 rfl ?_
      refine X_iload_n 18 dX11_windOf_17 rfl rfl ?_
      refine X_iconst 19 (v := 1) dX11_windOf_18 rfl rfl ?_
      refine X_isub 20 dX11_windOf_19 rfl ?_
      obtain ⟨c3, hw⟩ := hw
      refine Y_bald 21 (k := (tn (p0 - (1 : Int32)))) (hL.ar (t := 2) (n := 720) (by decide) rfl) c3 rfl dX11_windOf_20 rfl ?_
      refine X_goto 25 dX11_windOf_21 rfl ?_
      exact X_ret rfl rfl dX11_windOf_25 ⟨_, _, rfl, rfl, hw⟩
def w_X11_days_29 (L : Lay) (p0 : Int32) (K29 : Int32 → Mem → Prop) (v2 : Int32) (M : Mem) (Q : Int32 → Mem → Prop) : Prop := ((v2 < p0 → (w_X11_windOf L ((mi M 1 0) + (1 : Int32)) M (fun x7 M6 => (w_X10_passDay L 1 x7 M6 (fun M8 => ((((jrem (mi M8 1 0) (30 : Int32)) = 0 → (w_X2_keep L 1 M8 (fun M11 => (∀ x12 : Int32, x12 = v2 + (1 : Int32) → (K29 x12 M11))))) ∧ (¬ (jrem (mi M8 1 0) (30 : Int32)) = 0 → (∀ x10 : Int32, x10 = v2 + (1 : Int32) → (K29 x10 M8)))))))))) ∧ (¬ v2 < p0 → (Q (mi M 1 0) M)))
set_option maxRecDepth 20000 in
theorem t_X11_days_29 {L : Lay} (hL : LY L) {p0 : Int32}  {K29 : Int32 → Mem → Prop} {v2 : Int32}  {M : Mem} {Q : Int32 → Mem → Prop} (hw : w_X11_days_29 L p0 K29 v2 M Q) (hK29 : ∀ (v2 : Int32) (M : Mem), K29 v2 M → X (FM (QI L Q)) RX11 cX11_days (some .int) 3 "days" 6 0 0 (L, M) 29 [.ref 0, .int p0, .int v2] []) : X (FM (QI L Q)) RX11 cX11_days (some .int) 3 "days" 6 0 0 (L, M) 29 [.ref 0, .int p0, .int v2] [] := by
  unfold w_X11_days_29 at hw
  refine X_iload_n 30 dX11_days_29 rfl rfl ?_
  refine X_iload_n 31 dX11_days_30 rfl rfl ?_
  refine X_icmp_ge 84 34 dX11_days_31 rfl rfl (fun c5 => ?_) (fun c5 => ?_)
  · have hw := hw.2 c5
    refine X_aload_n 85 dX11_days_84 rfl rfl ?_
    refine X_getR 88 f_X11_10 (hL.ob (c := 11) (by decide) rfl) rfl (hL.rr (by decide) rfl) dX11_days_85 rfl ?_
    refine X_getI 91 f_X11_107 (hL.W (Or.inl rfl)) rfl dX11_days_88 rfl ?_
    exact X_ret rfl rfl dX11_days_91 ⟨_, _, rfl, rfl, hw⟩
  · have hw := hw.1 c5
    refine X_aload_n 35 dX11_days_34 rfl rfl ?_
    refine X_getR 38 f_X11_10 (hL.ob (c := 11) (by decide) rfl) rfl (hL.rr (by decide) rfl) dX11_days_35 rfl ?_
    refine X_aload_n 39 dX11_days_38 rfl rfl ?_
    refine X_aload_n 40 dX11_days_39 rfl rfl ?_
    refine X_getR 43 f_X11_10 (hL.ob (c := 11) (by decide) rfl) rfl (hL.rr (by decide) rfl) dX11_days_40 rfl ?_
    refine X_getI 46 f_X11_107 (hL.W (Or.inl rfl)) rfl dX11_days_43 rfl ?_
    refine X_iconst 47 (v := 1) dX11_days_46 rfl rfl ?_
    refine X_iadd 48 dX11_days_47 rfl ?_
    refine Y_cVI 51 (as := [.int (((mi M 1 0) + (1 : Int32)))]) m_X11_161 (s_X11_windOf hL  hw) (hL.ob (c := 11) (by decide) rfl) rfl (by decide) (Nat.le_of_ble_eq_true rfl) dX11_days_48 rfl rfl (fun x7 M6 hw => ?_)
    refine Y_cVV 54 (as := [.int x7]) m_X11_165 (s_X10_passDay hL (Or.inl rfl) hw) (hL.W (Or.inl rfl)) rfl (by decide) (Nat.le_of_ble_eq_true rfl) dX11_days_51 rfl rfl (fun M8 hw => ?_)
    refine X_aload_n 55 dX11_days_54 rfl rfl ?_
    refine X_getR 58 f_X11_10 (hL.ob (c := 11) (by decide) rfl) rfl (hL.rr (by decide) rfl) dX11_days_55 rfl ?_
    refine X_getI 61 f_X11_107 (hL.W (Or.inl rfl)) rfl dX11_days_58 rfl ?_
    refine X_bipush 63 (v := 30) dX11_days_61 rfl rfl ?_
    refine Y_irem 64 dX11_days_63 rfl (by decide) ?_
    refine X_if_ne 78 67 (y := 0) dX11_days_64 rfl rfl (fun c9 => ?_) (fun c9 => ?_)
    · have hw := hw.2 c9
      obtain ⟨x10, ex10⟩ : ∃ x10 : Int32, x10 = v2 + (1 : Int32) := ⟨_, rfl⟩
      have hw := hw x10 ex10
      refine X_iinc 81 (v := x10) (ls' := [.ref 0, .int p0, .int x10]) dX11_days_78 rfl rfl (by rw [ex10]; rfl) rfl (Or.inr (Or.inr ⟨_, rfl, rfl⟩)) ?_
      refine X_goto 29 dX11_days_81 rfl ?_
      exact hK29 x10 M8 hw
    · have hw := hw.1 c9
      refine X_aload_n 68 dX11_days_67 rfl rfl ?_
      refine X_getR 71 f_X11_29 (hL.ob (c := 11) (by decide) rfl) rfl (hL.rr (by decide) rfl) dX11_days_68 rfl ?_
      refine X_aload_n 72 dX11_days_71 rfl rfl ?_
      refine X_getR 75 f_X11_10 (hL.ob (c := 11) (by decide) rfl) rfl (hL.rr (by decide) rfl) dX11_days_72 rfl ?_
      refine Y_cVV 78 (as := [.ref 1]) m_X11_169 (s_X2_keep hL (Or.inl rfl) hw) (hL.ob (c := 2) (by decide) rfl) rfl (by decide) (Nat.le_of_ble_eq_true rfl) dX11_days_75 rfl rfl (fun M11 hw => ?_)
      obtain ⟨x12, ex12⟩ : ∃ x12 : Int32, x12 = v2 + (1 : Int32) := ⟨_, rfl⟩
      have hw := hw x12 ex12
      refine X_iinc 81 (v := x12) (ls' := [.ref 0, .int p0, .int x12]) dX11_days_78 rfl rfl (by rw [ex12]; rfl) rfl (Or.inr (Or.inr ⟨_, rfl, rfl⟩)) ?_
      refine X_goto 29 dX11_days_81 rfl ?_
      exact hK29 x12 M11 hw
def w_X11_days (L : Lay) (p0 : Int32) (M : Mem) (Q : Int32 → Mem → Prop) : Prop := w_X11_isWithin L p0 (0 : Int32) (60 : Int32) M (fun x2 M1 => (((x2 = 0 → (Q (-1 : Int32) M1)) ∧ (¬ x2 = 0 → ((((720 : Int32) < ((mi M1 1 0) + p0) → (Q (-1 : Int32) M1)) ∧ (¬ (720 : Int32) < ((mi M1 1 0) + p0) → (LP2 (fun K29 v2 M => w_X11_days_29 L p0  K29 v2 M Q) (0 : Int32) M1))))))))
set_option maxRecDepth 20000 in
theorem s_X11_days {L : Lay} (hL : LY L) {p0 : Int32}  {M : Mem} {Q : Int32 → Mem → Prop} (hw : w_X11_days L p0 M Q) : MX yX11_days cX11_days (some .int) 3 6 0 0 [.ref 0, .int p0] (L, M) (QI L Q) := by
  unfold w_X11_days at hw
  refine MX_of (by decide) [.ref 0, .int p0, junk] (by rfl) (by exact Nat.le_of_ble_eq_true rfl) ?_
  show X (FM (QI L Q)) RX11 cX11_days (some .int) 3 "days" 6 0 0 (L, M) 0 [.ref 0, .int p0, junk] []
  refine X_iload_n 1 dX11_days_0 rfl rfl ?_
  refine X_iconst 2 (v := 0) dX11_days_1 rfl rfl ?_
  refine X_bipush 4 (v := 60) dX11_days_2 rfl rfl ?_
  refine Y_cSZ 7 (as := [.int p0, .int (0 : Int32), .int (60 : Int32)]) m_X11_55 (s_X11_isWithin hL  hw) rfl (by decide) (Nat.le_of_ble_eq_true rfl) dX11_days_4 rfl rfl (fun x2 M1 bx2 hw => ?_)
  refine X_if_eq 25 10 (y := 0) dX11_days_7 rfl rfl (fun c3 => ?_) (fun c3 => ?_)
  · have hw := hw.1 c3
    refine X_iconst 26 (v := -1) dX11_days_25 rfl rfl ?_
    exact X_ret rfl rfl dX11_days_26 ⟨_, _, rfl, rfl, hw⟩
  · have hw := hw.2 c3
    refine X_aload_n 11 dX11_days_10 rfl rfl ?_
    refine X_getR 14 f_X11_10 (hL.ob (c := 11) (by decide) rfl) rfl (hL.rr (by decide) rfl) dX11_days_11 rfl ?_
    refine X_getI 17 f_X11_107 (hL.W (Or.inl rfl)) rfl dX11_days_14 rfl ?_
    refine X_iload_n 18 dX11_days_17 rfl rfl ?_
    refine X_iadd 19 dX11_days_18 rfl ?_
    refine X_sipush 22 (v := 720) dX11_days_19 rfl rfl ?_
    refine X_icmp_le 27 25 dX11_days_22 rfl rfl (fun c4 => ?_) (fun c4 => ?_)
    · have hw := hw.2 c4
      refine X_iconst 28 (v := 0) dX11_days_27 rfl rfl ?_
      refine X_istore_n 29 (ls' := [.ref 0, .int p0, .int (0 : Int32)]) dX11_days_28 rfl rfl (Nat.le_of_ble_eq_true rfl) rfl (Or.inr (Or.inr ⟨_, rfl, rfl⟩)) ?_
      exact LP2_s hw (G := fun v2 M => X (FM (QI L Q)) RX11 cX11_days (some .int) 3 "days" 6 0 0 (L, M) 29 [.ref 0, .int p0, .int v2] []) (fun K29 v2 M hb hK => t_X11_days_29 hL  hb  hK)
    · have hw := hw.1 c4
      refine X_iconst 26 (v := -1) dX11_days_25 rfl rfl ?_
      exact X_ret rfl rfl dX11_days_26 ⟨_, _, rfl, rfl, hw⟩
def w_X11_price (L : Lay) (p0 : Int32) (M : Mem) (Q : Int32 → Mem → Prop) : Prop := w_X11_isWithin L p0 (0 : Int32) (4 : Int32) M (fun x2 M1 => (((x2 = 0 → (Q (-1 : Int32) M1)) ∧ (¬ x2 = 0 → (w_X0_priceOf L 4 p0 M1 (fun x5 M4 => (Q x5 M4)))))))
set_option maxRecDepth 20000 in
theorem s_X11_price {L : Lay} (hL : LY L) {p0 : Int32}  {M : Mem} {Q : Int32 → Mem → Prop} (hw : w_X11_price L p0 M Q) : MX yX11_price cX11_price (some .int) 2 3 0 0 [.ref 0, .int p0] (L, M) (QI L Q) := by
  unfold w_X11_price at hw
  refine MX_of (by decide) [.ref 0, .int p0] (by rfl) (by exact Nat.le_of_ble_eq_true rfl) ?_
  show X (FM (QI L Q)) RX11 cX11_price (some .int) 2 "price" 3 0 0 (L, M) 0 [.ref 0, .int p0] []
  refine X_iload_n 1 dX11_price_0 rfl rfl ?_
  refine X_iconst 2 (v := 0) dX11_price_1 rfl rfl ?_
  refine X_iconst 3 (v := 4) dX11_price_2 rfl rfl ?_
  refine Y_cSZ 6 (as := [.int p0, .int (0 : Int32), .int (4 : Int32)]) m_X11_55 (s_X11_isWithin hL  hw) rfl (by decide) (Nat.le_of_ble_eq_true rfl) dX11_price_3 rfl rfl (fun x2 M1 bx2 hw => ?_)
  refine X_if_eq 23 9 (y := 0) dX11_price_6 rfl rfl (fun c3 => ?_) (fun c3 => ?_)
  · have hw := hw.1 c3
    refine X_iconst 24 (v := -1) dX11_price_23 rfl rfl ?_
    exact X_ret rfl rfl dX11_price_24 ⟨_, _, rfl, rfl, hw⟩
  · have hw := hw.2 c3
    refine X_aload_n 10 dX11_price_9 rfl rfl ?_
    refine X_getR 13 f_X11_10 (hL.ob (c := 11) (by decide) rfl) rfl (hL.rr (by decide) rfl) dX11_price_10 rfl ?_
    refine X_getR 16 f_X11_120 (hL.W (Or.inl rfl)) rfl (hL.wrr (Or.inl rfl) (k := 0) (x := 3) rfl rfl (by decide)) dX11_price_13 rfl ?_
    refine X_iload_n 17 dX11_price_16 rfl rfl ?_
    refine Y_cVI 20 (as := [.int p0]) m_X11_173 (s_X0_priceOf hL (hL.wob (Or.inl rfl) (k := 3) (c := 0) rfl rfl (by decide)) hw) (hL.wob (Or.inl rfl) (k := 3) (c := 0) rfl rfl (by decide)) rfl (by decide) (Nat.le_of_ble_eq_true rfl) dX11_price_17 rfl rfl (fun x5 M4 hw => ?_)
    refine X_goto 24 dX11_price_20 rfl ?_
    exact X_ret rfl rfl dX11_price_24 ⟨_, _, rfl, rfl, hw⟩
def w_X11_isOver (L : Lay) (p0 : Int32) (M : Mem) (Q : Int32 → Mem → Prop) : Prop := ((p0 < 0 → (Q (0 : Int32) M)) ∧ (¬ p0 < 0 → (∀ x2 : Int32, x2 = (if p0 < ((mi M 1 0) / (30 : Int32)) then (1 : Int32) else (0 : Int32)) → (Q x2 M))))
set_option maxRecDepth 20000 in
theorem s_X11_isOver {L : Lay} (hL : LY L) {p0 : Int32}  {M : Mem} {Q : Int32 → Mem → Prop} (hw : w_X11_isOver L p0 M Q) : MX yX11_isOver cX11_isOver (some .boolean) 2 1 0 0 [.ref 0, .int p0] (L, M) (QZ L Q) := by
  unfold w_X11_isOver at hw
  refine MX_of (by decide) [.ref 0, .int p0] (by rfl) (by exact Nat.le_of_ble_eq_true rfl) ?_
  show X (FM (QZ L Q)) RX11 cX11_isOver (some .boolean) 2 "isOver" 1 0 0 (L, M) 0 [.ref 0, .int p0] []
  refine X_iload_n 1 dX11_isOver_0 rfl rfl ?_
  refine X_if_lt 22 4 (y := 0) dX11_isOver_1 rfl rfl (fun c1 => ?_) (fun c1 => ?_)
  · have hw := hw.1 c1
    refine X_iconst 23 (v := 0) dX11_isOver_22 rfl rfl ?_
    exact X_ret rfl (nar_bool (Or.inl rfl)) dX11_isOver_23 ⟨_, _, rfl, Or.inl rfl, rfl, hw⟩
  · have hw := hw.2 c1
    refine X_iload_n 5 dX11_isOver_4 rfl rfl ?_
    refine X_aload_n 6 dX11_isOver_5 rfl rfl ?_
    refine X_getR 9 f_X11_10 (hL.ob (c := 11) (by decide) rfl) rfl (hL.rr (by decide) rfl) dX11_isOver_6 rfl ?_
    refine X_getI 12 f_X11_107 (hL.W (Or.inl rfl)) rfl dX11_isOver_9 rfl ?_
    refine X_bipush 14 (v := 30) dX11_isOver_12 rfl rfl ?_
    refine X_idiv 15 dX11_isOver_14 rfl (by decide) ?_
    obtain ⟨x2, ex2⟩ : ∃ x2 : Int32, x2 = (if p0 < ((mi M 1 0) / (30 : Int32)) then (1 : Int32) else (0 : Int32)) := ⟨_, rfl⟩
    have hw := hw x2 ex2
    have bx2 : BZ x2 := by rw [ex2]; (repeat' split) <;> first | exact Or.inl rfl | exact Or.inr rfl
    have hJ : X (FM (QZ L Q)) RX11 cX11_isOver (some .boolean) 2 "isOver" 1 0 0 (L, M) 23 [.ref 0, .int p0] [.int x2] := by
      exact X_ret rfl (nar_bool (bx2)) dX11_isOver_23 ⟨_, _, rfl, bx2, rfl, hw⟩
    refine X_icmp_ge 22 18 dX11_isOver_15 rfl rfl (fun c3 => ?_) (fun c3 => ?_)
    · refine X_iconst 23 (v := 0) dX11_isOver_22 rfl rfl ?_
      rw [if_neg c3] at ex2
      rw [ex2] at hJ
      exact hJ
    · refine X_iconst 19 (v := 1) dX11_isOver_18 rfl rfl ?_
      refine X_goto 23 dX11_isOver_19 rfl ?_
      rw [if_pos c3] at ex2
      rw [ex2] at hJ
      exact hJ
def w_X11_lowOf (L : Lay) (p0 : Int32) (p1 : Int32) (M : Mem) (Q : Int32 → Mem → Prop) : Prop := ((p0 = (0 : Int32) → (Q ((7 : Int32) * p1) M)) ∧ (¬ p0 = (0 : Int32) → (((p0 = (1 : Int32) → (Q (p1 - (p1 / (50 : Int32))) M)) ∧ (¬ p0 = (1 : Int32) → (Q (p1 / (4 : Int32)) M))))))
set_option maxRecDepth 20000 in
theorem s_X11_lowOf {L : Lay} (hL : LY L) {p0 : Int32} {p1 : Int32}  {M : Mem} {Q : Int32 → Mem → Prop} (hw : w_X11_lowOf L p0 p1 M Q) : MX yX11_lowOf cX11_lowOf (some .int) 2 1 0 0 [.int p0, .int p1] (L, M) (QI L Q) := by
  unfold w_X11_lowOf at hw
  refine MX_of (by decide) [.int p0, .int p1] (by rfl) (by exact Nat.le_of_ble_eq_true rfl) ?_
  show X (FM (QI L Q)) RX11 cX11_lowOf (some .int) 2 "lowOf" 1 0 0 (L, M) 0 [.int p0, .int p1] []
  refine X_iload_n 1 dX11_lowOf_0 rfl rfl ?_
  by_cases c1 : p0 = (0 : Int32)
  · have hw := hw.1 c1
    refine Y_lookIn 28 (k := 0) (off := 27) c1 dX11_lowOf_1 (by decide) (by decide) rfl ?_
    refine X_bipush 30 (v := 7) dX11_lowOf_28 rfl rfl ?_
    refine X_iload_n 31 dX11_lowOf_30 rfl rfl ?_
    refine X_imul 32 dX11_lowOf_31 rfl ?_
    exact X_ret rfl rfl dX11_lowOf_32 ⟨_, _, rfl, rfl, hw⟩
  · have hw := hw.2 c1
    by_cases c2 : p0 = (1 : Int32)
    · have hw := hw.1 c2
      refine Y_lookIn 33 (k := 1) (off := 32) c2 dX11_lowOf_1 (by decide) (by decide) rfl ?_
      refine X_iload_n 34 dX11_lowOf_33 rfl rfl ?_
      refine X_iload_n 35 dX11_lowOf_34 rfl rfl ?_
      refine X_bipush 37 (v := 50) dX11_lowOf_35 rfl rfl ?_
      refine X_idiv 38 dX11_lowOf_37 rfl (by decide) ?_
      refine X_isub 39 dX11_lowOf_38 rfl ?_
      exact X_ret rfl rfl dX11_lowOf_39 ⟨_, _, rfl, rfl, hw⟩
    · have hw := hw.2 c2
      refine X_lookup 40 dX11_lowOf_1 (by decide) ((lv_osw c1 (by decide)).trans ((lv_osw c2 (by decide)).trans rfl)) rfl ?_
      refine X_iload_n 41 dX11_lowOf_40 rfl rfl ?_
      refine X_iconst 42 (v := 4) dX11_lowOf_41 rfl rfl ?_
      refine X_idiv 43 dX11_lowOf_42 rfl (by decide) ?_
      exact X_ret rfl rfl dX11_lowOf_43 ⟨_, _, rfl, rfl, hw⟩
def w_X11_highOf (L : Lay) (p0 : Int32) (p1 : Int32) (M : Mem) (Q : Int32 → Mem → Prop) : Prop := ((p0 = (0 : Int32) → (Q ((9 : Int32) * p1) M)) ∧ (¬ p0 = (0 : Int32) → (((p0 = (1 : Int32) → (Q (p1 + (p1 / (50 : Int32))) M)) ∧ (¬ p0 = (1 : Int32) → (Q ((p1 + (2 : Int32)) / (3 : Int32)) M))))))
set_option maxRecDepth 20000 in
theorem s_X11_highOf {L : Lay} (hL : LY L) {p0 : Int32} {p1 : Int32}  {M : Mem} {Q : Int32 → Mem → Prop} (hw : w_X11_highOf L p0 p1 M Q) : MX yX11_highOf cX11_highOf (some .int) 2 1 0 0 [.int p0, .int p1] (L, M) (QI L Q) := by
  unfold w_X11_highOf at hw
  refine MX_of (by decide) [.int p0, .int p1] (by rfl) (by exact Nat.le_of_ble_eq_true rfl) ?_
  show X (FM (QI L Q)) RX11 cX11_highOf (some .int) 2 "highOf" 1 0 0 (L, M) 0 [.int p0, .int p1] []
  refine X_iload_n 1 dX11_highOf_0 rfl rfl ?_
  by_cases c1 : p0 = (0 : Int32)
  · have hw := hw.1 c1
    refine Y_lookIn 28 (k := 0) (off := 27) c1 dX11_highOf_1 (by decide) (by decide) rfl ?_
    refine X_bipush 30 (v := 9) dX11_highOf_28 rfl rfl ?_
    refine X_iload_n 31 dX11_highOf_30 rfl rfl ?_
    refine X_imul 32 dX11_highOf_31 rfl ?_
    exact X_ret rfl rfl dX11_highOf_32 ⟨_, _, rfl, rfl, hw⟩
  · have hw := hw.2 c1
    by_cases c2 : p0 = (1 : Int32)
    · have hw := hw.1 c2
      refine Y_lookIn 33 (k := 1) (off := 32) c2 dX11_highOf_1 (by decide) (by decide) rfl ?_
      refine X_iload_n 34 dX11_highOf_33 rfl rfl ?_
      refine X_iload_n 35 dX11_highOf_34 rfl rfl ?_
      refine X_bipush 37 (v := 50) dX11_highOf_35 rfl rfl ?_
      refine X_idiv 38 dX11_highOf_37 rfl (by decide) ?_
      refine X_iadd 39 dX11_highOf_38 rfl ?_
      exact X_ret rfl rfl dX11_highOf_39 ⟨_, _, rfl, rfl, hw⟩
    · have hw := hw.2 c2
      refine X_lookup 40 dX11_highOf_1 (by decide) ((lv_osw c1 (by decide)).trans ((lv_osw c2 (by decide)).trans rfl)) rfl ?_
      refine X_iload_n 41 dX11_highOf_40 rfl rfl ?_
      refine X_iconst 42 (v := 2) dX11_highOf_41 rfl rfl ?_
      refine X_iadd 43 dX11_highOf_42 rfl ?_
      refine X_iconst 44 (v := 3) dX11_highOf_43 rfl rfl ?_
      refine X_idiv 45 dX11_highOf_44 rfl (by decide) ?_
      exact X_ret rfl rfl dX11_highOf_45 ⟨_, _, rfl, rfl, hw⟩
def w_X11_report (L : Lay) (p0 : Int32) (p1 : Int32) (p2 : Int32) (p3 : Int32) (M : Mem) (Q : Int32 → Mem → Prop) : Prop := w_X11_isOwner L p0 M (fun x2 M1 => (((x2 = 0 → (Q (-1 : Int32) M1)) ∧ (¬ x2 = 0 → (w_X11_isOver L p1 M1 (fun x5 M4 => (((x5 = 0 → (Q (-1 : Int32) M4)) ∧ (¬ x5 = 0 → (w_X11_isWithin L p2 (0 : Int32) (2 : Int32) M4 (fun x8 M7 => (((x8 = 0 → (Q (-1 : Int32) M7)) ∧ (¬ x8 = 0 → (w_X11_isWithin L p3 (0 : Int32) (9999 : Int32) M7 (fun x11 M10 => (((x11 = 0 → (Q (-1 : Int32) M10)) ∧ (¬ x11 = 0 → (w_X2_place L p0 p1 M10 (fun x14 M13 => (w_X11_lowOf L p2 p3 M13 (fun x16 M15 => (w_X11_highOf L p2 p3 M15 (fun x18 M17 => (w_X7_add L x14 (mi M13 1 0) x16 x18 M17 (fun x20 M19 => (Q x20 M19))))))))))))))))))))))))))))
set_option maxRecDepth 20000 in
theorem s_X11_report {L : Lay} (hL : LY L) {p0 : Int32} {p1 : Int32} {p2 : Int32} {p3 : Int32}  {M : Mem} {Q : Int32 → Mem → Prop} (hw : w_X11_report L p0 p1 p2 p3 M Q) : MX yX11_report cX11_report (some .int) 5 2 0 0 [.ref 0, .int p0, .int p1, .int p2, .int p3] (L, M) (QI L Q) := by
  unfold w_X11_report at hw
  refine MX_of (by decide) [.ref 0, .int p0, .int p1, .int p2, .int p3] (by rfl) (by exact Nat.le_of_ble_eq_true rfl) ?_
  show X (FM (QI L Q)) RX11 cX11_report (some .int) 5 "report" 2 0 0 (L, M) 0 [.ref 0, .int p0, .int p1, .int p2, .int p3] []
  refine X_aload_n 1 dX11_report_0 rfl rfl ?_
  refine X_iload_n 2 dX11_report_1 rfl rfl ?_
  refine Y_cVZ 5 (as := [.int p0]) m_X11_81 (s_X11_isOwner hL  hw) (hL.ob (c := 11) (by decide) rfl) rfl (by decide) (Nat.le_of_ble_eq_true rfl) dX11_report_2 rfl rfl (fun x2 M1 bx2 hw => ?_)
  refine X_if_eq 37 8 (y := 0) dX11_report_5 rfl rfl (fun c3 => ?_) (fun c3 => ?_)
  · have hw := hw.1 c3
    refine X_iconst 38 (v := -1) dX11_report_37 rfl rfl ?_
    exact X_ret rfl rfl dX11_report_38 ⟨_, _, rfl, rfl, hw⟩
  · have hw := hw.2 c3
    refine X_aload_n 9 dX11_report_8 rfl rfl ?_
    refine X_iload_n 10 dX11_report_9 rfl rfl ?_
    refine Y_cVZ 13 (as := [.int p1]) m_X11_176 (s_X11_isOver hL  hw) (hL.ob (c := 11) (by decide) rfl) rfl (by decide) (Nat.le_of_ble_eq_true rfl) dX11_report_10 rfl rfl (fun x5 M4 bx5 hw => ?_)
    refine X_if_eq 37 16 (y := 0) dX11_report_13 rfl rfl (fun c6 => ?_) (fun c6 => ?_)
    · have hw := hw.1 c6
      refine X_iconst 38 (v := -1) dX11_report_37 rfl rfl ?_
      exact X_ret rfl rfl dX11_report_38 ⟨_, _, rfl, rfl, hw⟩
    · have hw := hw.2 c6
      refine X_iload_n 17 dX11_report_16 rfl rfl ?_
      refine X_iconst 18 (v := 0) dX11_report_17 rfl rfl ?_
      refine X_iconst 19 (v := 2) dX11_report_18 rfl rfl ?_
      refine Y_cSZ 22 (as := [.int p2, .int (0 : Int32), .int (2 : Int32)]) m_X11_55 (s_X11_isWithin hL  hw) rfl (by decide) (Nat.le_of_ble_eq_true rfl) dX11_report_19 rfl rfl (fun x8 M7 bx8 hw => ?_)
      refine X_if_eq 37 25 (y := 0) dX11_report_22 rfl rfl (fun c9 => ?_) (fun c9 => ?_)
      · have hw := hw.1 c9
        refine X_iconst 38 (v := -1) dX11_report_37 rfl rfl ?_
        exact X_ret rfl rfl dX11_report_38 ⟨_, _, rfl, rfl, hw⟩
      · have hw := hw.2 c9
        refine X_iload 27 dX11_report_25 rfl rfl ?_
        refine X_iconst 28 (v := 0) dX11_report_27 rfl rfl ?_
        refine X_sipush 31 (v := 9999) dX11_report_28 rfl rfl ?_
        refine Y_cSZ 34 (as := [.int p3, .int (0 : Int32), .int (9999 : Int32)]) m_X11_55 (s_X11_isWithin hL  hw) rfl (by decide) (Nat.le_of_ble_eq_true rfl) dX11_report_31 rfl rfl (fun x11 M10 bx11 hw => ?_)
        refine X_if_ne 39 37 (y := 0) dX11_report_34 rfl rfl (fun c12 => ?_) (fun c12 => ?_)
        · have hw := hw.2 c12
          refine X_aload_n 40 dX11_report_39 rfl rfl ?_
          refine X_getR 43 f_X11_36 (hL.ob (c := 11) (by decide) rfl) rfl (hL.rr (by decide) rfl) dX11_report_40 rfl ?_
          refine X_aload_n 44 dX11_report_43 rfl rfl ?_
          refine X_getR 47 f_X11_29 (hL.ob (c := 11) (by decide) rfl) rfl (hL.rr (by decide) rfl) dX11_report_44 rfl ?_
          refine X_iload_n 48 dX11_report_47 rfl rfl ?_
          refine X_iload_n 49 dX11_report_48 rfl rfl ?_
          refine Y_cVI 52 (as := [.int p0, .int p1]) m_X11_179 (s_X2_place hL  hw) (hL.ob (c := 2) (by decide) rfl) rfl (by decide) (Nat.le_of_ble_eq_true rfl) dX11_report_49 rfl rfl (fun x14 M13 hw => ?_)
          refine X_aload_n 53 dX11_report_52 rfl rfl ?_
          refine X_getR 56 f_X11_10 (hL.ob (c := 11) (by decide) rfl) rfl (hL.rr (by decide) rfl) dX11_report_53 rfl ?_
          refine X_getI 59 f_X11_107 (hL.W (Or.inl rfl)) rfl dX11_report_56 rfl ?_
          refine X_iload_n 60 dX11_report_59 rfl rfl ?_
          refine X_iload 62 dX11_report_60 rfl rfl ?_
          refine Y_cSI 65 (as := [.int p2, .int p3]) m_X11_183 (s_X11_lowOf hL  hw) rfl (by decide) (Nat.le_of_ble_eq_true rfl) dX11_report_62 rfl rfl (fun x16 M15 hw => ?_)
          refine X_iload_n 66 dX11_report_65 rfl rfl ?_
          refine X_iload 68 dX11_report_66 rfl rfl ?_
          refine Y_cSI 71 (as := [.int p2, .int p3]) m_X11_186 (s_X11_highOf hL  hw) rfl (by decide) (Nat.le_of_ble_eq_true rfl) dX11_report_68 rfl rfl (fun x18 M17 hw => ?_)
          refine Y_cVI 74 (as := [.int x14, .int ((mi M13 1 0)), .int x16, .int x18]) m_X11_189 (s_X7_add hL  hw) (hL.ob (c := 7) (by decide) rfl) rfl (by decide) (Nat.le_of_ble_eq_true rfl) dX11_report_71 rfl rfl (fun x20 M19 hw => ?_)
          exact X_ret rfl rfl dX11_report_74 ⟨_, _, rfl, rfl, hw⟩
        · have hw := hw.1 c12
          refine X_iconst 38 (v := -1) dX11_report_37 rfl rfl ?_
          exact X_ret rfl rfl dX11_report_38 ⟨_, _, rfl, rfl, hw⟩
def w_X11_known (L : Lay) (p0 : Int32) (p1 : Int32) (p2 : Int32) (p3 : Int32) (M : Mem) (Q : Int32 → Mem → Prop) : Prop := w_X11_isOwner L p0 M (fun x2 M1 => (((x2 = 0 → (Q (-1 : Int32) M1)) ∧ (¬ x2 = 0 → (w_X11_isOver L p1 M1 (fun x5 M4 => (((x5 = 0 → (Q (-1 : Int32) M4)) ∧ (¬ x5 = 0 → (w_X11_isWithin L p2 (0 : Int32) (mi M4 1 0) M4 (fun x8 M7 => (((x8 = 0 → (Q (-1 : Int32) M7)) ∧ (¬ x8 = 0 → (w_X11_isWithin L p3 (0 : Int32) (2 : Int32) M7 (fun x11 M10 => (((x11 = 0 → (Q (-1 : Int32) M10)) ∧ (¬ x11 = 0 → (w_X2_place L p0 p1 M10 (fun x14 M13 => (w_X7_sumUp L x14 p2 M13 (fun M15 => (((p3 = (0 : Int32) → (Q (mi M15 80 1) M15)) ∧ (¬ p3 = (0 : Int32) → (((p3 = (1 : Int32) → (Q (mi M15 80 2) M15)) ∧ (¬ p3 = (1 : Int32) → (∀ x18 : Int32, x18 = (if (mi M15 80 2) < (mi M15 80 1) then (1 : Int32) else (0 : Int32)) → (Q x18 M15)))))))))))))))))))))))))))))))
set_option maxRecDepth 20000 in
theorem s_X11_known {L : Lay} (hL : LY L) {p0 : Int32} {p1 : Int32} {p2 : Int32} {p3 : Int32}  {M : Mem} {Q : Int32 → Mem → Prop} (hw : w_X11_known L p0 p1 p2 p3 M Q) : MX yX11_known cX11_known (some .int) 5 3 0 0 [.ref 0, .int p0, .int p1, .int p2, .int p3] (L, M) (QI L Q) := by
  unfold w_X11_known at hw
  refine MX_of (by decide) [.ref 0, .int p0, .int p1, .int p2, .int p3] (by rfl) (by exact Nat.le_of_ble_eq_true rfl) ?_
  show X (FM (QI L Q)) RX11 cX11_known (some .int) 5 "known" 3 0 0 (L, M) 0 [.ref 0, .int p0, .int p1, .int p2, .int p3] []
  refine X_aload_n 1 dX11_known_0 rfl rfl ?_
  refine X_iload_n 2 dX11_known_1 rfl rfl ?_
  refine Y_cVZ 5 (as := [.int p0]) m_X11_81 (s_X11_isOwner hL  hw) (hL.ob (c := 11) (by decide) rfl) rfl (by decide) (Nat.le_of_ble_eq_true rfl) dX11_known_2 rfl rfl (fun x2 M1 bx2 hw => ?_)
  refine X_if_eq 41 8 (y := 0) dX11_known_5 rfl rfl (fun c3 => ?_) (fun c3 => ?_)
  · have hw := hw.1 c3
    refine X_iconst 42 (v := -1) dX11_known_41 rfl rfl ?_
    exact X_ret rfl rfl dX11_known_42 ⟨_, _, rfl, rfl, hw⟩
  · have hw := hw.2 c3
    refine X_aload_n 9 dX11_known_8 rfl rfl ?_
    refine X_iload_n 10 dX11_known_9 rfl rfl ?_
    refine Y_cVZ 13 (as := [.int p1]) m_X11_176 (s_X11_isOver hL  hw) (hL.ob (c := 11) (by decide) rfl) rfl (by decide) (Nat.le_of_ble_eq_true rfl) dX11_known_10 rfl rfl (fun x5 M4 bx5 hw => ?_)
    refine X_if_eq 41 16 (y := 0) dX11_known_13 rfl rfl (fun c6 => ?_) (fun c6 => ?_)
    · have hw := hw.1 c6
      refine X_iconst 42 (v := -1) dX11_known_41 rfl rfl ?_
      exact X_ret rfl rfl dX11_known_42 ⟨_, _, rfl, rfl, hw⟩
    · have hw := hw.2 c6
      refine X_iload_n 17 dX11_known_16 rfl rfl ?_
      refine X_iconst 18 (v := 0) dX11_known_17 rfl rfl ?_
      refine X_aload_n 19 dX11_known_18 rfl rfl ?_
      refine X_getR 22 f_X11_10 (hL.ob (c := 11) (by decide) rfl) rfl (hL.rr (by decide) rfl) dX11_known_19 rfl ?_
      refine X_getI 25 f_X11_107 (hL.W (Or.inl rfl)) rfl dX11_known_22 rfl ?_
      refine Y_cSZ 28 (as := [.int p2, .int (0 : Int32), .int ((mi M4 1 0))]) m_X11_55 (s_X11_isWithin hL  hw) rfl (by decide) (Nat.le_of_ble_eq_true rfl) dX11_known_25 rfl rfl (fun x8 M7 bx8 hw => ?_)
      refine X_if_eq 41 31 (y := 0) dX11_known_28 rfl rfl (fun c9 => ?_) (fun c9 => ?_)
      · have hw := hw.1 c9
        refine X_iconst 42 (v := -1) dX11_known_41 rfl rfl ?_
        exact X_ret rfl rfl dX11_known_42 ⟨_, _, rfl, rfl, hw⟩
      · have hw := hw.2 c9
        refine X_iload 33 dX11_known_31 rfl rfl ?_
        refine X_iconst 34 (v := 0) dX11_known_33 rfl rfl ?_
        refine X_iconst 35 (v := 2) dX11_known_34 rfl rfl ?_
        refine Y_cSZ 38 (as := [.int p3, .int (0 : Int32), .int (2 : Int32)]) m_X11_55 (s_X11_isWithin hL  hw) rfl (by decide) (Nat.le_of_ble_eq_true rfl) dX11_known_35 rfl rfl (fun x11 M10 bx11 hw => ?_)
        refine X_if_ne 43 41 (y := 0) dX11_known_38 rfl rfl (fun c12 => ?_) (fun c12 => ?_)
        · have hw := hw.2 c12
          refine X_aload_n 44 dX11_known_43 rfl rfl ?_
          refine X_getR 47 f_X11_36 (hL.ob (c := 11) (by decide) rfl) rfl (hL.rr (by decide) rfl) dX11_known_44 rfl ?_
          refine X_aload_n 48 dX11_known_47 rfl rfl ?_
          refine X_getR 51 f_X11_29 (hL.ob (c := 11) (by decide) rfl) rfl (hL.rr (by decide) rfl) dX11_known_48 rfl ?_
          refine X_iload_n 52 dX11_known_51 rfl rfl ?_
          refine X_iload_n 53 dX11_known_52 rfl rfl ?_
          refine Y_cVI 56 (as := [.int p0, .int p1]) m_X11_179 (s_X2_place hL  hw) (hL.ob (c := 2) (by decide) rfl) rfl (by decide) (Nat.le_of_ble_eq_true rfl) dX11_known_53 rfl rfl (fun x14 M13 hw => ?_)
          refine X_iload_n 57 dX11_known_56 rfl rfl ?_
          refine Y_cVV 60 (as := [.int x14, .int p2]) m_X11_193 (s_X7_sumUp hL  hw) (hL.ob (c := 7) (by decide) rfl) rfl (by decide) (Nat.le_of_ble_eq_true rfl) dX11_known_57 rfl rfl (fun M15 hw => ?_)
          refine X_iload 62 dX11_known_60 rfl rfl ?_
          by_cases c16 : p3 = (0 : Int32)
          · have hw := hw.1 c16
            refine Y_lookIn 88 (k := 0) (off := 26) c16 dX11_known_62 (by decide) (by decide) rfl ?_
            refine X_aload_n 89 dX11_known_88 rfl rfl ?_
            refine X_getR 92 f_X11_36 (hL.ob (c := 11) (by decide) rfl) rfl (hL.rr (by decide) rfl) dX11_known_89 rfl ?_
            refine X_getI 95 f_X11_197 (hL.ob (c := 7) (by decide) rfl) rfl dX11_known_92 rfl ?_
            exact X_ret rfl rfl dX11_known_95 ⟨_, _, rfl, rfl, hw⟩
          · have hw := hw.2 c16
            by_cases c17 : p3 = (1 : Int32)
            · have hw := hw.1 c17
              refine Y_lookIn 96 (k := 1) (off := 34) c17 dX11_known_62 (by decide) (by decide) rfl ?_
              refine X_aload_n 97 dX11_known_96 rfl rfl ?_
              refine X_getR 100 f_X11_36 (hL.ob (c := 11) (by decide) rfl) rfl (hL.rr (by decide) rfl) dX11_known_97 rfl ?_
              refine X_getI 103 f_X11_200 (hL.ob (c := 7) (by decide) rfl) rfl dX11_known_100 rfl ?_
              exact X_ret rfl rfl dX11_known_103 ⟨_, _, rfl, rfl, hw⟩
            · have hw := hw.2 c17
              refine X_lookup 104 dX11_known_62 (by decide) ((lv_osw c16 (by decide)).trans ((lv_osw c17 (by decide)).trans rfl)) rfl ?_
              refine X_aload_n 105 dX11_known_104 rfl rfl ?_
              refine X_getR 108 f_X11_36 (hL.ob (c := 11) (by decide) rfl) rfl (hL.rr (by decide) rfl) dX11_known_105 rfl ?_
              refine X_getI 111 f_X11_197 (hL.ob (c := 7) (by decide) rfl) rfl dX11_known_108 rfl ?_
              refine X_aload_n 112 dX11_known_111 rfl rfl ?_
              refine X_getR 115 f_X11_36 (hL.ob (c := 11) (by decide) rfl) rfl (hL.rr (by decide) rfl) dX11_known_112 rfl ?_
              refine X_getI 118 f_X11_200 (hL.ob (c := 7) (by decide) rfl) rfl dX11_known_115 rfl ?_
              obtain ⟨x18, ex18⟩ : ∃ x18 : Int32, x18 = (if (mi M15 80 2) < (mi M15 80 1) then (1 : Int32) else (0 : Int32)) := ⟨_, rfl⟩
              have hw := hw x18 ex18
              have bx18 : BZ x18 := by rw [ex18]; (repeat' split) <;> first | exact Or.inl rfl | exact Or.inr rfl
              have hJ : X (FM (QI L Q)) RX11 cX11_known (some .int) 5 "known" 3 0 0 (L, M15) 126 [.ref 0, .int p0, .int p1, .int p2, .int p3] [.int x18] := by
                exact X_ret rfl rfl dX11_known_126 ⟨_, _, rfl, rfl, hw⟩
              refine X_icmp_le 125 121 dX11_known_118 rfl rfl (fun c19 => ?_) (fun c19 => ?_)
              · refine X_iconst 126 (v := 0) dX11_known_125 rfl rfl ?_
                rw [if_neg c19] at ex18
                rw [ex18] at hJ
                exact hJ
              · refine X_iconst 122 (v := 1) dX11_known_121 rfl rfl ?_
                refine X_goto 126 dX11_known_122 rfl ?_
                rw [if_pos c19] at ex18
                rw [ex18] at hJ
                exact hJ
        · have hw := hw.1 c12
          refine X_iconst 42 (v := -1) dX11_known_41 rfl rfl ?_
          exact X_ret rfl rfl dX11_known_42 ⟨_, _, rfl, rfl, hw⟩
def w_X11_provedOn (L : Lay) (p0 : Int32) (p1 : Int32) (p2 : Int32) (M : Mem) (Q : Int32 → Mem → Prop) : Prop := w_X2_place L p0 p1 M (fun x2 M1 => (w_X7_sumUp L x2 p2 M1 (fun M3 => ((((mi M3 80 2) < (mi M3 80 1) → (Q (0 : Int32) M3)) ∧ (¬ (mi M3 80 2) < (mi M3 80 1) → (vp_in p1 24 ∧ ((((mp M3 76 (tn p1)) = none → (Q (0 : Int32) M3)) ∧ ∀ a7 : Nat, (mp M3 76 (tn p1)) = some a7 → (vp_in x2 240 ∧ (Q (jmax (0 : Int32) ((mi M3 80 1) - (mi M3 78 (tn x2)))) M3)))))))))))
set_option maxRecDepth 20000 in
theorem s_X11_provedOn {L : Lay} (hL : LY L) {p0 : Int32} {p1 : Int32} {p2 : Int32}  {M : Mem} {Q : Int32 → Mem → Prop} (hw : w_X11_provedOn L p0 p1 p2 M Q) : MX yX11_provedOn cX11_provedOn (some .int) 5 3 0 0 [.ref 0, .int p0, .int p1, .int p2] (L, M) (QI L Q) := by
  unfold w_X11_provedOn at hw
  refine MX_of (by decide) [.ref 0, .int p0, .int p1, .int p2, junk] (by rfl) (by exact Nat.le_of_ble_eq_true rfl) ?_
  show X (FM (QI L Q)) RX11 cX11_provedOn (some .int) 5 "provedOn" 3 0 0 (L, M) 0 [.ref 0, .int p0, .int p1, .int p2, junk] []
  refine X_aload_n 1 dX11_provedOn_0 rfl rfl ?_
  refine X_getR 4 f_X11_29 (hL.ob (c := 11) (by decide) rfl) rfl (hL.rr (by decide) rfl) dX11_provedOn_1 rfl ?_
  refine X_iload_n 5 dX11_provedOn_4 rfl rfl ?_
  refine X_iload_n 6 dX11_provedOn_5 rfl rfl ?_
  refine Y_cVI 9 (as := [.int p0, .int p1]) m_X11_179 (s_X2_place hL  hw) (hL.ob (c := 2) (by decide) rfl) rfl (by decide) (Nat.le_of_ble_eq_true rfl) dX11_provedOn_6 rfl rfl (fun x2 M1 hw => ?_)
  refine X_istore 11 (ls' := [.ref 0, .int p0, .int p1, .int p2, .int x2]) dX11_provedOn_9 rfl (Nat.le_of_ble_eq_true rfl) rfl (Or.inr (Or.inr ⟨_, rfl, rfl⟩)) ?_
  refine X_aload_n 12 dX11_provedOn_11 rfl rfl ?_
  refine X_getR 15 f_X11_36 (hL.ob (c := 11) (by decide) rfl) rfl (hL.rr (by decide) rfl) dX11_provedOn_12 rfl ?_
  refine X_iload 17 dX11_provedOn_15 rfl rfl ?_
  refine X_iload_n 18 dX11_provedOn_17 rfl rfl ?_
  refine Y_cVV 21 (as := [.int x2, .int p2]) m_X11_193 (s_X7_sumUp hL  hw) (hL.ob (c := 7) (by decide) rfl) rfl (by decide) (Nat.le_of_ble_eq_true rfl) dX11_provedOn_18 rfl rfl (fun M3 hw => ?_)
  refine X_aload_n 22 dX11_provedOn_21 rfl rfl ?_
  refine X_getR 25 f_X11_36 (hL.ob (c := 11) (by decide) rfl) rfl (hL.rr (by decide) rfl) dX11_provedOn_22 rfl ?_
  refine X_getI 28 f_X11_197 (hL.ob (c := 7) (by decide) rfl) rfl dX11_provedOn_25 rfl ?_
  refine X_aload_n 29 dX11_provedOn_28 rfl rfl ?_
  refine X_getR 32 f_X11_36 (hL.ob (c := 11) (by decide) rfl) rfl (hL.rr (by decide) rfl) dX11_provedOn_29 rfl ?_
  refine X_getI 35 f_X11_200 (hL.ob (c := 7) (by decide) rfl) rfl dX11_provedOn_32 rfl ?_
  refine X_icmp_gt 50 38 dX11_provedOn_35 rfl rfl (fun c4 => ?_) (fun c4 => ?_)
  · have hw := hw.1 c4
    refine X_iconst 51 (v := 0) dX11_provedOn_50 rfl rfl ?_
    exact X_ret rfl rfl dX11_provedOn_51 ⟨_, _, rfl, rfl, hw⟩
  · have hw := hw.2 c4
    refine X_aload_n 39 dX11_provedOn_38 rfl rfl ?_
    refine X_getR 42 f_X11_29 (hL.ob (c := 11) (by decide) rfl) rfl (hL.rr (by decide) rfl) dX11_provedOn_39 rfl ?_
    refine X_getR 45 f_X11_211 (hL.ob (c := 2) (by decide) rfl) rfl (hL.rr (by decide) rfl) dX11_provedOn_42 rfl ?_
    refine X_iload_n 46 dX11_provedOn_45 rfl rfl ?_
    obtain ⟨c5, hw⟩ := hw
    refine X_aaldQ 47 (hL.ar (t := 7) (n := 24) (by decide) rfl) c5 dX11_provedOn_46 rfl ?_
    refine X_ifnonnull 52 50 dX11_provedOn_47 rfl rfl (fun a7 c6 => ?_) (fun c6 => ?_)
    · have hw := hw.2 a7 c6
      refine X_iconst 53 (v := 0) dX11_provedOn_52 rfl rfl ?_
      refine X_aload_n 54 dX11_provedOn_53 rfl rfl ?_
      refine X_getR 57 f_X11_36 (hL.ob (c := 11) (by decide) rfl) rfl (hL.rr (by decide) rfl) dX11_provedOn_54 rfl ?_
      refine X_getI 60 f_X11_197 (hL.ob (c := 7) (by decide) rfl) rfl dX11_provedOn_57 rfl ?_
      refine X_aload_n 61 dX11_provedOn_60 rfl rfl ?_
      refine X_getR 64 f_X11_29 (hL.ob (c := 11) (by decide) rfl) rfl (hL.rr (by decide) rfl) dX11_provedOn_61 rfl ?_
      refine X_getR 67 f_X11_277 (hL.ob (c := 2) (by decide) rfl) rfl (hL.rr (by decide) rfl) dX11_provedOn_64 rfl ?_
      refine X_iload 69 dX11_provedOn_67 rfl rfl ?_
      obtain ⟨c8, hw⟩ := hw
      refine Y_iald 70 (k := (tn x2)) (hL.ar (t := 0) (n := 240) (by decide) rfl) c8 rfl dX11_provedOn_69 rfl ?_
      refine X_isub 71 dX11_provedOn_70 rfl ?_
      refine Y_mmax 74 l_X11_321 (by decide) (Nat.le_of_ble_eq_true rfl) dX11_provedOn_71 rfl ?_
      exact X_ret rfl rfl dX11_provedOn_74 ⟨_, _, rfl, rfl, hw⟩
    · have hw := hw.1 c6
      refine X_iconst 51 (v := 0) dX11_provedOn_50 rfl rfl ?_
      exact X_ret rfl rfl dX11_provedOn_51 ⟨_, _, rfl, rfl, hw⟩
def w_X11_proved (L : Lay) (p0 : Int32) (p1 : Int32) (p2 : Int32) (M : Mem) (Q : Int32 → Mem → Prop) : Prop := w_X11_isOwner L p0 M (fun x2 M1 => (((x2 = 0 → (Q (-1 : Int32) M1)) ∧ (¬ x2 = 0 → (w_X11_isOver L p1 M1 (fun x5 M4 => (((x5 = 0 → (Q (-1 : Int32) M4)) ∧ (¬ x5 = 0 → (w_X11_isWithin L p2 (0 : Int32) (mi M4 1 0) M4 (fun x8 M7 => (((x8 = 0 → (Q (-1 : Int32) M7)) ∧ (¬ x8 = 0 → (w_X11_provedOn L p0 p1 p2 M7 (fun x11 M10 => (Q x11 M10)))))))))))))))))
set_option maxRecDepth 20000 in
theorem s_X11_proved {L : Lay} (hL : LY L) {p0 : Int32} {p1 : Int32} {p2 : Int32}  {M : Mem} {Q : Int32 → Mem → Prop} (hw : w_X11_proved L p0 p1 p2 M Q) : MX yX11_proved cX11_proved (some .int) 4 4 0 0 [.ref 0, .int p0, .int p1, .int p2] (L, M) (QI L Q) := by
  unfold w_X11_proved at hw
  refine MX_of (by decide) [.ref 0, .int p0, .int p1, .int p2] (by rfl) (by exact Nat.le_of_ble_eq_true rfl) ?_
  show X (FM (QI L Q)) RX11 cX11_proved (some .int) 4 "proved" 4 0 0 (L, M) 0 [.ref 0, .int p0, .int p1, .int p2] []
  refine X_aload_n 1 dX11_proved_0 rfl rfl ?_
  refine X_iload_n 2 dX11_proved_1 rfl rfl ?_
  refine Y_cVZ 5 (as := [.int p0]) m_X11_81 (s_X11_isOwner hL  hw) (hL.ob (c := 11) (by decide) rfl) rfl (by decide) (Nat.le_of_ble_eq_true rfl) dX11_proved_2 rfl rfl (fun x2 M1 bx2 hw => ?_)
  refine X_if_eq 31 8 (y := 0) dX11_proved_5 rfl rfl (fun c3 => ?_) (fun c3 => ?_)
  · have hw := hw.1 c3
    refine X_iconst 32 (v := -1) dX11_proved_31 rfl rfl ?_
    exact X_ret rfl rfl dX11_proved_32 ⟨_, _, rfl, rfl, hw⟩
  · have hw := hw.2 c3
    refine X_aload_n 9 dX11_proved_8 rfl rfl ?_
    refine X_iload_n 10 dX11_proved_9 rfl rfl ?_
    refine Y_cVZ 13 (as := [.int p1]) m_X11_176 (s_X11_isOver hL  hw) (hL.ob (c := 11) (by decide) rfl) rfl (by decide) (Nat.le_of_ble_eq_true rfl) dX11_proved_10 rfl rfl (fun x5 M4 bx5 hw => ?_)
    refine X_if_eq 31 16 (y := 0) dX11_proved_13 rfl rfl (fun c6 => ?_) (fun c6 => ?_)
    · have hw := hw.1 c6
      refine X_iconst 32 (v := -1) dX11_proved_31 rfl rfl ?_
      exact X_ret rfl rfl dX11_proved_32 ⟨_, _, rfl, rfl, hw⟩
    · have hw := hw.2 c6
      refine X_iload_n 17 dX11_proved_16 rfl rfl ?_
      refine X_iconst 18 (v := 0) dX11_proved_17 rfl rfl ?_
      refine X_aload_n 19 dX11_proved_18 rfl rfl ?_
      refine X_getR 22 f_X11_10 (hL.ob (c := 11) (by decide) rfl) rfl (hL.rr (by decide) rfl) dX11_proved_19 rfl ?_
      refine X_getI 25 f_X11_107 (hL.W (Or.inl rfl)) rfl dX11_proved_22 rfl ?_
      refine Y_cSZ 28 (as := [.int p2, .int (0 : Int32), .int ((mi M4 1 0))]) m_X11_55 (s_X11_isWithin hL  hw) rfl (by decide) (Nat.le_of_ble_eq_true rfl) dX11_proved_25 rfl rfl (fun x8 M7 bx8 hw => ?_)
      refine X_if_ne 33 31 (y := 0) dX11_proved_28 rfl rfl (fun c9 => ?_) (fun c9 => ?_)
      · have hw := hw.2 c9
        refine X_aload_n 34 dX11_proved_33 rfl rfl ?_
        refine X_iload_n 35 dX11_proved_34 rfl rfl ?_
        refine X_iload_n 36 dX11_proved_35 rfl rfl ?_
        refine X_iload_n 37 dX11_proved_36 rfl rfl ?_
        refine Y_cVI 40 (as := [.int p0, .int p1, .int p2]) m_X11_203 (s_X11_provedOn hL  hw) (hL.ob (c := 11) (by decide) rfl) rfl (by decide) (Nat.le_of_ble_eq_true rfl) dX11_proved_37 rfl rfl (fun x11 M10 hw => ?_)
        exact X_ret rfl rfl dX11_proved_40 ⟨_, _, rfl, rfl, hw⟩
      · have hw := hw.1 c9
        refine X_iconst 32 (v := -1) dX11_proved_31 rfl rfl ?_
        exact X_ret rfl rfl dX11_proved_32 ⟨_, _, rfl, rfl, hw⟩
def w_X11_fine (L : Lay) (p0 : Int32) (p1 : Int32) (M : Mem) (Q : Int32 → Mem → Prop) : Prop := w_X11_isOwner L p0 M (fun x2 M1 => (((x2 = 0 → (Q (-1 : Int32) M1)) ∧ (¬ x2 = 0 → (w_X11_isOver L p1 M1 (fun x5 M4 => (((x5 = 0 → (Q (-1 : Int32) M4)) ∧ (¬ x5 = 0 → (w_X2_place L p0 p1 M4 (fun x8 M7 => (vp_in x8 240 ∧ ((((mi M7 79 (tn x8)) = 0 → (w_X11_provedOn L p0 p1 (mi M7 1 0) M7 (fun x12 M11 => (((x12 = 0 → (Q (-1 : Int32) M11)) ∧ (¬ x12 = 0 → (w_X2_place L p0 p1 M11 (fun x15 M14 => (vp_in x15 240 ∧ (∀ M17 : Mem, M17 = si M14 79 (tn x15) (narZ (1 : Int32)) → (vp_in p1 24 ∧ (vp_in p0 10 ∧ (w_X10_fineBy L 1 (mp M17 76 (tn p1)) (oA 1 (tn p0)) x12 M17 (fun x21 M20 => (∀ M22 : Mem, M22 = si M20 (oA 1 (tn p0)) 9 ((mi M20 (oA 1 (tn p0)) 9) - x21) → (Q x21 M22)))))))))))))))) ∧ (¬ (mi M7 79 (tn x8)) = 0 → (Q (-1 : Int32) M7))))))))))))))))
set_option maxRecDepth 20000 in
theorem s_X11_fine {L : Lay} (hL : LY L) {p0 : Int32} {p1 : Int32}  {M : Mem} {Q : Int32 → Mem → Prop} (hw : w_X11_fine L p0 p1 M Q) : MX yX11_fine cX11_fine (some .int) 5 5 0 0 [.ref 0, .int p0, .int p1] (L, M) (QI L Q) := by
  unfold w_X11_fine at hw
  refine MX_of (by decide) [.ref 0, .int p0, .int p1, junk, junk] (by rfl) (by exact Nat.le_of_ble_eq_true rfl) ?_
  show X (FM (QI L Q)) RX11 cX11_fine (some .int) 5 "fine" 5 0 0 (L, M) 0 [.ref 0, .int p0, .int p1, junk, junk] []
  refine X_aload_n 1 dX11_fine_0 rfl rfl ?_
  refine X_iload_n 2 dX11_fine_1 rfl rfl ?_
  refine Y_cVZ 5 (as := [.int p0]) m_X11_81 (s_X11_isOwner hL  hw) (hL.ob (c := 11) (by decide) rfl) rfl (by decide) (Nat.le_of_ble_eq_true rfl) dX11_fine_2 rfl rfl (fun x2 M1 bx2 hw => ?_)
  refine X_if_eq 36 8 (y := 0) dX11_fine_5 rfl rfl (fun c3 => ?_) (fun c3 => ?_)
  · have hw := hw.1 c3
    refine X_iconst 37 (v := -1) dX11_fine_36 rfl rfl ?_
    exact X_ret rfl rfl dX11_fine_37 ⟨_, _, rfl, rfl, hw⟩
  · have hw := hw.2 c3
    refine X_aload_n 9 dX11_fine_8 rfl rfl ?_
    refine X_iload_n 10 dX11_fine_9 rfl rfl ?_
    refine Y_cVZ 13 (as := [.int p1]) m_X11_176 (s_X11_isOver hL  hw) (hL.ob (c := 11) (by decide) rfl) rfl (by decide) (Nat.le_of_ble_eq_true rfl) dX11_fine_10 rfl rfl (fun x5 M4 bx5 hw => ?_)
    refine X_if_eq 36 16 (y := 0) dX11_fine_13 rfl rfl (fun c6 => ?_) (fun c6 => ?_)
    · have hw := hw.1 c6
      refine X_iconst 37 (v := -1) dX11_fine_36 rfl rfl ?_
      exact X_ret rfl rfl dX11_fine_37 ⟨_, _, rfl, rfl, hw⟩
    · have hw := hw.2 c6
      refine X_aload_n 17 dX11_fine_16 rfl rfl ?_
      refine X_getR 20 f_X11_29 (hL.ob (c := 11) (by decide) rfl) rfl (hL.rr (by decide) rfl) dX11_fine_17 rfl ?_
      refine X_getR 23 f_X11_207 (hL.ob (c := 2) (by decide) rfl) rfl (hL.rr (by decide) rfl) dX11_fine_20 rfl ?_
      refine X_aload_n 24 dX11_fine_23 rfl rfl ?_
      refine X_getR 27 f_X11_29 (hL.ob (c := 11) (by decide) rfl) rfl (hL.rr (by decide) rfl) dX11_fine_24 rfl ?_
      refine X_iload_n 28 dX11_fine_27 rfl rfl ?_
      refine X_iload_n 29 dX11_fine_28 rfl rfl ?_
      refine Y_cVI 32 (as := [.int p0, .int p1]) m_X11_179 (s_X2_place hL  hw) (hL.ob (c := 2) (by decide) rfl) rfl (by decide) (Nat.le_of_ble_eq_true rfl) dX11_fine_29 rfl rfl (fun x8 M7 hw => ?_)
      obtain ⟨c9, hw⟩ := hw
      refine Y_zald 33 (k := (tn x8)) (hL.ar (t := 1) (n := 240) (by decide) rfl) c9 rfl dX11_fine_32 rfl ?_
      refine X_if_eq 38 36 (y := 0) dX11_fine_33 rfl rfl (fun c10 => ?_) (fun c10 => ?_)
      · have hw := hw.1 c10
        refine X_aload_n 39 dX11_fine_38 rfl rfl ?_
        refine X_iload_n 40 dX11_fine_39 rfl rfl ?_
        refine X_iload_n 41 dX11_fine_40 rfl rfl ?_
        refine X_aload_n 42 dX11_fine_41 rfl rfl ?_
        refine X_getR 45 f_X11_10 (hL.ob (c := 11) (by decide) rfl) rfl (hL.rr (by decide) rfl) dX11_fine_42 rfl ?_
        refine X_getI 48 f_X11_107 (hL.W (Or.inl rfl)) rfl dX11_fine_45 rfl ?_
        refine Y_cVI 51 (as := [.int p0, .int p1, .int ((mi M7 1 0))]) m_X11_203 (s_X11_provedOn hL  hw) (hL.ob (c := 11) (by decide) rfl) rfl (by decide) (Nat.le_of_ble_eq_true rfl) dX11_fine_48 rfl rfl (fun x12 M11 hw => ?_)
        refine X_istore_n 52 (ls' := [.ref 0, .int p0, .int p1, .int x12, junk]) dX11_fine_51 rfl rfl (Nat.le_of_ble_eq_true rfl) rfl (Or.inr (Or.inr ⟨_, rfl, rfl⟩)) ?_
        refine X_iload_n 53 dX11_fine_52 rfl rfl ?_
        refine X_if_ne 58 56 (y := 0) dX11_fine_53 rfl rfl (fun c13 => ?_) (fun c13 => ?_)
        · have hw := hw.2 c13
          refine X_aload_n 59 dX11_fine_58 rfl rfl ?_
          refine X_getR 62 f_X11_29 (hL.ob (c := 11) (by decide) rfl) rfl (hL.rr (by decide) rfl) dX11_fine_59 rfl ?_
          refine X_getR 65 f_X11_207 (hL.ob (c := 2) (by decide) rfl) rfl (hL.rr (by decide) rfl) dX11_fine_62 rfl ?_
          refine X_aload_n 66 dX11_fine_65 rfl rfl ?_
          refine X_getR 69 f_X11_29 (hL.ob (c := 11) (by decide) rfl) rfl (hL.rr (by decide) rfl) dX11_fine_66 rfl ?_
          refine X_iload_n 70 dX11_fine_69 rfl rfl ?_
          refine X_iload_n 71 dX11_fine_70 rfl rfl ?_
          refine Y_cVI 74 (as := [.int p0, .int p1]) m_X11_179 (s_X2_place hL  hw) (hL.ob (c := 2) (by decide) rfl) rfl (by decide) (Nat.le_of_ble_eq_true rfl) dX11_fine_71 rfl rfl (fun x15 M14 hw => ?_)
          refine X_iconst 75 (v := 1) dX11_fine_74 rfl rfl ?_
          obtain ⟨c16, hw⟩ := hw
          refine Y_zast 76 (k := (tn x15)) (hL.ar (t := 1) (n := 240) (by decide) rfl) c16 rfl dX11_fine_75 rfl ?_
          refine X_nmM (fun M17 eM17 => ?_)
          have hw := hw M17 eM17
          refine X_aload_n 77 dX11_fine_76 rfl rfl ?_
          refine X_getR 80 f_X11_10 (hL.ob (c := 11) (by decide) rfl) rfl (hL.rr (by decide) rfl) dX11_fine_77 rfl ?_
          refine X_aload_n 81 dX11_fine_80 rfl rfl ?_
          refine X_getR 84 f_X11_29 (hL.ob (c := 11) (by decide) rfl) rfl (hL.rr (by decide) rfl) dX11_fine_81 rfl ?_
          refine X_getR 87 f_X11_211 (hL.ob (c := 2) (by decide) rfl) rfl (hL.rr (by decide) rfl) dX11_fine_84 rfl ?_
          refine X_iload_n 88 dX11_fine_87 rfl rfl ?_
          obtain ⟨c18, hw⟩ := hw
          refine X_aaldQ 89 (hL.ar (t := 7) (n := 24) (by decide) rfl) c18 dX11_fine_88 rfl ?_
          refine X_aload_n 90 dX11_fine_89 rfl rfl ?_
          refine X_getR 93 f_X11_10 (hL.ob (c := 11) (by decide) rfl) rfl (hL.rr (by decide) rfl) dX11_fine_90 rfl ?_
          refine X_getR 96 f_X11_63 (hL.W (Or.inl rfl)) rfl (hL.wrr (Or.inl rfl) (k := 0) (x := 1) rfl rfl (by decide)) dX11_fine_93 rfl ?_
          refine X_iload_n 97 dX11_fine_96 rfl rfl ?_
          obtain ⟨c19, hw⟩ := hw
          refine X_aald 98 (Nat.le_refl 5) (by decide) (hL.war (Or.inl rfl) (k := 1) (t := 5) (n := 10) rfl rfl (by decide)) c19 (hL.ownr (Or.inl rfl) (vp_lt c19)) dX11_fine_97 rfl ?_
          refine X_iload_n 99 dX11_fine_98 rfl rfl ?_
          refine Y_cVI 102 (as := [va_rf ((mp M17 76 (tn p1))), .ref ((oA 1 (tn p0))), .int x12]) m_X11_215 (s_X10_fineBy hL (Or.inl rfl) (hL.own (Or.inl rfl) (vp_lt c19)) hw) (hL.W (Or.inl rfl)) rfl (by decide) (Nat.le_of_ble_eq_true rfl) dX11_fine_99 rfl rfl (fun x21 M20 hw => ?_)
          refine X_istore 104 (ls' := [.ref 0, .int p0, .int p1, .int x12, .int x21]) dX11_fine_102 rfl (Nat.le_of_ble_eq_true rfl) rfl (Or.inr (Or.inr ⟨_, rfl, rfl⟩)) ?_
          refine X_aload_n 105 dX11_fine_104 rfl rfl ?_
          refine X_getR 108 f_X11_10 (hL.ob (c := 11) (by decide) rfl) rfl (hL.rr (by decide) rfl) dX11_fine_105 rfl ?_
          refine X_getR 111 f_X11_63 (hL.W (Or.inl rfl)) rfl (hL.wrr (Or.inl rfl) (k := 0) (x := 1) rfl rfl (by decide)) dX11_fine_108 rfl ?_
          refine X_iload_n 112 dX11_fine_111 rfl rfl ?_
          refine X_aald 113 (Nat.le_refl 5) (by decide) (hL.war (Or.inl rfl) (k := 1) (t := 5) (n := 10) rfl rfl (by decide)) c19 (hL.ownr (Or.inl rfl) (vp_lt c19)) dX11_fine_112 rfl ?_
          refine X_dup 114 dX11_fine_113 rfl rfl ?_
          refine X_getI 117 f_X11_219 (hL.own (Or.inl rfl) (vp_lt c19)) rfl dX11_fine_114 rfl ?_
          refine X_iload 119 dX11_fine_117 rfl rfl ?_
          refine X_isub 120 dX11_fine_119 rfl ?_
          refine X_putI 123 f_X11_219 (Or.inl rfl) (hL.own (Or.inl rfl) (vp_lt c19)) rfl dX11_fine_120 rfl ?_
          refine X_nmM (fun M22 eM22 => ?_)
          have hw := hw M22 eM22
          refine X_iload 125 dX11_fine_123 rfl rfl ?_
          exact X_ret rfl rfl dX11_fine_125 ⟨_, _, rfl, rfl, hw⟩
        · have hw := hw.1 c13
          refine X_iconst 57 (v := -1) dX11_fine_56 rfl rfl ?_
          exact X_ret rfl rfl dX11_fine_57 ⟨_, _, rfl, rfl, hw⟩
      · have hw := hw.2 c10
        refine X_iconst 37 (v := -1) dX11_fine_36 rfl rfl ?_
        exact X_ret rfl rfl dX11_fine_37 ⟨_, _, rfl, rfl, hw⟩
def w_X11_isSet (L : Lay) (p0 : Int32) (M : Mem) (Q : Int32 → Mem → Prop) : Prop := ∀ x1 : Int32, x1 = (if p0 < 0 then (0 : Int32) else (if (jshr p0 (mi M 1 2)) = 0 then (1 : Int32) else (0 : Int32))) → (Q x1 M)
set_option maxRecDepth 20000 in
theorem s_X11_isSet {L : Lay} (hL : LY L) {p0 : Int32}  {M : Mem} {Q : Int32 → Mem → Prop} (hw : w_X11_isSet L p0 M Q) : MX yX11_isSet cX11_isSet (some .boolean) 2 1 0 0 [.ref 0, .int p0] (L, M) (QZ L Q) := by
  unfold w_X11_isSet at hw
  refine MX_of (by decide) [.ref 0, .int p0] (by rfl) (by exact Nat.le_of_ble_eq_true rfl) ?_
  show X (FM (QZ L Q)) RX11 cX11_isSet (some .boolean) 2 "isSet" 1 0 0 (L, M) 0 [.ref 0, .int p0] []
  refine X_iload_n 1 dX11_isSet_0 rfl rfl ?_
  obtain ⟨x1, ex1⟩ : ∃ x1 : Int32, x1 = (if p0 < 0 then (0 : Int32) else (if (jshr p0 (mi M 1 2)) = 0 then (1 : Int32) else (0 : Int32))) := ⟨_, rfl⟩
  have hw := hw x1 ex1
  have bx1 : BZ x1 := by rw [ex1]; (repeat' split) <;> first | exact Or.inl rfl | exact Or.inr rfl
  have hJ : X (FM (QZ L Q)) RX11 cX11_isSet (some .boolean) 2 "isSet" 1 0 0 (L, M) 21 [.ref 0, .int p0] [.int x1] := by
    exact X_ret rfl (nar_bool (bx1)) dX11_isSet_21 ⟨_, _, rfl, bx1, rfl, hw⟩
  refine X_if_lt 20 4 (y := 0) dX11_isSet_1 rfl rfl (fun c2 => ?_) (fun c2 => ?_)
  · refine X_iconst 21 (v := 0) dX11_isSet_20 rfl rfl ?_
    rw [if_pos c2] at ex1
    rw [ex1] at hJ
    exact hJ
  · refine X_iload_n 5 dX11_isSet_4 rfl rfl ?_
    refine X_aload_n 6 dX11_isSet_5 rfl rfl ?_
    refine X_getR 9 f_X11_10 (hL.ob (c := 11) (by decide) rfl) rfl (hL.rr (by decide) rfl) dX11_isSet_6 rfl ?_
    refine X_getI 12 f_X11_59 (hL.W (Or.inl rfl)) rfl dX11_isSet_9 rfl ?_
    refine Y_ishr 13 dX11_isSet_12 rfl ?_
    refine X_if_ne 20 16 (y := 0) dX11_isSet_13 rfl rfl (fun c3 => ?_) (fun c3 => ?_)
    · refine X_iconst 21 (v := 0) dX11_isSet_20 rfl rfl ?_
      rw [if_neg c2, if_neg c3] at ex1
      rw [ex1] at hJ
      exact hJ
    · refine X_iconst 17 (v := 1) dX11_isSet_16 rfl rfl ?_
      refine X_goto 21 dX11_isSet_17 rfl ?_
      rw [if_neg c2, if_pos c3] at ex1
      rw [ex1] at hJ
      exact hJ
def w_X11_sale (L : Lay) (p0 : Int32) (p1 : Int32) (p2 : Int32) (M : Mem) (Q : Int32 → Mem → Prop) : Prop := w_X11_isSet L p0 M (fun x2 M1 => (((x2 = 0 → (Q (-1 : Int32) M1)) ∧ (¬ x2 = 0 → (((p0 = 0 → (Q (-1 : Int32) M1)) ∧ (¬ p0 = 0 → (w_X11_isWithin L p1 (1 : Int32) (9999 : Int32) M1 (fun x6 M5 => (((x6 = 0 → (Q (-1 : Int32) M5)) ∧ (¬ x6 = 0 → (w_X11_isWithin L p2 (1 : Int32) (9999 : Int32) M5 (fun x9 M8 => (((x9 = 0 → (Q (-1 : Int32) M8)) ∧ (¬ x9 = 0 → (w_X8_add L p0 p1 p2 M8 (fun x12 M11 => (Q x12 M11))))))))))))))))))))
set_option maxRecDepth 20000 in
theorem s_X11_sale {L : Lay} (hL : LY L) {p0 : Int32} {p1 : Int32} {p2 : Int32}  {M : Mem} {Q : Int32 → Mem → Prop} (hw : w_X11_sale L p0 p1 p2 M Q) : MX yX11_sale cX11_sale (some .int) 4 2 0 0 [.ref 0, .int p0, .int p1, .int p2] (L, M) (QI L Q) := by
  unfold w_X11_sale at hw
  refine MX_of (by decide) [.ref 0, .int p0, .int p1, .int p2] (by rfl) (by exact Nat.le_of_ble_eq_true rfl) ?_
  show X (FM (QI L Q)) RX11 cX11_sale (some .int) 4 "sale" 2 0 0 (L, M) 0 [.ref 0, .int p0, .int p1, .int p2] []
  refine X_aload_n 1 dX11_sale_0 rfl rfl ?_
  refine X_iload_n 2 dX11_sale_1 rfl rfl ?_
  refine Y_cVZ 5 (as := [.int p0]) m_X11_222 (s_X11_isSet hL  hw) (hL.ob (c := 11) (by decide) rfl) rfl (by decide) (Nat.le_of_ble_eq_true rfl) dX11_sale_2 rfl rfl (fun x2 M1 bx2 hw => ?_)
  refine X_if_eq 34 8 (y := 0) dX11_sale_5 rfl rfl (fun c3 => ?_) (fun c3 => ?_)
  · have hw := hw.1 c3
    refine X_iconst 35 (v := -1) dX11_sale_34 rfl rfl ?_
    exact X_ret rfl rfl dX11_sale_35 ⟨_, _, rfl, rfl, hw⟩
  · have hw := hw.2 c3
    refine X_iload_n 9 dX11_sale_8 rfl rfl ?_
    refine X_if_eq 34 12 (y := 0) dX11_sale_9 rfl rfl (fun c4 => ?_) (fun c4 => ?_)
    · have hw := hw.1 c4
      refine X_iconst 35 (v := -1) dX11_sale_34 rfl rfl ?_
      exact X_ret rfl rfl dX11_sale_35 ⟨_, _, rfl, rfl, hw⟩
    · have hw := hw.2 c4
      refine X_iload_n 13 dX11_sale_12 rfl rfl ?_
      refine X_iconst 14 (v := 1) dX11_sale_13 rfl rfl ?_
      refine X_sipush 17 (v := 9999) dX11_sale_14 rfl rfl ?_
      refine Y_cSZ 20 (as := [.int p1, .int (1 : Int32), .int (9999 : Int32)]) m_X11_55 (s_X11_isWithin hL  hw) rfl (by decide) (Nat.le_of_ble_eq_true rfl) dX11_sale_17 rfl rfl (fun x6 M5 bx6 hw => ?_)
      refine X_if_eq 34 23 (y := 0) dX11_sale_20 rfl rfl (fun c7 => ?_) (fun c7 => ?_)
      · have hw := hw.1 c7
        refine X_iconst 35 (v := -1) dX11_sale_34 rfl rfl ?_
        exact X_ret rfl rfl dX11_sale_35 ⟨_, _, rfl, rfl, hw⟩
      · have hw := hw.2 c7
        refine X_iload_n 24 dX11_sale_23 rfl rfl ?_
        refine X_iconst 25 (v := 1) dX11_sale_24 rfl rfl ?_
        refine X_sipush 28 (v := 9999) dX11_sale_25 rfl rfl ?_
        refine Y_cSZ 31 (as := [.int p2, .int (1 : Int32), .int (9999 : Int32)]) m_X11_55 (s_X11_isWithin hL  hw) rfl (by decide) (Nat.le_of_ble_eq_true rfl) dX11_sale_28 rfl rfl (fun x9 M8 bx9 hw => ?_)
        refine X_if_ne 36 34 (y := 0) dX11_sale_31 rfl rfl (fun c10 => ?_) (fun c10 => ?_)
        · have hw := hw.2 c10
          refine X_aload_n 37 dX11_sale_36 rfl rfl ?_
          refine X_getR 40 f_X11_43 (hL.ob (c := 11) (by decide) rfl) rfl (hL.rr (by decide) rfl) dX11_sale_37 rfl ?_
          refine X_iload_n 41 dX11_sale_40 rfl rfl ?_
          refine X_iload_n 42 dX11_sale_41 rfl rfl ?_
          refine X_iload_n 43 dX11_sale_42 rfl rfl ?_
          refine Y_cVI 46 (as := [.int p0, .int p1, .int p2]) m_X11_225 (s_X8_add hL  hw) (hL.ob (c := 8) (by decide) rfl) rfl (by decide) (Nat.le_of_ble_eq_true rfl) dX11_sale_43 rfl rfl (fun x12 M11 hw => ?_)
          exact X_ret rfl rfl dX11_sale_46 ⟨_, _, rfl, rfl, hw⟩
        · have hw := hw.1 c10
          refine X_iconst 35 (v := -1) dX11_sale_34 rfl rfl ?_
          exact X_ret rfl rfl dX11_sale_35 ⟨_, _, rfl, rfl, hw⟩
def w_X11_named_20 (L : Lay) (p0 : Int32) (K20 : Int32 → Int32 → Int32 → Mem → Prop) (v2 : Int32) (v3 : Int32) (v4 : Int32) (M : Mem) (Q : Int32 → Mem → Prop) : Prop := ((v4 < (10 : Int32) → (((((jshr v2 v4) &&& (1 : Int32)) = (1 : Int32) → (((v3 = p0 → (Q v4 M)) ∧ (¬ v3 = p0 → (∀ x9 : Int32, x9 = v3 + (1 : Int32) → (∀ x10 : Int32, x10 = v4 + (1 : Int32) → (K20 v2 x9 x10 M))))))) ∧ (¬ ((jshr v2 v4) &&& (1 : Int32)) = (1 : Int32) → (∀ x7 : Int32, x7 = v4 + (1 : Int32) → (K20 v2 v3 x7 M)))))) ∧ (¬ v4 < (10 : Int32) → (Q (-1 : Int32) M)))
set_option maxRecDepth 20000 in
theorem t_X11_named_20 {L : Lay} (hL : LY L) {p0 : Int32}  {K20 : Int32 → Int32 → Int32 → Mem → Prop} {v2 : Int32} {v3 : Int32} {v4 : Int32}  {M : Mem} {Q : Int32 → Mem → Prop} (hw : w_X11_named_20 L p0 K20 v2 v3 v4 M Q) (hK20 : ∀ (v2 : Int32) (v3 : Int32) (v4 : Int32) (M : Mem), K20 v2 v3 v4 M → X (FM (QI L Q)) RX11 cX11_named (some .int) 5 "named" 3 0 0 (L, M) 20 [junk, .int p0, .int v2, .int v3, .int v4] []) : X (FM (QI L Q)) RX11 cX11_named (some .int) 5 "named" 3 0 0 (L, M) 20 [junk, .int p0, .int v2, .int v3, .int v4] [] := by
  unfold w_X11_named_20 at hw
  refine X_iload 22 dX11_named_20 rfl rfl ?_
  refine X_bipush 24 (v := 10) dX11_named_22 rfl rfl ?_
  refine X_icmp_ge 54 27 dX11_named_24 rfl rfl (fun c5 => ?_) (fun c5 => ?_)
  · have hw := hw.2 c5
    refine X_iconst 55 (v := -1) dX11_named_54 rfl rfl ?_
    exact X_ret rfl rfl dX11_named_55 ⟨_, _, rfl, rfl, hw⟩
  · have hw := hw.1 c5
    refine X_iload_n 28 dX11_named_27 rfl rfl ?_
    refine X_iload 30 dX11_named_28 rfl rfl ?_
    refine Y_ishr 31 dX11_named_30 rfl ?_
    refine X_iconst 32 (v := 1) dX11_named_31 rfl rfl ?_
    refine X_iand 33 dX11_named_32 rfl ?_
    refine X_iconst 34 (v := 1) dX11_named_33 rfl rfl ?_
    refine X_icmp_ne 48 37 dX11_named_34 rfl rfl (fun c6 => ?_) (fun c6 => ?_)
    · have hw := hw.2 c6
      obtain ⟨x7, ex7⟩ : ∃ x7 : Int32, x7 = v4 + (1 : Int32) := ⟨_, rfl⟩
      have hw := hw x7 ex7
      refine X_iinc 51 (v := x7) (ls' := [junk, .int p0, .int v2, .int v3, .int x7]) dX11_named_48 rfl rfl (by rw [ex7]; rfl) rfl (Or.inr (Or.inr ⟨_, rfl, rfl⟩)) ?_
      refine X_goto 20 dX11_named_51 rfl ?_
      exact hK20 v2 v3 x7 M hw
    · have hw := hw.1 c6
      refine X_iload_n 38 dX11_named_37 rfl rfl ?_
      refine X_iload_n 39 dX11_named_38 rfl rfl ?_
      refine X_icmp_ne 45 42 dX11_named_39 rfl rfl (fun c8 => ?_) (fun c8 => ?_)
      · have hw := hw.2 c8
        obtain ⟨x9, ex9⟩ : ∃ x9 : Int32, x9 = v3 + (1 : Int32) := ⟨_, rfl⟩
        have hw := hw x9 ex9
        refine X_iinc 48 (v := x9) (ls' := [junk, .int p0, .int v2, .int x9, .int v4]) dX11_named_45 rfl rfl (by rw [ex9]; rfl) rfl (Or.inr (Or.inr ⟨_, rfl, rfl⟩)) ?_
        obtain ⟨x10, ex10⟩ : ∃ x10 : Int32, x10 = v4 + (1 : Int32) := ⟨_, rfl⟩
        have hw := hw x10 ex10
        refine X_iinc 51 (v := x10) (ls' := [junk, .int p0, .int v2, .int x9, .int x10]) dX11_named_48 rfl rfl (by rw [ex10]; rfl) rfl (Or.inr (Or.inr ⟨_, rfl, rfl⟩)) ?_
        refine X_goto 20 dX11_named_51 rfl ?_
        exact hK20 v2 x9 x10 M hw
      · have hw := hw.1 c8
        refine X_iload 44 dX11_named_42 rfl rfl ?_
        exact X_ret rfl rfl dX11_named_44 ⟨_, _, rfl, rfl, hw⟩
def w_X11_named (L : Lay) (p0 : Int32) (M : Mem) (Q : Int32 → Mem → Prop) : Prop := w_X10_barNow L 1 M (fun x2 M1 => (w_X8_inEachFewest L x2 M1 (fun x4 M3 => (LP4 (fun K20 v2 v3 v4 M => w_X11_named_20 L p0  K20 v2 v3 v4 M Q) x4 (0 : Int32) (0 : Int32) M3))))
set_option maxRecDepth 20000 in
theorem s_X11_named {L : Lay} (hL : LY L) {p0 : Int32}  {M : Mem} {Q : Int32 → Mem → Prop} (hw : w_X11_named L p0 M Q) : MX yX11_named cX11_named (some .int) 5 3 0 0 [.ref 0, .int p0] (L, M) (QI L Q) := by
  unfold w_X11_named at hw
  refine MX_of (by decide) [.ref 0, .int p0, junk, junk, junk] (by rfl) (by exact Nat.le_of_ble_eq_true rfl) ?_
  show X (FM (QI L Q)) RX11 cX11_named (some .int) 5 "named" 3 0 0 (L, M) 0 [.ref 0, .int p0, junk, junk, junk] []
  refine X_aload_n 1 dX11_named_0 rfl rfl ?_
  refine X_getR 4 f_X11_43 (hL.ob (c := 11) (by decide) rfl) rfl (hL.rr (by decide) rfl) dX11_named_1 rfl ?_
  refine X_aload_n 5 dX11_named_4 rfl rfl ?_
  refine X_getR 8 f_X11_10 (hL.ob (c := 11) (by decide) rfl) rfl (hL.rr (by decide) rfl) dX11_named_5 rfl ?_
  refine Y_cVI 11 (as := []) m_X11_227 (s_X10_barNow hL (Or.inl rfl) hw) (hL.W (Or.inl rfl)) rfl (by decide) (Nat.le_of_ble_eq_true rfl) dX11_named_8 rfl rfl (fun x2 M1 hw => ?_)
  refine Y_cVI 14 (as := [.int x2]) m_X11_231 (s_X8_inEachFewest hL  hw) (hL.ob (c := 8) (by decide) rfl) rfl (by decide) (Nat.le_of_ble_eq_true rfl) dX11_named_11 rfl rfl (fun x4 M3 hw => ?_)
  refine X_istore_n 15 (ls' := [.ref 0, .int p0, .int x4, junk, junk]) dX11_named_14 rfl rfl (Nat.le_of_ble_eq_true rfl) rfl (Or.inr (Or.inr ⟨_, rfl, rfl⟩)) ?_
  refine X_iconst 16 (v := 0) dX11_named_15 rfl rfl ?_
  refine X_istore_n 17 (ls' := [.ref 0, .int p0, .int x4, .int (0 : Int32), junk]) dX11_named_16 rfl rfl (Nat.le_of_ble_eq_true rfl) rfl (Or.inr (Or.inr ⟨_, rfl, rfl⟩)) ?_
  refine X_iconst 18 (v := 0) dX11_named_17 rfl rfl ?_
  refine X_istore 20 (ls' := [.ref 0, .int p0, .int x4, .int (0 : Int32), .int (0 : Int32)]) dX11_named_18 rfl (Nat.le_of_ble_eq_true rfl) rfl (Or.inr (Or.inr ⟨_, rfl, rfl⟩)) ?_
  refine X_weak (ls' := [junk, .int p0, .int x4, .int (0 : Int32), .int (0 : Int32)]) (WK.j (WK.s (WK.s (WK.s (WK.s WK.n))))) (Nat.le_of_ble_eq_true rfl) ?_
  exact LP4_s hw (G := fun v2 v3 v4 M => X (FM (QI L Q)) RX11 cX11_named (some .int) 5 "named" 3 0 0 (L, M) 20 [junk, .int p0, .int v2, .int v3, .int v4] []) (fun K20 v2 v3 v4 M hb hK => t_X11_named_20 hL  hb  hK)
def w_X11_runTrial_30 (L : Lay) (p0 : Int32) (p1 : Int32) (p2 : Int32) (K30 : Int32 → Mem → Prop) (v4 : Int32) (M : Mem) (Q : Mem → Prop) : Prop := ((v4 < p2 → ((((mi M 36 0) < (720 : Int32) → (w_X11_windOf L ((mi M 36 0) + (1 : Int32)) M (fun x7 M6 => (w_X10_passDay L 36 x7 M6 (fun M8 => (∀ x9 : Int32, x9 = v4 + (1 : Int32) → (K30 x9 M8))))))) ∧ (¬ (mi M 36 0) < (720 : Int32) → (Q M))))) ∧ (¬ v4 < p2 → (Q M)))
set_option maxRecDepth 20000 in
theorem t_X11_runTrial_30 {L : Lay} (hL : LY L) {p0 : Int32} {p1 : Int32} {p2 : Int32}  {K30 : Int32 → Mem → Prop} {v4 : Int32}  {M : Mem} {Q : Mem → Prop} (hw : w_X11_runTrial_30 L p0 p1 p2 K30 v4 M Q) (hK30 : ∀ (v4 : Int32) (M : Mem), K30 v4 M → X (FM (QV L Q)) RX11 cX11_runTrial none 5 "runTrial" 6 0 0 (L, M) 30 [.ref 0, junk, junk, .int p2, .int v4] []) : X (FM (QV L Q)) RX11 cX11_runTrial none 5 "runTrial" 6 0 0 (L, M) 30 [.ref 0, junk, junk, .int p2, .int v4] [] := by
  unfold w_X11_runTrial_30 at hw
  refine X_iload 32 dX11_runTrial_30 rfl rfl ?_
  refine X_iload_n 33 dX11_runTrial_32 rfl rfl ?_
  refine X_icmp_ge 75 36 dX11_runTrial_33 rfl rfl (fun c4 => ?_) (fun c4 => ?_)
  · have hw := hw.2 c4
    exact X_retV rfl dX11_runTrial_75 ⟨_, rfl, rfl, hw⟩
  · have hw := hw.1 c4
    refine X_aload_n 37 dX11_runTrial_36 rfl rfl ?_
    refine X_getR 40 f_X11_16 (hL.ob (c := 11) (by decide) rfl) rfl (hL.rr (by decide) rfl) dX11_runTrial_37 rfl ?_
    refine X_getI 43 f_X11_107 (hL.W (Or.inr rfl)) rfl dX11_runTrial_40 rfl ?_
    refine X_sipush 46 (v := 720) dX11_runTrial_43 rfl rfl ?_
    refine X_icmp_ge 75 49 dX11_runTrial_46 rfl rfl (fun c5 => ?_) (fun c5 => ?_)
    · have hw := hw.2 c5
      exact X_retV rfl dX11_runTrial_75 ⟨_, rfl, rfl, hw⟩
    · have hw := hw.1 c5
      refine X_aload_n 50 dX11_runTrial_49 rfl rfl ?_
      refine X_getR 53 f_X11_16 (hL.ob (c := 11) (by decide) rfl) rfl (hL.rr (by decide) rfl) dX11_runTrial_50 rfl ?_
      refine X_aload_n 54 dX11_runTrial_53 rfl rfl ?_
      refine X_aload_n 55 dX11_runTrial_54 rfl rfl ?_
      refine X_getR 58 f_X11_16 (hL.ob (c := 11) (by decide) rfl) rfl (hL.rr (by decide) rfl) dX11_runTrial_55 rfl ?_
      refine X_getI 61 f_X11_107 (hL.W (Or.inr rfl)) rfl dX11_runTrial_58 rfl ?_
      refine X_iconst 62 (v := 1) dX11_runTrial_61 rfl rfl ?_
      refine X_iadd 63 dX11_runTrial_62 rfl ?_
      refine Y_cVI 66 (as := [.int (((mi M 36 0) + (1 : Int32)))]) m_X11_161 (s_X11_windOf hL  hw) (hL.ob (c := 11) (by decide) rfl) rfl (by decide) (Nat.le_of_ble_eq_true rfl) dX11_runTrial_63 rfl rfl (fun x7 M6 hw => ?_)
      refine Y_cVV 69 (as := [.int x7]) m_X11_165 (s_X10_passDay hL (Or.inr rfl) hw) (hL.W (Or.inr rfl)) rfl (by decide) (Nat.le_of_ble_eq_true rfl) dX11_runTrial_66 rfl rfl (fun M8 hw => ?_)
      obtain ⟨x9, ex9⟩ : ∃ x9 : Int32, x9 = v4 + (1 : Int32) := ⟨_, rfl⟩
      have hw := hw x9 ex9
      refine X_iinc 72 (v := x9) (ls' := [.ref 0, junk, junk, .int p2, .int x9]) dX11_runTrial_69 rfl rfl (by rw [ex9]; rfl) rfl (Or.inr (Or.inr ⟨_, rfl, rfl⟩)) ?_
      refine X_goto 30 dX11_runTrial_72 rfl ?_
      exact hK30 x9 M8 hw
def w_X11_runTrial (L : Lay) (p0 : Int32) (p1 : Int32) (p2 : Int32) (M : Mem) (Q : Mem → Prop) : Prop := w_X10_copyFrom L 36 1 M (fun M1 => (w_X10_setBreakers L 36 p0 M1 (fun M2 => (∀ M3 : Mem, M3 = si M2 36 14 p1 → (LP2 (fun K30 v4 M => w_X11_runTrial_30 L p0 p1 p2  K30 v4 M Q) (0 : Int32) M3)))))
set_option maxRecDepth 20000 in
theorem s_X11_runTrial {L : Lay} (hL : LY L) {p0 : Int32} {p1 : Int32} {p2 : Int32}  {M : Mem} {Q : Mem → Prop} (hw : w_X11_runTrial L p0 p1 p2 M Q) : MX yX11_runTrial cX11_runTrial none 5 6 0 0 [.ref 0, .int p0, .int p1, .int p2] (L, M) (QV L Q) := by
  unfold w_X11_runTrial at hw
  refine MX_of (by decide) [.ref 0, .int p0, .int p1, .int p2, junk] (by rfl) (by exact Nat.le_of_ble_eq_true rfl) ?_
  show X (FM (QV L Q)) RX11 cX11_runTrial none 5 "runTrial" 6 0 0 (L, M) 0 [.ref 0, .int p0, .int p1, .int p2, junk] []
  refine X_aload_n 1 dX11_runTrial_0 rfl rfl ?_
  refine X_getR 4 f_X11_16 (hL.ob (c := 11) (by decide) rfl) rfl (hL.rr (by decide) rfl) dX11_runTrial_1 rfl ?_
  refine X_aload_n 5 dX11_runTrial_4 rfl rfl ?_
  refine X_getR 8 f_X11_10 (hL.ob (c := 11) (by decide) rfl) rfl (hL.rr (by decide) rfl) dX11_runTrial_5 rfl ?_
  refine Y_cVV 11 (as := [.ref 1]) m_X11_256 (s_X10_copyFrom hL (Or.inr rfl) (Or.inl rfl) hw) (hL.W (Or.inr rfl)) rfl (by decide) (Nat.le_of_ble_eq_true rfl) dX11_runTrial_8 rfl rfl (fun M1 hw => ?_)
  refine X_aload_n 12 dX11_runTrial_11 rfl rfl ?_
  refine X_getR 15 f_X11_16 (hL.ob (c := 11) (by decide) rfl) rfl (hL.rr (by decide) rfl) dX11_runTrial_12 rfl ?_
  refine X_iload_n 16 dX11_runTrial_15 rfl rfl ?_
  refine Y_cVV 19 (as := [.int p0]) m_X11_326 (s_X10_setBreakers hL (Or.inr rfl) hw) (hL.W (Or.inr rfl)) rfl (by decide) (Nat.le_of_ble_eq_true rfl) dX11_runTrial_16 rfl rfl (fun M2 hw => ?_)
  refine X_aload_n 20 dX11_runTrial_19 rfl rfl ?_
  refine X_getR 23 f_X11_16 (hL.ob (c := 11) (by decide) rfl) rfl (hL.rr (by decide) rfl) dX11_runTrial_20 rfl ?_
  refine X_iload_n 24 dX11_runTrial_23 rfl rfl ?_
  refine X_putI 27 f_X11_329 (Or.inl rfl) (hL.W (Or.inr rfl)) rfl dX11_runTrial_24 rfl ?_
  refine X_nmM (fun M3 eM3 => ?_)
  have hw := hw M3 eM3
  refine X_iconst 28 (v := 0) dX11_runTrial_27 rfl rfl ?_
  refine X_istore 30 (ls' := [.ref 0, .int p0, .int p1, .int p2, .int (0 : Int32)]) dX11_runTrial_28 rfl (Nat.le_of_ble_eq_true rfl) rfl (Or.inr (Or.inr ⟨_, rfl, rfl⟩)) ?_
  refine X_weak (ls' := [.ref 0, junk, junk, .int p2, .int (0 : Int32)]) (WK.s (WK.j (WK.j (WK.s (WK.s WK.n))))) (Nat.le_of_ble_eq_true rfl) ?_
  exact LP2_s hw (G := fun v4 M => X (FM (QV L Q)) RX11 cX11_runTrial none 5 "runTrial" 6 0 0 (L, M) 30 [.ref 0, junk, junk, .int p2, .int v4] []) (fun K30 v4 M hb hK => t_X11_runTrial_30 hL  hb  hK)
def w_X11_whatIf_26 (L : Lay) (p0 : Int32) (p1 : Int32) (p2 : Int32)   (M : Mem) (Q : Int32 → Mem → Prop) : Prop := False
set_option maxRecDepth 20000 in
theorem t_X11_whatIf_26 {L : Lay} (hL : LY L) {p0 : Int32} {p1 : Int32} {p2 : Int32}     {M : Mem} {Q : Int32 → Mem → Prop} (hw : w_X11_whatIf_26 L p0 p1 p2   M Q)  : X (FM (QI L Q)) RX11 cX11_whatIf (some .int) 4 "whatIf" 7 0 0 (L, M) 26 [junk, junk, junk, junk] [] := by
  unfold w_X11_whatIf_26 at hw
  exact hw.elim
def w_X11_whatIf (L : Lay) (p0 : Int32) (p1 : Int32) (p2 : Int32) (M : Mem) (Q : Int32 → Mem → Prop) : Prop := w_X11_isSet L p0 M (fun x2 M1 => (((x2 = 0 → (w_X11_whatIf_26 L p0 p1 p2   M1 Q)) ∧ (¬ x2 = 0 → (w_X11_isOwner L p1 M1 (fun x5 M4 => (((x5 = 0 → (w_X11_whatIf_26 L p0 p1 p2   M4 Q)) ∧ (¬ x5 = 0 → (w_X11_isWithin L p2 (0 : Int32) (60 : Int32) M4 (fun x8 M7 => (((x8 = 0 → (w_X11_whatIf_26 L p0 p1 p2   M7 Q)) ∧ (¬ x8 = 0 → (w_X11_runTrial L p0 (-1 : Int32) p2 M7 (fun M10 => (vp_in p1 10 ∧ (Q ((mi M10 (oA 36 (tn p1)) 9) - (mi M10 (oA 1 (tn p1)) 9)) M10))))))))))))))))))
set_option maxRecDepth 20000 in
theorem s_X11_whatIf {L : Lay} (hL : LY L) {p0 : Int32} {p1 : Int32} {p2 : Int32}  {M : Mem} {Q : Int32 → Mem → Prop} (hw : w_X11_whatIf L p0 p1 p2 M Q) : MX yX11_whatIf cX11_whatIf (some .int) 4 7 0 0 [.ref 0, .int p0, .int p1, .int p2] (L, M) (QI L Q) := by
  unfold w_X11_whatIf at hw
  refine MX_of (by decide) [.ref 0, .int p0, .int p1, .int p2] (by rfl) (by exact Nat.le_of_ble_eq_true rfl) ?_
  show X (FM (QI L Q)) RX11 cX11_whatIf (some .int) 4 "whatIf" 7 0 0 (L, M) 0 [.ref 0, .int p0, .int p1, .int p2] []
  refine X_aload_n 1 dX11_whatIf_0 rfl rfl ?_
  refine X_iload_n 2 dX11_whatIf_1 rfl rfl ?_
  refine Y_cVZ 5 (as := [.int p0]) m_X11_222 (s_X11_isSet hL  hw) (hL.ob (c := 11) (by decide) rfl) rfl (by decide) (Nat.le_of_ble_eq_true rfl) dX11_whatIf_2 rfl rfl (fun x2 M1 bx2 hw => ?_)
  refine X_if_eq 26 8 (y := 0) dX11_whatIf_5 rfl rfl (fun c3 => ?_) (fun c3 => ?_)
  · have hw := hw.1 c3
    refine X_weak (ls' := [junk, junk, junk, junk]) (WK.j (WK.j (WK.j (WK.j WK.n)))) (Nat.le_of_ble_eq_true rfl) ?_
    exact t_X11_whatIf_26 hL   hw 
  · have hw := hw.2 c3
    refine X_aload_n 9 dX11_whatIf_8 rfl rfl ?_
    refine X_iload_n 10 dX11_whatIf_9 rfl rfl ?_
    refine Y_cVZ 13 (as := [.int p1]) m_X11_81 (s_X11_isOwner hL  hw) (hL.ob (c := 11) (by decide) rfl) rfl (by decide) (Nat.le_of_ble_eq_true rfl) dX11_whatIf_10 rfl rfl (fun x5 M4 bx5 hw => ?_)
    refine X_if_eq 26 16 (y := 0) dX11_whatIf_13 rfl rfl (fun c6 => ?_) (fun c6 => ?_)
    · have hw := hw.1 c6
      refine X_weak (ls' := [junk, junk, junk, junk]) (WK.j (WK.j (WK.j (WK.j WK.n)))) (Nat.le_of_ble_eq_true rfl) ?_
      exact t_X11_whatIf_26 hL   hw 
    · have hw := hw.2 c6
      refine X_iload_n 17 dX11_whatIf_16 rfl rfl ?_
      refine X_iconst 18 (v := 0) dX11_whatIf_17 rfl rfl ?_
      refine X_bipush 20 (v := 60) dX11_whatIf_18 rfl rfl ?_
      refine Y_cSZ 23 (as := [.int p2, .int (0 : Int32), .int (60 : Int32)]) m_X11_55 (s_X11_isWithin hL  hw) rfl (by decide) (Nat.le_of_ble_eq_true rfl) dX11_whatIf_20 rfl rfl (fun x8 M7 bx8 hw => ?_)
      refine X_if_ne 36 26 (y := 0) dX11_whatIf_23 rfl rfl (fun c9 => ?_) (fun c9 => ?_)
      · have hw := hw.2 c9
        refine X_aload_n 37 dX11_whatIf_36 rfl rfl ?_
        refine X_iload_n 38 dX11_whatIf_37 rfl rfl ?_
        refine X_iconst 39 (v := -1) dX11_whatIf_38 rfl rfl ?_
        refine X_iload_n 40 dX11_whatIf_39 rfl rfl ?_
        refine Y_cVV 43 (as := [.int p0, .int (-1 : Int32), .int p2]) m_X11_241 (s_X11_runTrial hL  hw) (hL.ob (c := 11) (by decide) rfl) rfl (by decide) (Nat.le_of_ble_eq_true rfl) dX11_whatIf_40 rfl rfl (fun M10 hw => ?_)
        refine X_aload_n 44 dX11_whatIf_43 rfl rfl ?_
        refine X_getR 47 f_X11_16 (hL.ob (c := 11) (by decide) rfl) rfl (hL.rr (by decide) rfl) dX11_whatIf_44 rfl ?_
        refine X_getR 50 f_X11_63 (hL.W (Or.inr rfl)) rfl (hL.wrr (Or.inr rfl) (k := 0) (x := 1) rfl rfl (by decide)) dX11_whatIf_47 rfl ?_
        refine X_iload_n 51 dX11_whatIf_50 rfl rfl ?_
        obtain ⟨c11, hw⟩ := hw
        refine X_aald 52 (Nat.le_refl 5) (by decide) (hL.war (Or.inr rfl) (k := 1) (t := 5) (n := 10) rfl rfl (by decide)) c11 (hL.ownr (Or.inr rfl) (vp_lt c11)) dX11_whatIf_51 rfl ?_
        refine X_getI 55 f_X11_219 (hL.own (Or.inr rfl) (vp_lt c11)) rfl dX11_whatIf_52 rfl ?_
        refine X_aload_n 56 dX11_whatIf_55 rfl rfl ?_
        refine X_getR 59 f_X11_10 (hL.ob (c := 11) (by decide) rfl) rfl (hL.rr (by decide) rfl) dX11_whatIf_56 rfl ?_
        refine X_getR 62 f_X11_63 (hL.W (Or.inl rfl)) rfl (hL.wrr (Or.inl rfl) (k := 0) (x := 1) rfl rfl (by decide)) dX11_whatIf_59 rfl ?_
        refine X_iload_n 63 dX11_whatIf_62 rfl rfl ?_
        refine X_aald 64 (Nat.le_refl 5) (by decide) (hL.war (Or.inl rfl) (k := 1) (t := 5) (n := 10) rfl rfl (by decide)) c11 (hL.ownr (Or.inl rfl) (vp_lt c11)) dX11_whatIf_63 rfl ?_
        refine X_getI 67 f_X11_219 (hL.own (Or.inl rfl) (vp_lt c11)) rfl dX11_whatIf_64 rfl ?_
        refine X_isub 68 dX11_whatIf_67 rfl ?_
        exact X_ret rfl rfl dX11_whatIf_68 ⟨_, _, rfl, rfl, hw⟩
      · have hw := hw.1 c9
        refine X_weak (ls' := [junk, junk, junk, junk]) (WK.j (WK.j (WK.j (WK.j WK.n)))) (Nat.le_of_ble_eq_true rfl) ?_
        exact t_X11_whatIf_26 hL   hw 
def w_X11_tempted (L : Lay) (p0 : Int32) (p1 : Int32) (p2 : Int32) (M : Mem) (Q : Int32 → Mem → Prop) : Prop := w_X11_isSet L p0 M (fun x2 M1 => (((x2 = 0 → (Q (-1 : Int32) M1)) ∧ (¬ x2 = 0 → (w_X11_isOwner L p1 M1 (fun x5 M4 => (((x5 = 0 → (Q (-1 : Int32) M4)) ∧ (¬ x5 = 0 → (w_X11_isWithin L p2 (0 : Int32) (60 : Int32) M4 (fun x8 M7 => (((x8 = 0 → (Q (-1 : Int32) M7)) ∧ (¬ x8 = 0 → (w_X11_runTrial L (p0 &&& ((jshl (1 : Int32) p1) ^^^ (-1 : Int32))) (-1 : Int32) p2 M7 (fun M10 => (vp_in p1 10 ∧ (∀ x12 : Int32, x12 = (mi M10 (oA 36 (tn p1)) 9) → (w_X11_runTrial L (p0 ||| (jshl (1 : Int32) p1)) (-1 : Int32) p2 M10 (fun M13 => (∀ x14 : Int32, x14 = (if x12 < (mi M13 (oA 36 (tn p1)) 9) then (1 : Int32) else (0 : Int32)) → (Q x14 M13))))))))))))))))))))))
set_option maxRecDepth 20000 in
theorem s_X11_tempted {L : Lay} (hL : LY L) {p0 : Int32} {p1 : Int32} {p2 : Int32}  {M : Mem} {Q : Int32 → Mem → Prop} (hw : w_X11_tempted L p0 p1 p2 M Q) : MX yX11_tempted cX11_tempted (some .int) 5 7 0 0 [.ref 0, .int p0, .int p1, .int p2] (L, M) (QI L Q) := by
  unfold w_X11_tempted at hw
  refine MX_of (by decide) [.ref 0, .int p0, .int p1, .int p2, junk] (by rfl) (by exact Nat.le_of_ble_eq_true rfl) ?_
  show X (FM (QI L Q)) RX11 cX11_tempted (some .int) 5 "tempted" 7 0 0 (L, M) 0 [.ref 0, .int p0, .int p1, .int p2, junk] []
  refine X_aload_n 1 dX11_tempted_0 rfl rfl ?_
  refine X_iload_n 2 dX11_tempted_1 rfl rfl ?_
  refine Y_cVZ 5 (as := [.int p0]) m_X11_222 (s_X11_isSet hL  hw) (hL.ob (c := 11) (by decide) rfl) rfl (by decide) (Nat.le_of_ble_eq_true rfl) dX11_tempted_2 rfl rfl (fun x2 M1 bx2 hw => ?_)
  refine X_if_eq 26 8 (y := 0) dX11_tempted_5 rfl rfl (fun c3 => ?_) (fun c3 => ?_)
  · have hw := hw.1 c3
    refine X_iconst 27 (v := -1) dX11_tempted_26 rfl rfl ?_
    exact X_ret rfl rfl dX11_tempted_27 ⟨_, _, rfl, rfl, hw⟩
  · have hw := hw.2 c3
    refine X_aload_n 9 dX11_tempted_8 rfl rfl ?_
    refine X_iload_n 10 dX11_tempted_9 rfl rfl ?_
    refine Y_cVZ 13 (as := [.int p1]) m_X11_81 (s_X11_isOwner hL  hw) (hL.ob (c := 11) (by decide) rfl) rfl (by decide) (Nat.le_of_ble_eq_true rfl) dX11_tempted_10 rfl rfl (fun x5 M4 bx5 hw => ?_)
    refine X_if_eq 26 16 (y := 0) dX11_tempted_13 rfl rfl (fun c6 => ?_) (fun c6 => ?_)
    · have hw := hw.1 c6
      refine X_iconst 27 (v := -1) dX11_tempted_26 rfl rfl ?_
      exact X_ret rfl rfl dX11_tempted_27 ⟨_, _, rfl, rfl, hw⟩
    · have hw := hw.2 c6
      refine X_iload_n 17 dX11_tempted_16 rfl rfl ?_
      refine X_iconst 18 (v := 0) dX11_tempted_17 rfl rfl ?_
      refine X_bipush 20 (v := 60) dX11_tempted_18 rfl rfl ?_
      refine Y_cSZ 23 (as := [.int p2, .int (0 : Int32), .int (60 : Int32)]) m_X11_55 (s_X11_isWithin hL  hw) rfl (by decide) (Nat.le_of_ble_eq_true rfl) dX11_tempted_20 rfl rfl (fun x8 M7 bx8 hw => ?_)
      refine X_if_ne 28 26 (y := 0) dX11_tempted_23 rfl rfl (fun c9 => ?_) (fun c9 => ?_)
      · have hw := hw.2 c9
        refine X_aload_n 29 dX11_tempted_28 rfl rfl ?_
        refine X_iload_n 30 dX11_tempted_29 rfl rfl ?_
        refine X_iconst 31 (v := 1) dX11_tempted_30 rfl rfl ?_
        refine X_iload_n 32 dX11_tempted_31 rfl rfl ?_
        refine Y_ishl 33 dX11_tempted_32 rfl ?_
        refine X_iconst 34 (v := -1) dX11_tempted_33 rfl rfl ?_
        refine X_ixor 35 dX11_tempted_34 rfl ?_
        refine X_iand 36 dX11_tempted_35 rfl ?_
        refine X_iconst 37 (v := -1) dX11_tempted_36 rfl rfl ?_
        refine X_iload_n 38 dX11_tempted_37 rfl rfl ?_
        refine Y_cVV 41 (as := [.int ((p0 &&& ((jshl (1 : Int32) p1) ^^^ (-1 : Int32)))), .int (-1 : Int32), .int p2]) m_X11_241 (s_X11_runTrial hL  hw) (hL.ob (c := 11) (by decide) rfl) rfl (by decide) (Nat.le_of_ble_eq_true rfl) dX11_tempted_38 rfl rfl (fun M10 hw => ?_)
        refine X_aload_n 42 dX11_tempted_41 rfl rfl ?_
        refine X_getR 45 f_X11_16 (hL.ob (c := 11) (by decide) rfl) rfl (hL.rr (by decide) rfl) dX11_tempted_42 rfl ?_
        refine X_getR 48 f_X11_63 (hL.W (Or.inr rfl)) rfl (hL.wrr (Or.inr rfl) (k := 0) (x := 1) rfl rfl (by decide)) dX11_tempted_45 rfl ?_
        refine X_iload_n 49 dX11_tempted_48 rfl rfl ?_
        obtain ⟨c11, hw⟩ := hw
        refine X_aald 50 (Nat.le_refl 5) (by decide) (hL.war (Or.inr rfl) (k := 1) (t := 5) (n := 10) rfl rfl (by decide)) c11 (hL.ownr (Or.inr rfl) (vp_lt c11)) dX11_tempted_49 rfl ?_
        refine X_getI 53 f_X11_219 (hL.own (Or.inr rfl) (vp_lt c11)) rfl dX11_tempted_50 rfl ?_
        refine X_nmI (fun x12 ex12 => ?_)
        have hw := hw x12 ex12
        refine X_istore 55 (ls' := [.ref 0, .int p0, .int p1, .int p2, .int x12]) dX11_tempted_53 rfl (Nat.le_of_ble_eq_true rfl) rfl (Or.inr (Or.inr ⟨_, rfl, rfl⟩)) ?_
        refine X_aload_n 56 dX11_tempted_55 rfl rfl ?_
        refine X_iload_n 57 dX11_tempted_56 rfl rfl ?_
        refine X_iconst 58 (v := 1) dX11_tempted_57 rfl rfl ?_
        refine X_iload_n 59 dX11_tempted_58 rfl rfl ?_
        refine Y_ishl 60 dX11_tempted_59 rfl ?_
        refine X_ior 61 dX11_tempted_60 rfl ?_
        refine X_iconst 62 (v := -1) dX11_tempted_61 rfl rfl ?_
        refine X_iload_n 63 dX11_tempted_62 rfl rfl ?_
        refine Y_cVV 66 (as := [.int ((p0 ||| (jshl (1 : Int32) p1))), .int (-1 : Int32), .int p2]) m_X11_241 (s_X11_runTrial hL  hw) (hL.ob (c := 11) (by decide) rfl) rfl (by decide) (Nat.le_of_ble_eq_true rfl) dX11_tempted_63 rfl rfl (fun M13 hw => ?_)
        refine X_aload_n 67 dX11_tempted_66 rfl rfl ?_
        refine X_getR 70 f_X11_16 (hL.ob (c := 11) (by decide) rfl) rfl (hL.rr (by decide) rfl) dX11_tempted_67 rfl ?_
        refine X_getR 73 f_X11_63 (hL.W (Or.inr rfl)) rfl (hL.wrr (Or.inr rfl) (k := 0) (x := 1) rfl rfl (by decide)) dX11_tempted_70 rfl ?_
        refine X_iload_n 74 dX11_tempted_73 rfl rfl ?_
        refine X_aald 75 (Nat.le_refl 5) (by decide) (hL.war (Or.inr rfl) (k := 1) (t := 5) (n := 10) rfl rfl (by decide)) c11 (hL.ownr (Or.inr rfl) (vp_lt c11)) dX11_tempted_74 rfl ?_
        refine X_getI 78 f_X11_219 (hL.own (Or.inr rfl) (vp_lt c11)) rfl dX11_tempted_75 rfl ?_
        refine X_iload 80 dX11_tempted_78 rfl rfl ?_
        obtain ⟨x14, ex14⟩ : ∃ x14 : Int32, x14 = (if x12 < (mi M13 (oA 36 (tn p1)) 9) then (1 : Int32) else (0 : Int32)) := ⟨_, rfl⟩
        have hw := hw x14 ex14
        have bx14 : BZ x14 := by rw [ex14]; (repeat' split) <;> first | exact Or.inl rfl | exact Or.inr rfl
        have hJ : X (FM (QI L Q)) RX11 cX11_tempted (some .int) 5 "tempted" 7 0 0 (L, M13) 88 [.ref 0, .int p0, .int p1, .int p2, .int x12] [.int x14] := by
          exact X_ret rfl rfl dX11_tempted_88 ⟨_, _, rfl, rfl, hw⟩
        refine X_icmp_le 87 83 dX11_tempted_80 rfl rfl (fun c15 => ?_) (fun c15 => ?_)
        · refine X_iconst 88 (v := 0) dX11_tempted_87 rfl rfl ?_
          rw [if_neg c15] at ex14
          rw [ex14] at hJ
          exact hJ
        · refine X_iconst 84 (v := 1) dX11_tempted_83 rfl rfl ?_
          refine X_goto 88 dX11_tempted_84 rfl ?_
          rw [if_pos c15] at ex14
          rw [ex14] at hJ
          exact hJ
      · have hw := hw.1 c9
        refine X_iconst 27 (v := -1) dX11_tempted_26 rfl rfl ?_
        exact X_ret rfl rfl dX11_tempted_27 ⟨_, _, rfl, rfl, hw⟩
def w_X11_leastTempted_46 (L : Lay) (p0 : Int32) (p1 : Int32) (K46 : Int32 → Mem → Prop) (v3 : Int32) (M : Mem) (Q : Int32 → Mem → Prop) : Prop := ((v3 < (mi M 1 2) → (((((jshr p0 v3) &&& (1 : Int32)) = 0 → (w_X11_runTrial L (p0 ||| (jshl (1 : Int32) v3)) (-1 : Int32) p1 M (fun M9 => (vp_in v3 10 ∧ ((((mi M9 91 (tn v3)) < (mi M9 (oA 36 (tn v3)) 9) → (Q v3 M9)) ∧ (¬ (mi M9 91 (tn v3)) < (mi M9 (oA 36 (tn v3)) 9) → (∀ x12 : Int32, x12 = v3 + (1 : Int32) → (K46 x12 M9))))))))) ∧ (¬ ((jshr p0 v3) &&& (1 : Int32)) = 0 → (∀ x8 : Int32, x8 = v3 + (1 : Int32) → (K46 x8 M)))))) ∧ (¬ v3 < (mi M 1 2) → (Q (-1 : Int32) M)))
set_option maxRecDepth 20000 in
theorem t_X11_leastTempted_46 {L : Lay} (hL : LY L) {p0 : Int32} {p1 : Int32}  {K46 : Int32 → Mem → Prop} {v3 : Int32}  {M : Mem} {Q : Int32 → Mem → Prop} (hw : w_X11_leastTempted_46 L p0 p1 K46 v3 M Q) (hK46 : ∀ (v3 : Int32) (M : Mem), K46 v3 M → X (FM (QI L Q)) RX11 cX11_leastTempted (some .int) 4 "leastTempted" 7 0 0 (L, M) 46 [.ref 0, .int p0, .int p1, .int v3] []) : X (FM (QI L Q)) RX11 cX11_leastTempted (some .int) 4 "leastTempted" 7 0 0 (L, M) 46 [.ref 0, .int p0, .int p1, .int v3] [] := by
  unfold w_X11_leastTempted_46 at hw
  refine X_iload_n 47 dX11_leastTempted_46 rfl rfl ?_
  refine X_aload_n 48 dX11_leastTempted_47 rfl rfl ?_
  refine X_getR 51 f_X11_10 (hL.ob (c := 11) (by decide) rfl) rfl (hL.rr (by decide) rfl) dX11_leastTempted_48 rfl ?_
  refine X_getI 54 f_X11_59 (hL.W (Or.inl rfl)) rfl dX11_leastTempted_51 rfl ?_
  refine X_icmp_ge 105 57 dX11_leastTempted_54 rfl rfl (fun c6 => ?_) (fun c6 => ?_)
  · have hw := hw.2 c6
    refine X_iconst 106 (v := -1) dX11_leastTempted_105 rfl rfl ?_
    exact X_ret rfl rfl dX11_leastTempted_106 ⟨_, _, rfl, rfl, hw⟩
  · have hw := hw.1 c6
    refine X_iload_n 58 dX11_leastTempted_57 rfl rfl ?_
    refine X_iload_n 59 dX11_leastTempted_58 rfl rfl ?_
    refine Y_ishr 60 dX11_leastTempted_59 rfl ?_
    refine X_iconst 61 (v := 1) dX11_leastTempted_60 rfl rfl ?_
    refine X_iand 62 dX11_leastTempted_61 rfl ?_
    refine X_if_ne 99 65 (y := 0) dX11_leastTempted_62 rfl rfl (fun c7 => ?_) (fun c7 => ?_)
    · have hw := hw.2 c7
      obtain ⟨x8, ex8⟩ : ∃ x8 : Int32, x8 = v3 + (1 : Int32) := ⟨_, rfl⟩
      have hw := hw x8 ex8
      refine X_iinc 102 (v := x8) (ls' := [.ref 0, .int p0, .int p1, .int x8]) dX11_leastTempted_99 rfl rfl (by rw [ex8]; rfl) rfl (Or.inr (Or.inr ⟨_, rfl, rfl⟩)) ?_
      refine X_goto 46 dX11_leastTempted_102 rfl ?_
      exact hK46 x8 M hw
    · have hw := hw.1 c7
      refine X_aload_n 66 dX11_leastTempted_65 rfl rfl ?_
      refine X_iload_n 67 dX11_leastTempted_66 rfl rfl ?_
      refine X_iconst 68 (v := 1) dX11_leastTempted_67 rfl rfl ?_
      refine X_iload_n 69 dX11_leastTempted_68 rfl rfl ?_
      refine Y_ishl 70 dX11_leastTempted_69 rfl ?_
      refine X_ior 71 dX11_leastTempted_70 rfl ?_
      refine X_iconst 72 (v := -1) dX11_leastTempted_71 rfl rfl ?_
      refine X_iload_n 73 dX11_leastTempted_72 rfl rfl ?_
      refine Y_cVV 76 (as := [.int ((p0 ||| (jshl (1 : Int32) v3))), .int (-1 : Int32), .int p1]) m_X11_241 (s_X11_runTrial hL  hw) (hL.ob (c := 11) (by decide) rfl) rfl (by decide) (Nat.le_of_ble_eq_true rfl) dX11_leastTempted_73 rfl rfl (fun M9 hw => ?_)
      refine X_aload_n 77 dX11_leastTempted_76 rfl rfl ?_
      refine X_getR 80 f_X11_16 (hL.ob (c := 11) (by decide) rfl) rfl (hL.rr (by decide) rfl) dX11_leastTempted_77 rfl ?_
      refine X_getR 83 f_X11_63 (hL.W (Or.inr rfl)) rfl (hL.wrr (Or.inr rfl) (k := 0) (x := 1) rfl rfl (by decide)) dX11_leastTempted_80 rfl ?_
      refine X_iload_n 84 dX11_leastTempted_83 rfl rfl ?_
      obtain ⟨c10, hw⟩ := hw
      refine X_aald 85 (Nat.le_refl 5) (by decide) (hL.war (Or.inr rfl) (k := 1) (t := 5) (n := 10) rfl rfl (by decide)) c10 (hL.ownr (Or.inr rfl) (vp_lt c10)) dX11_leastTempted_84 rfl ?_
      refine X_getI 88 f_X11_219 (hL.own (Or.inr rfl) (vp_lt c10)) rfl dX11_leastTempted_85 rfl ?_
      refine X_aload_n 89 dX11_leastTempted_88 rfl rfl ?_
      refine X_getR 92 f_X11_51 (hL.ob (c := 11) (by decide) rfl) rfl (hL.rr (by decide) rfl) dX11_leastTempted_89 rfl ?_
      refine X_iload_n 93 dX11_leastTempted_92 rfl rfl ?_
      refine Y_iald 94 (k := (tn v3)) (hL.ar (t := 0) (n := 10) (by decide) rfl) c10 rfl dX11_leastTempted_93 rfl ?_
      refine X_icmp_le 99 97 dX11_leastTempted_94 rfl rfl (fun c11 => ?_) (fun c11 => ?_)
      · have hw := hw.2 c11
        obtain ⟨x12, ex12⟩ : ∃ x12 : Int32, x12 = v3 + (1 : Int32) := ⟨_, rfl⟩
        have hw := hw x12 ex12
        refine X_iinc 102 (v := x12) (ls' := [.ref 0, .int p0, .int p1, .int x12]) dX11_leastTempted_99 rfl rfl (by rw [ex12]; rfl) rfl (Or.inr (Or.inr ⟨_, rfl, rfl⟩)) ?_
        refine X_goto 46 dX11_leastTempted_102 rfl ?_
        exact hK46 x12 M9 hw
      · have hw := hw.1 c11
        refine X_iload_n 98 dX11_leastTempted_97 rfl rfl ?_
        exact X_ret rfl rfl dX11_leastTempted_98 ⟨_, _, rfl, rfl, hw⟩
def w_X11_leastTempted_9 (L : Lay) (p0 : Int32) (p1 : Int32) (K9 : Int32 → Mem → Prop) (v3 : Int32) (M : Mem) (Q : Int32 → Mem → Prop) : Prop := ((v3 < (mi M 36 2) → (vp_in v3 10 ∧ (∀ M4 : Mem, M4 = si M 91 (tn v3) (mi M (oA 36 (tn v3)) 9) → (∀ x5 : Int32, x5 = v3 + (1 : Int32) → (K9 x5 M4))))) ∧ (¬ v3 < (mi M 36 2) → (LP2 (fun K46 v3 M => w_X11_leastTempted_46 L p0 p1  K46 v3 M Q) (0 : Int32) M)))
set_option maxRecDepth 20000 in
theorem t_X11_leastTempted_9 {L : Lay} (hL : LY L) {p0 : Int32} {p1 : Int32}  {K9 : Int32 → Mem → Prop} {v3 : Int32}  {M : Mem} {Q : Int32 → Mem → Prop} (hw : w_X11_leastTempted_9 L p0 p1 K9 v3 M Q) (hK9 : ∀ (v3 : Int32) (M : Mem), K9 v3 M → X (FM (QI L Q)) RX11 cX11_leastTempted (some .int) 4 "leastTempted" 7 0 0 (L, M) 9 [.ref 0, .int p0, .int p1, .int v3] []) : X (FM (QI L Q)) RX11 cX11_leastTempted (some .int) 4 "leastTempted" 7 0 0 (L, M) 9 [.ref 0, .int p0, .int p1, .int v3] [] := by
  unfold w_X11_leastTempted_9 at hw
  refine X_iload_n 10 dX11_leastTempted_9 rfl rfl ?_
  refine X_aload_n 11 dX11_leastTempted_10 rfl rfl ?_
  refine X_getR 14 f_X11_16 (hL.ob (c := 11) (by decide) rfl) rfl (hL.rr (by decide) rfl) dX11_leastTempted_11 rfl ?_
  refine X_getI 17 f_X11_59 (hL.W (Or.inr rfl)) rfl dX11_leastTempted_14 rfl ?_
  refine X_icmp_ge 44 20 dX11_leastTempted_17 rfl rfl (fun c2 => ?_) (fun c2 => ?_)
  · have hw := hw.2 c2
    refine X_iconst 45 (v := 0) dX11_leastTempted_44 rfl rfl ?_
    refine X_istore_n 46 (ls' := [.ref 0, .int p0, .int p1, .int (0 : Int32)]) dX11_leastTempted_45 rfl rfl (Nat.le_of_ble_eq_true rfl) rfl (Or.inr (Or.inr ⟨_, rfl, rfl⟩)) ?_
    exact LP2_s hw (G := fun v3 M => X (FM (QI L Q)) RX11 cX11_leastTempted (some .int) 4 "leastTempted" 7 0 0 (L, M) 46 [.ref 0, .int p0, .int p1, .int v3] []) (fun K46 v3 M hb hK => t_X11_leastTempted_46 hL  hb  hK)
  · have hw := hw.1 c2
    refine X_aload_n 21 dX11_leastTempted_20 rfl rfl ?_
    refine X_getR 24 f_X11_51 (hL.ob (c := 11) (by decide) rfl) rfl (hL.rr (by decide) rfl) dX11_leastTempted_21 rfl ?_
    refine X_iload_n 25 dX11_leastTempted_24 rfl rfl ?_
    refine X_aload_n 26 dX11_leastTempted_25 rfl rfl ?_
    refine X_getR 29 f_X11_16 (hL.ob (c := 11) (by decide) rfl) rfl (hL.rr (by decide) rfl) dX11_leastTempted_26 rfl ?_
    refine X_getR 32 f_X11_63 (hL.W (Or.inr rfl)) rfl (hL.wrr (Or.inr rfl) (k := 0) (x := 1) rfl rfl (by decide)) dX11_leastTempted_29 rfl ?_
    refine X_iload_n 33 dX11_leastTempted_32 rfl rfl ?_
    obtain ⟨c3, hw⟩ := hw
    refine X_aald 34 (Nat.le_refl 5) (by decide) (hL.war (Or.inr rfl) (k := 1) (t := 5) (n := 10) rfl rfl (by decide)) c3 (hL.ownr (Or.inr rfl) (vp_lt c3)) dX11_leastTempted_33 rfl ?_
    refine X_getI 37 f_X11_219 (hL.own (Or.inr rfl) (vp_lt c3)) rfl dX11_leastTempted_34 rfl ?_
    refine Y_iast 38 (k := (tn v3)) (hL.ar (t := 0) (n := 10) (by decide) rfl) c3 rfl dX11_leastTempted_37 rfl ?_
    refine X_nmM (fun M4 eM4 => ?_)
    have hw := hw M4 eM4
    obtain ⟨x5, ex5⟩ : ∃ x5 : Int32, x5 = v3 + (1 : Int32) := ⟨_, rfl⟩
    have hw := hw x5 ex5
    refine X_iinc 41 (v := x5) (ls' := [.ref 0, .int p0, .int p1, .int x5]) dX11_leastTempted_38 rfl rfl (by rw [ex5]; rfl) rfl (Or.inr (Or.inr ⟨_, rfl, rfl⟩)) ?_
    refine X_goto 9 dX11_leastTempted_41 rfl ?_
    exact hK9 x5 M4 hw
def w_X11_leastTempted (L : Lay) (p0 : Int32) (p1 : Int32) (M : Mem) (Q : Int32 → Mem → Prop) : Prop := w_X11_runTrial L p0 (-1 : Int32) p1 M (fun M1 => (LP2 (fun K9 v3 M => w_X11_leastTempted_9 L p0 p1  K9 v3 M Q) (0 : Int32) M1))
set_option maxRecDepth 20000 in
theorem s_X11_leastTempted {L : Lay} (hL : LY L) {p0 : Int32} {p1 : Int32}  {M : Mem} {Q : Int32 → Mem → Prop} (hw : w_X11_leastTempted L p0 p1 M Q) : MX yX11_leastTempted cX11_leastTempted (some .int) 4 7 0 0 [.ref 0, .int p0, .int p1] (L, M) (QI L Q) := by
  unfold w_X11_leastTempted at hw
  refine MX_of (by decide) [.ref 0, .int p0, .int p1, junk] (by rfl) (by exact Nat.le_of_ble_eq_true rfl) ?_
  show X (FM (QI L Q)) RX11 cX11_leastTempted (some .int) 4 "leastTempted" 7 0 0 (L, M) 0 [.ref 0, .int p0, .int p1, junk] []
  refine X_aload_n 1 dX11_leastTempted_0 rfl rfl ?_
  refine X_iload_n 2 dX11_leastTempted_1 rfl rfl ?_
  refine X_iconst 3 (v := -1) dX11_leastTempted_2 rfl rfl ?_
  refine X_iload_n 4 dX11_leastTempted_3 rfl rfl ?_
  refine Y_cVV 7 (as := [.int p0, .int (-1 : Int32), .int p1]) m_X11_241 (s_X11_runTrial hL  hw) (hL.ob (c := 11) (by decide) rfl) rfl (by decide) (Nat.le_of_ble_eq_true rfl) dX11_leastTempted_4 rfl rfl (fun M1 hw => ?_)
  refine X_iconst 8 (v := 0) dX11_leastTempted_7 rfl rfl ?_
  refine X_istore_n 9 (ls' := [.ref 0, .int p0, .int p1, .int (0 : Int32)]) dX11_leastTempted_8 rfl rfl (Nat.le_of_ble_eq_true rfl) rfl (Or.inr (Or.inr ⟨_, rfl, rfl⟩)) ?_
  exact LP2_s hw (G := fun v3 M => X (FM (QI L Q)) RX11 cX11_leastTempted (some .int) 4 "leastTempted" 7 0 0 (L, M) 9 [.ref 0, .int p0, .int p1, .int v3] []) (fun K9 v3 M hb hK => t_X11_leastTempted_9 hL  hb  hK)
def w_X11_slide_75 (L : Lay) (p0 : Int32) (p1 : Int32)  (v3 : Int32) (v4 : Int32) (M : Mem) (Q : Int32 → Mem → Prop) : Prop := ∀ x16 : Int32, x16 = (if p1 = 0 then v3 else v4) → (Q x16 M)
set_option maxRecDepth 20000 in
theorem t_X11_slide_75 {L : Lay} (hL : LY L) {p0 : Int32} {p1 : Int32}   {v3 : Int32} {v4 : Int32}  {M : Mem} {Q : Int32 → Mem → Prop} (hw : w_X11_slide_75 L p0 p1  v3 v4 M Q)  : X (FM (QI L Q)) RX11 cX11_slide (some .int) 7 "slide" 8 0 0 (L, M) 75 [junk, junk, .int p1, .int v3, .int v4, junk, junk] [] := by
  unfold w_X11_slide_75 at hw
  refine X_iload_n 76 dX11_slide_75 rfl rfl ?_
  obtain ⟨x16, ex16⟩ : ∃ x16 : Int32, x16 = (if p1 = 0 then v3 else v4) := ⟨_, rfl⟩
  have hw := hw x16 ex16
  have hJ : X (FM (QI L Q)) RX11 cX11_slide (some .int) 7 "slide" 8 0 0 (L, M) 85 [junk, junk, .int p1, .int v3, .int v4, junk, junk] [.int x16] := by
    exact X_ret rfl rfl dX11_slide_85 ⟨_, _, rfl, rfl, hw⟩
  refine X_if_ne 83 79 (y := 0) dX11_slide_76 rfl rfl (fun c17 => ?_) (fun c17 => ?_)
  · refine X_iload 85 dX11_slide_83 rfl rfl ?_
    rw [if_neg c17] at ex16
    rw [ex16] at hJ
    exact hJ
  · refine X_iload_n 80 dX11_slide_79 rfl rfl ?_
    refine X_goto 85 dX11_slide_80 rfl ?_
    rw [if_pos c17] at ex16
    rw [ex16] at hJ
    exact hJ
def w_X11_slide_35 (L : Lay) (p0 : Int32) (p1 : Int32) (K35 : Int32 → Int32 → Int32 → Mem → Prop) (v3 : Int32) (v4 : Int32) (v5 : Int32) (M : Mem) (Q : Int32 → Mem → Prop) : Prop := ((v5 < (10 : Int32) → (w_X11_leastTempted L v3 p0 M (fun x11 M10 => (((x11 = (-1 : Int32) → (w_X11_slide_75 L p0 p1  v3 v4 M10 Q)) ∧ (¬ x11 = (-1 : Int32) → (∀ x13 : Int32, x13 = (v3 ||| (jshl (1 : Int32) x11)) → (∀ x14 : Int32, x14 = v4 + (1 : Int32) → (∀ x15 : Int32, x15 = v5 + (1 : Int32) → (K35 x13 x14 x15 M10)))))))))) ∧ (¬ v5 < (10 : Int32) → (w_X11_slide_75 L p0 p1  v3 v4 M Q)))
set_option maxRecDepth 20000 in
theorem t_X11_slide_35 {L : Lay} (hL : LY L) {p0 : Int32} {p1 : Int32}  {K35 : Int32 → Int32 → Int32 → Mem → Prop} {v3 : Int32} {v4 : Int32} {v5 : Int32}  {M : Mem} {Q : Int32 → Mem → Prop} (hw : w_X11_slide_35 L p0 p1 K35 v3 v4 v5 M Q) (hK35 : ∀ (v3 : Int32) (v4 : Int32) (v5 : Int32) (M : Mem), K35 v3 v4 v5 M → X (FM (QI L Q)) RX11 cX11_slide (some .int) 7 "slide" 8 0 0 (L, M) 35 [.ref 0, .int p0, .int p1, .int v3, .int v4, .int v5, junk] []) : X (FM (QI L Q)) RX11 cX11_slide (some .int) 7 "slide" 8 0 0 (L, M) 35 [.ref 0, .int p0, .int p1, .int v3, .int v4, .int v5, junk] [] := by
  unfold w_X11_slide_35 at hw
  refine X_iload 37 dX11_slide_35 rfl rfl ?_
  refine X_bipush 39 (v := 10) dX11_slide_37 rfl rfl ?_
  refine X_icmp_ge 75 42 dX11_slide_39 rfl rfl (fun c9 => ?_) (fun c9 => ?_)
  · have hw := hw.2 c9
    refine X_weak (ls' := [junk, junk, .int p1, .int v3, .int v4, junk, junk]) (WK.j (WK.j (WK.s (WK.s (WK.s (WK.j (WK.s WK.n))))))) (Nat.le_of_ble_eq_true rfl) ?_
    exact t_X11_slide_75 hL   hw 
  · have hw := hw.1 c9
    refine X_aload_n 43 dX11_slide_42 rfl rfl ?_
    refine X_iload_n 44 dX11_slide_43 rfl rfl ?_
    refine X_iload_n 45 dX11_slide_44 rfl rfl ?_
    refine Y_cVI 48 (as := [.int v3, .int p0]) m_X11_248 (s_X11_leastTempted hL  hw) (hL.ob (c := 11) (by decide) rfl) rfl (by decide) (Nat.le_of_ble_eq_true rfl) dX11_slide_45 rfl rfl (fun x11 M10 hw => ?_)
    refine X_istore 50 (ls' := [.ref 0, .int p0, .int p1, .int v3, .int v4, .int v5, .int x11]) dX11_slide_48 rfl (Nat.le_of_ble_eq_true rfl) rfl (Or.inr (Or.inr ⟨_, rfl, rfl⟩)) ?_
    refine X_iload 52 dX11_slide_50 rfl rfl ?_
    refine X_iconst 53 (v := -1) dX11_slide_52 rfl rfl ?_
    refine X_icmp_ne 59 56 dX11_slide_53 rfl rfl (fun c12 => ?_) (fun c12 => ?_)
    · have hw := hw.2 c12
      refine X_iload_n 60 dX11_slide_59 rfl rfl ?_
      refine X_iconst 61 (v := 1) dX11_slide_60 rfl rfl ?_
      refine X_iload 63 dX11_slide_61 rfl rfl ?_
      refine Y_ishl 64 dX11_slide_63 rfl ?_
      refine X_ior 65 dX11_slide_64 rfl ?_
      refine X_nmI (fun x13 ex13 => ?_)
      have hw := hw x13 ex13
      refine X_istore_n 66 (ls' := [.ref 0, .int p0, .int p1, .int x13, .int v4, .int v5, .int x11]) dX11_slide_65 rfl rfl (Nat.le_of_ble_eq_true rfl) rfl (Or.inr (Or.inr ⟨_, rfl, rfl⟩)) ?_
      obtain ⟨x14, ex14⟩ : ∃ x14 : Int32, x14 = v4 + (1 : Int32) := ⟨_, rfl⟩
      have hw := hw x14 ex14
      refine X_iinc 69 (v := x14) (ls' := [.ref 0, .int p0, .int p1, .int x13, .int x14, .int v5, .int x11]) dX11_slide_66 rfl rfl (by rw [ex14]; rfl) rfl (Or.inr (Or.inr ⟨_, rfl, rfl⟩)) ?_
      obtain ⟨x15, ex15⟩ : ∃ x15 : Int32, x15 = v5 + (1 : Int32) := ⟨_, rfl⟩
      have hw := hw x15 ex15
      refine X_iinc 72 (v := x15) (ls' := [.ref 0, .int p0, .int p1, .int x13, .int x14, .int x15, .int x11]) dX11_slide_69 rfl rfl (by rw [ex15]; rfl) rfl (Or.inr (Or.inr ⟨_, rfl, rfl⟩)) ?_
      refine X_goto 35 dX11_slide_72 rfl ?_
      refine X_weak (ls' := [.ref 0, .int p0, .int p1, .int x13, .int x14, .int x15, junk]) (WK.s (WK.s (WK.s (WK.s (WK.s (WK.s (WK.j WK.n))))))) (Nat.le_of_ble_eq_true rfl) ?_
      exact hK35 x13 x14 x15 M10 hw
    · have hw := hw.1 c12
      refine X_goto 75 dX11_slide_56 rfl ?_
      refine X_weak (ls' := [junk, junk, .int p1, .int v3, .int v4, junk, junk]) (WK.j (WK.j (WK.s (WK.s (WK.s (WK.j (WK.j WK.n))))))) (Nat.le_of_ble_eq_true rfl) ?_
      exact t_X11_slide_75 hL   hw 
def w_X11_slide (L : Lay) (p0 : Int32) (p1 : Int32) (M : Mem) (Q : Int32 → Mem → Prop) : Prop := w_X11_isWithin L p0 (1 : Int32) (30 : Int32) M (fun x2 M1 => (((x2 = 0 → (Q (-1 : Int32) M1)) ∧ (¬ x2 = 0 → (w_X11_isWithin L p1 (0 : Int32) (1 : Int32) M1 (fun x5 M4 => (((x5 = 0 → (Q (-1 : Int32) M4)) ∧ (¬ x5 = 0 → (w_X10_breakerSet L 1 M4 (fun x8 M7 => (LP4 (fun K35 v3 v4 v5 M => w_X11_slide_35 L p0 p1  K35 v3 v4 v5 M Q) x8 (0 : Int32) (0 : Int32) M7))))))))))))
set_option maxRecDepth 20000 in
theorem s_X11_slide {L : Lay} (hL : LY L) {p0 : Int32} {p1 : Int32}  {M : Mem} {Q : Int32 → Mem → Prop} (hw : w_X11_slide L p0 p1 M Q) : MX yX11_slide cX11_slide (some .int) 7 8 0 0 [.ref 0, .int p0, .int p1] (L, M) (QI L Q) := by
  unfold w_X11_slide at hw
  refine MX_of (by decide) [.ref 0, .int p0, .int p1, junk, junk, junk, junk] (by rfl) (by exact Nat.le_of_ble_eq_true rfl) ?_
  show X (FM (QI L Q)) RX11 cX11_slide (some .int) 7 "slide" 8 0 0 (L, M) 0 [.ref 0, .int p0, .int p1, junk, junk, junk, junk] []
  refine X_iload_n 1 dX11_slide_0 rfl rfl ?_
  refine X_iconst 2 (v := 1) dX11_slide_1 rfl rfl ?_
  refine X_bipush 4 (v := 30) dX11_slide_2 rfl rfl ?_
  refine Y_cSZ 7 (as := [.int p0, .int (1 : Int32), .int (30 : Int32)]) m_X11_55 (s_X11_isWithin hL  hw) rfl (by decide) (Nat.le_of_ble_eq_true rfl) dX11_slide_4 rfl rfl (fun x2 M1 bx2 hw => ?_)
  refine X_if_eq 19 10 (y := 0) dX11_slide_7 rfl rfl (fun c3 => ?_) (fun c3 => ?_)
  · have hw := hw.1 c3
    refine X_iconst 20 (v := -1) dX11_slide_19 rfl rfl ?_
    exact X_ret rfl rfl dX11_slide_20 ⟨_, _, rfl, rfl, hw⟩
  · have hw := hw.2 c3
    refine X_iload_n 11 dX11_slide_10 rfl rfl ?_
    refine X_iconst 12 (v := 0) dX11_slide_11 rfl rfl ?_
    refine X_iconst 13 (v := 1) dX11_slide_12 rfl rfl ?_
    refine Y_cSZ 16 (as := [.int p1, .int (0 : Int32), .int (1 : Int32)]) m_X11_55 (s_X11_isWithin hL  hw) rfl (by decide) (Nat.le_of_ble_eq_true rfl) dX11_slide_13 rfl rfl (fun x5 M4 bx5 hw => ?_)
    refine X_if_ne 21 19 (y := 0) dX11_slide_16 rfl rfl (fun c6 => ?_) (fun c6 => ?_)
    · have hw := hw.2 c6
      refine X_aload_n 22 dX11_slide_21 rfl rfl ?_
      refine X_getR 25 f_X11_10 (hL.ob (c := 11) (by decide) rfl) rfl (hL.rr (by decide) rfl) dX11_slide_22 rfl ?_
      refine Y_cVI 28 (as := []) m_X11_245 (s_X10_breakerSet hL (Or.inl rfl) hw) (hL.W (Or.inl rfl)) rfl (by decide) (Nat.le_of_ble_eq_true rfl) dX11_slide_25 rfl rfl (fun x8 M7 hw => ?_)
      refine X_istore_n 29 (ls' := [.ref 0, .int p0, .int p1, .int x8, junk, junk, junk]) dX11_slide_28 rfl rfl (Nat.le_of_ble_eq_true rfl) rfl (Or.inr (Or.inr ⟨_, rfl, rfl⟩)) ?_
      refine X_iconst 30 (v := 0) dX11_slide_29 rfl rfl ?_
      refine X_istore 32 (ls' := [.ref 0, .int p0, .int p1, .int x8, .int (0 : Int32), junk, junk]) dX11_slide_30 rfl (Nat.le_of_ble_eq_true rfl) rfl (Or.inr (Or.inr ⟨_, rfl, rfl⟩)) ?_
      refine X_iconst 33 (v := 0) dX11_slide_32 rfl rfl ?_
      refine X_istore 35 (ls' := [.ref 0, .int p0, .int p1, .int x8, .int (0 : Int32), .int (0 : Int32), junk]) dX11_slide_33 rfl (Nat.le_of_ble_eq_true rfl) rfl (Or.inr (Or.inr ⟨_, rfl, rfl⟩)) ?_
      exact LP4_s hw (G := fun v3 v4 v5 M => X (FM (QI L Q)) RX11 cX11_slide (some .int) 7 "slide" 8 0 0 (L, M) 35 [.ref 0, .int p0, .int p1, .int v3, .int v4, .int v5, junk] []) (fun K35 v3 v4 v5 M hb hK => t_X11_slide_35 hL  hb  hK)
    · have hw := hw.1 c6
      refine X_iconst 20 (v := -1) dX11_slide_19 rfl rfl ?_
      exact X_ret rfl rfl dX11_slide_20 ⟨_, _, rfl, rfl, hw⟩
def w_X11_gainsWith_18 (L : Lay) (p0 : Int32) (K18 : Int32 → Int32 → Mem → Prop) (v2 : Int32) (v3 : Int32) (M : Mem) (Q : Int32 → Mem → Prop) : Prop := ((v3 < (mi M 36 2) → (vp_in v3 10 ∧ (∀ x6 : Int32, x6 = (v2 + (mi M (oA 36 (tn v3)) 9)) → (∀ x7 : Int32, x7 = v3 + (1 : Int32) → (K18 x6 x7 M))))) ∧ (¬ v3 < (mi M 36 2) → (Q v2 M)))
set_option maxRecDepth 20000 in
theorem t_X11_gainsWith_18 {L : Lay} (hL : LY L) {p0 : Int32}  {K18 : Int32 → Int32 → Mem → Prop} {v2 : Int32} {v3 : Int32}  {M : Mem} {Q : Int32 → Mem → Prop} (hw : w_X11_gainsWith_18 L p0 K18 v2 v3 M Q) (hK18 : ∀ (v2 : Int32) (v3 : Int32) (M : Mem), K18 v2 v3 M → X (FM (QI L Q)) RX11 cX11_gainsWith (some .int) 4 "gainsWith" 7 0 0 (L, M) 18 [.ref 0, junk, .int v2, .int v3] []) : X (FM (QI L Q)) RX11 cX11_gainsWith (some .int) 4 "gainsWith" 7 0 0 (L, M) 18 [.ref 0, junk, .int v2, .int v3] [] := by
  unfold w_X11_gainsWith_18 at hw
  refine X_iload_n 19 dX11_gainsWith_18 rfl rfl ?_
  refine X_aload_n 20 dX11_gainsWith_19 rfl rfl ?_
  refine X_getR 23 f_X11_16 (hL.ob (c := 11) (by decide) rfl) rfl (hL.rr (by decide) rfl) dX11_gainsWith_20 rfl ?_
  refine X_getI 26 f_X11_59 (hL.W (Or.inr rfl)) rfl dX11_gainsWith_23 rfl ?_
  refine X_icmp_ge 50 29 dX11_gainsWith_26 rfl rfl (fun c4 => ?_) (fun c4 => ?_)
  · have hw := hw.2 c4
    refine X_iload_n 51 dX11_gainsWith_50 rfl rfl ?_
    exact X_ret rfl rfl dX11_gainsWith_51 ⟨_, _, rfl, rfl, hw⟩
  · have hw := hw.1 c4
    refine X_iload_n 30 dX11_gainsWith_29 rfl rfl ?_
    refine X_aload_n 31 dX11_gainsWith_30 rfl rfl ?_
    refine X_getR 34 f_X11_16 (hL.ob (c := 11) (by decide) rfl) rfl (hL.rr (by decide) rfl) dX11_gainsWith_31 rfl ?_
    refine X_getR 37 f_X11_63 (hL.W (Or.inr rfl)) rfl (hL.wrr (Or.inr rfl) (k := 0) (x := 1) rfl rfl (by decide)) dX11_gainsWith_34 rfl ?_
    refine X_iload_n 38 dX11_gainsWith_37 rfl rfl ?_
    obtain ⟨c5, hw⟩ := hw
    refine X_aald 39 (Nat.le_refl 5) (by decide) (hL.war (Or.inr rfl) (k := 1) (t := 5) (n := 10) rfl rfl (by decide)) c5 (hL.ownr (Or.inr rfl) (vp_lt c5)) dX11_gainsWith_38 rfl ?_
    refine X_getI 42 f_X11_219 (hL.own (Or.inr rfl) (vp_lt c5)) rfl dX11_gainsWith_39 rfl ?_
    refine X_iadd 43 dX11_gainsWith_42 rfl ?_
    refine X_nmI (fun x6 ex6 => ?_)
    have hw := hw x6 ex6
    refine X_istore_n 44 (ls' := [.ref 0, junk, .int x6, .int v3]) dX11_gainsWith_43 rfl rfl (Nat.le_of_ble_eq_true rfl) rfl (Or.inr (Or.inl rfl)) ?_
    obtain ⟨x7, ex7⟩ : ∃ x7 : Int32, x7 = v3 + (1 : Int32) := ⟨_, rfl⟩
    have hw := hw x7 ex7
    refine X_iinc 47 (v := x7) (ls' := [.ref 0, junk, .int x6, .int x7]) dX11_gainsWith_44 rfl rfl (by rw [ex7]; rfl) rfl (Or.inr (Or.inr ⟨_, rfl, rfl⟩)) ?_
    refine X_goto 18 dX11_gainsWith_47 rfl ?_
    exact hK18 x6 x7 M hw
def w_X11_gainsWith (L : Lay) (p0 : Int32) (M : Mem) (Q : Int32 → Mem → Prop) : Prop := w_X10_breakerSet L 1 M (fun x2 M1 => (w_X11_runTrial L x2 p0 (30 : Int32) M1 (fun M3 => (LP3 (fun K18 v2 v3 M => w_X11_gainsWith_18 L p0  K18 v2 v3 M Q) (0 : Int32) (0 : Int32) M3))))
set_option maxRecDepth 20000 in
theorem s_X11_gainsWith {L : Lay} (hL : LY L) {p0 : Int32}  {M : Mem} {Q : Int32 → Mem → Prop} (hw : w_X11_gainsWith L p0 M Q) : MX yX11_gainsWith cX11_gainsWith (some .int) 4 7 0 0 [.ref 0, .int p0] (L, M) (QI L Q) := by
  unfold w_X11_gainsWith at hw
  refine MX_of (by decide) [.ref 0, .int p0, junk, junk] (by rfl) (by exact Nat.le_of_ble_eq_true rfl) ?_
  show X (FM (QI L Q)) RX11 cX11_gainsWith (some .int) 4 "gainsWith" 7 0 0 (L, M) 0 [.ref 0, .int p0, junk, junk] []
  refine X_aload_n 1 dX11_gainsWith_0 rfl rfl ?_
  refine X_aload_n 2 dX11_gainsWith_1 rfl rfl ?_
  refine X_getR 5 f_X11_10 (hL.ob (c := 11) (by decide) rfl) rfl (hL.rr (by decide) rfl) dX11_gainsWith_2 rfl ?_
  refine Y_cVI 8 (as := []) m_X11_245 (s_X10_breakerSet hL (Or.inl rfl) hw) (hL.W (Or.inl rfl)) rfl (by decide) (Nat.le_of_ble_eq_true rfl) dX11_gainsWith_5 rfl rfl (fun x2 M1 hw => ?_)
  refine X_iload_n 9 dX11_gainsWith_8 rfl rfl ?_
  refine X_bipush 11 (v := 30) dX11_gainsWith_9 rfl rfl ?_
  refine Y_cVV 14 (as := [.int x2, .int p0, .int (30 : Int32)]) m_X11_241 (s_X11_runTrial hL  hw) (hL.ob (c := 11) (by decide) rfl) rfl (by decide) (Nat.le_of_ble_eq_true rfl) dX11_gainsWith_11 rfl rfl (fun M3 hw => ?_)
  refine X_iconst 15 (v := 0) dX11_gainsWith_14 rfl rfl ?_
  refine X_istore_n 16 (ls' := [.ref 0, .int p0, .int (0 : Int32), junk]) dX11_gainsWith_15 rfl rfl (Nat.le_of_ble_eq_true rfl) rfl (Or.inr (Or.inr ⟨_, rfl, rfl⟩)) ?_
  refine X_iconst 17 (v := 0) dX11_gainsWith_16 rfl rfl ?_
  refine X_istore_n 18 (ls' := [.ref 0, .int p0, .int (0 : Int32), .int (0 : Int32)]) dX11_gainsWith_17 rfl rfl (Nat.le_of_ble_eq_true rfl) rfl (Or.inr (Or.inr ⟨_, rfl, rfl⟩)) ?_
  refine X_weak (ls' := [.ref 0, junk, .int (0 : Int32), .int (0 : Int32)]) (WK.s (WK.j (WK.s (WK.s WK.n)))) (Nat.le_of_ble_eq_true rfl) ?_
  exact LP3_s hw (G := fun v2 v3 M => X (FM (QI L Q)) RX11 cX11_gainsWith (some .int) 4 "gainsWith" 7 0 0 (L, M) 18 [.ref 0, junk, .int v2, .int v3] []) (fun K18 v2 v3 M hb hK => t_X11_gainsWith_18 hL  hb  hK)
def w_X11_tried (L : Lay) (p0 : Int32) (M : Mem) (Q : Int32 → Mem → Prop) : Prop := w_X11_isWithin L p0 (0 : Int32) (9999 : Int32) M (fun x2 M1 => (((x2 = 0 → (False)) ∧ (¬ x2 = 0 → (w_X11_gainsWith L p0 M1 (fun x5 M4 => (Q x5 M4)))))))
set_option maxRecDepth 20000 in
theorem s_X11_tried {L : Lay} (hL : LY L) {p0 : Int32}  {M : Mem} {Q : Int32 → Mem → Prop} (hw : w_X11_tried L p0 M Q) : MX yX11_tried cX11_tried (some .int) 2 8 0 0 [.ref 0, .int p0] (L, M) (QI L Q) := by
  unfold w_X11_tried at hw
  refine MX_of (by decide) [.ref 0, .int p0] (by rfl) (by exact Nat.le_of_ble_eq_true rfl) ?_
  show X (FM (QI L Q)) RX11 cX11_tried (some .int) 2 "tried" 8 0 0 (L, M) 0 [.ref 0, .int p0] []
  refine X_iload_n 1 dX11_tried_0 rfl rfl ?_
  refine X_iconst 2 (v := 0) dX11_tried_1 rfl rfl ?_
  refine X_sipush 5 (v := 9999) dX11_tried_2 rfl rfl ?_
  refine Y_cSZ 8 (as := [.int p0, .int (0 : Int32), .int (9999 : Int32)]) m_X11_55 (s_X11_isWithin hL  hw) rfl (by decide) (Nat.le_of_ble_eq_true rfl) dX11_tried_5 rfl rfl (fun x2 M1 bx2 hw => ?_)
  refine X_if_ne 21 11 (y := 0) dX11_tried_8 rfl rfl (fun c3 => ?_) (fun c3 => ?_)
  · have hw := hw.2 c3
    refine X_aload_n 22 dX11_tried_21 rfl rfl ?_
    refine X_iload_n 23 dX11_tried_22 rfl rfl ?_
    refine Y_cVI 26 (as := [.int p0]) m_X11_253 (s_X11_gainsWith hL  hw) (hL.ob (c := 11) (by decide) rfl) rfl (by decide) (Nat.le_of_ble_eq_true rfl) dX11_tried_23 rfl rfl (fun x5 M4 hw => ?_)
    exact X_ret rfl rfl dX11_tried_26 ⟨_, _, rfl, rfl, hw⟩
  · have hw := hw.1 c3
    exact hw.elim
def w_X11_best_24 (L : Lay) (p0 : Int32) (K24 : Int32 → Int32 → Int32 → Mem → Prop) (v2 : Int32) (v3 : Int32) (v4 : Int32) (M : Mem) (Q : Int32 → Mem → Prop) : Prop := (((20 : Int32) < v4 → (Q v2 M)) ∧ (¬ (20 : Int32) < v4 → (w_X11_gainsWith L (v4 * p0) M (fun x8 M7 => (((v3 < x8 → (∀ x11 : Int32, x11 = (v4 * p0) → (∀ x12 : Int32, x12 = v4 + (1 : Int32) → (K24 x11 x8 x12 M7)))) ∧ (¬ v3 < x8 → (∀ x10 : Int32, x10 = v4 + (1 : Int32) → (K24 v2 v3 x10 M7)))))))))
set_option maxRecDepth 20000 in
theorem t_X11_best_24 {L : Lay} (hL : LY L) {p0 : Int32}  {K24 : Int32 → Int32 → Int32 → Mem → Prop} {v2 : Int32} {v3 : Int32} {v4 : Int32}  {M : Mem} {Q : Int32 → Mem → Prop} (hw : w_X11_best_24 L p0 K24 v2 v3 v4 M Q) (hK24 : ∀ (v2 : Int32) (v3 : Int32) (v4 : Int32) (M : Mem), K24 v2 v3 v4 M → X (FM (QI L Q)) RX11 cX11_best (some .int) 6 "best" 8 0 0 (L, M) 24 [.ref 0, .int p0, .int v2, .int v3, .int v4, junk] []) : X (FM (QI L Q)) RX11 cX11_best (some .int) 6 "best" 8 0 0 (L, M) 24 [.ref 0, .int p0, .int v2, .int v3, .int v4, junk] [] := by
  unfold w_X11_best_24 at hw
  refine X_iload 26 dX11_best_24 rfl rfl ?_
  refine X_bipush 28 (v := 20) dX11_best_26 rfl rfl ?_
  refine X_icmp_gt 61 31 dX11_best_28 rfl rfl (fun c6 => ?_) (fun c6 => ?_)
  · have hw := hw.1 c6
    refine X_iload_n 62 dX11_best_61 rfl rfl ?_
    exact X_ret rfl rfl dX11_best_62 ⟨_, _, rfl, rfl, hw⟩
  · have hw := hw.2 c6
    refine X_aload_n 32 dX11_best_31 rfl rfl ?_
    refine X_iload 34 dX11_best_32 rfl rfl ?_
    refine X_iload_n 35 dX11_best_34 rfl rfl ?_
    refine X_imul 36 dX11_best_35 rfl ?_
    refine Y_cVI 39 (as := [.int ((v4 * p0))]) m_X11_253 (s_X11_gainsWith hL  hw) (hL.ob (c := 11) (by decide) rfl) rfl (by decide) (Nat.le_of_ble_eq_true rfl) dX11_best_36 rfl rfl (fun x8 M7 hw => ?_)
    refine X_istore 41 (ls' := [.ref 0, .int p0, .int v2, .int v3, .int v4, .int x8]) dX11_best_39 rfl (Nat.le_of_ble_eq_true rfl) rfl (Or.inr (Or.inr ⟨_, rfl, rfl⟩)) ?_
    refine X_iload 43 dX11_best_41 rfl rfl ?_
    refine X_iload_n 44 dX11_best_43 rfl rfl ?_
    refine X_icmp_le 55 47 dX11_best_44 rfl rfl (fun c9 => ?_) (fun c9 => ?_)
    · have hw := hw.2 c9
      obtain ⟨x10, ex10⟩ : ∃ x10 : Int32, x10 = v4 + (1 : Int32) := ⟨_, rfl⟩
      have hw := hw x10 ex10
      refine X_iinc 58 (v := x10) (ls' := [.ref 0, .int p0, .int v2, .int v3, .int x10, .int x8]) dX11_best_55 rfl rfl (by rw [ex10]; rfl) rfl (Or.inr (Or.inr ⟨_, rfl, rfl⟩)) ?_
      refine X_goto 24 dX11_best_58 rfl ?_
      refine X_weak (ls' := [.ref 0, .int p0, .int v2, .int v3, .int x10, junk]) (WK.s (WK.s (WK.s (WK.s (WK.s (WK.j WK.n)))))) (Nat.le_of_ble_eq_true rfl) ?_
      exact hK24 v2 v3 x10 M7 hw
    · have hw := hw.1 c9
      refine X_iload 49 dX11_best_47 rfl rfl ?_
      refine X_istore_n 50 (ls' := [.ref 0, .int p0, .int v2, .int x8, .int v4, .int x8]) dX11_best_49 rfl rfl (Nat.le_of_ble_eq_true rfl) rfl (Or.inr (Or.inr ⟨_, rfl, rfl⟩)) ?_
      refine X_iload 52 dX11_best_50 rfl rfl ?_
      refine X_iload_n 53 dX11_best_52 rfl rfl ?_
      refine X_imul 54 dX11_best_53 rfl ?_
      refine X_nmI (fun x11 ex11 => ?_)
      have hw := hw x11 ex11
      refine X_istore_n 55 (ls' := [.ref 0, .int p0, .int x11, .int x8, .int v4, .int x8]) dX11_best_54 rfl rfl (Nat.le_of_ble_eq_true rfl) rfl (Or.inr (Or.inr ⟨_, rfl, rfl⟩)) ?_
      obtain ⟨x12, ex12⟩ : ∃ x12 : Int32, x12 = v4 + (1 : Int32) := ⟨_, rfl⟩
      have hw := hw x12 ex12
      refine X_iinc 58 (v := x12) (ls' := [.ref 0, .int p0, .int x11, .int x8, .int x12, .int x8]) dX11_best_55 rfl rfl (by rw [ex12]; rfl) rfl (Or.inr (Or.inr ⟨_, rfl, rfl⟩)) ?_
      refine X_goto 24 dX11_best_58 rfl ?_
      refine X_weak (ls' := [.ref 0, .int p0, .int x11, .int x8, .int x12, junk]) (WK.s (WK.s (WK.s (WK.s (WK.s (WK.j WK.n)))))) (Nat.le_of_ble_eq_true rfl) ?_
      exact hK24 x11 x8 x12 M7 hw
def w_X11_best (L : Lay) (p0 : Int32) (M : Mem) (Q : Int32 → Mem → Prop) : Prop := w_X11_isWithin L p0 (1 : Int32) (400 : Int32) M (fun x2 M1 => (((x2 = 0 → (Q (-1 : Int32) M1)) ∧ (¬ x2 = 0 → (w_X11_gainsWith L (0 : Int32) M1 (fun x5 M4 => (LP4 (fun K24 v2 v3 v4 M => w_X11_best_24 L p0  K24 v2 v3 v4 M Q) (0 : Int32) x5 (1 : Int32) M4)))))))
set_option maxRecDepth 20000 in
theorem s_X11_best {L : Lay} (hL : LY L) {p0 : Int32}  {M : Mem} {Q : Int32 → Mem → Prop} (hw : w_X11_best L p0 M Q) : MX yX11_best cX11_best (some .int) 6 8 0 0 [.ref 0, .int p0] (L, M) (QI L Q) := by
  unfold w_X11_best at hw
  refine MX_of (by decide) [.ref 0, .int p0, junk, junk, junk, junk] (by rfl) (by exact Nat.le_of_ble_eq_true rfl) ?_
  show X (FM (QI L Q)) RX11 cX11_best (some .int) 6 "best" 8 0 0 (L, M) 0 [.ref 0, .int p0, junk, junk, junk, junk] []
  refine X_iload_n 1 dX11_best_0 rfl rfl ?_
  refine X_iconst 2 (v := 1) dX11_best_1 rfl rfl ?_
  refine X_sipush 5 (v := 400) dX11_best_2 rfl rfl ?_
  refine Y_cSZ 8 (as := [.int p0, .int (1 : Int32), .int (400 : Int32)]) m_X11_55 (s_X11_isWithin hL  hw) rfl (by decide) (Nat.le_of_ble_eq_true rfl) dX11_best_5 rfl rfl (fun x2 M1 bx2 hw => ?_)
  refine X_if_ne 13 11 (y := 0) dX11_best_8 rfl rfl (fun c3 => ?_) (fun c3 => ?_)
  · have hw := hw.2 c3
    refine X_iconst 14 (v := 0) dX11_best_13 rfl rfl ?_
    refine X_istore_n 15 (ls' := [.ref 0, .int p0, .int (0 : Int32), junk, junk, junk]) dX11_best_14 rfl rfl (Nat.le_of_ble_eq_true rfl) rfl (Or.inr (Or.inr ⟨_, rfl, rfl⟩)) ?_
    refine X_aload_n 16 dX11_best_15 rfl rfl ?_
    refine X_iconst 17 (v := 0) dX11_best_16 rfl rfl ?_
    refine Y_cVI 20 (as := [.int (0 : Int32)]) m_X11_253 (s_X11_gainsWith hL  hw) (hL.ob (c := 11) (by decide) rfl) rfl (by decide) (Nat.le_of_ble_eq_true rfl) dX11_best_17 rfl rfl (fun x5 M4 hw => ?_)
    refine X_istore_n 21 (ls' := [.ref 0, .int p0, .int (0 : Int32), .int x5, junk, junk]) dX11_best_20 rfl rfl (Nat.le_of_ble_eq_true rfl) rfl (Or.inr (Or.inr ⟨_, rfl, rfl⟩)) ?_
    refine X_iconst 22 (v := 1) dX11_best_21 rfl rfl ?_
    refine X_istore 24 (ls' := [.ref 0, .int p0, .int (0 : Int32), .int x5, .int (1 : Int32), junk]) dX11_best_22 rfl (Nat.le_of_ble_eq_true rfl) rfl (Or.inr (Or.inr ⟨_, rfl, rfl⟩)) ?_
    exact LP4_s hw (G := fun v2 v3 v4 M => X (FM (QI L Q)) RX11 cX11_best (some .int) 6 "best" 8 0 0 (L, M) 24 [.ref 0, .int p0, .int v2, .int v3, .int v4, junk] []) (fun K24 v2 v3 v4 M hb hK => t_X11_best_24 hL  hb  hK)
  · have hw := hw.1 c3
    refine X_iconst 12 (v := -1) dX11_best_11 rfl rfl ?_
    exact X_ret rfl rfl dX11_best_12 ⟨_, _, rfl, rfl, hw⟩
def w_X11_foretold_57 (L : Lay) (p0 : Int32) (K13 : Int32 → Mem → Prop) (v2 : Int32) (y0 : Int32) (M : Mem) (Q : Int32 → Mem → Prop) : Prop := w_X10_passDay L 36 y0 M (fun M7 => (w_X0_wasHungry L 39 M7 (fun x9 M8 => (((x9 = 0 → (∀ x11 : Int32, x11 = v2 + (1 : Int32) → (K13 x11 M8))) ∧ (¬ x9 = 0 → (Q (mi M8 36 0) M8)))))))
set_option maxRecDepth 20000 in
theorem t_X11_foretold_57 {L : Lay} (hL : LY L) {p0 : Int32}  {K13 : Int32 → Mem → Prop} {v2 : Int32} {y0 : Int32}  {M : Mem} {Q : Int32 → Mem → Prop} (hw : w_X11_foretold_57 L p0 K13 v2 y0 M Q) (hK13 : ∀ (v2 : Int32) (M : Mem), K13 v2 M → X (FM (QI L Q)) RX11 cX11_foretold (some .int) 3 "foretold" 6 0 0 (L, M) 13 [.ref 0, .int p0, .int v2] []) : X (FM (QI L Q)) RX11 cX11_foretold (some .int) 3 "foretold" 6 0 0 (L, M) 57 [.ref 0, .int p0, .int v2] [.int y0, .ref 36] := by
  unfold w_X11_foretold_57 at hw
  refine Y_cVV 60 (as := [.int y0]) m_X11_165 (s_X10_passDay hL (Or.inr rfl) hw) (hL.W (Or.inr rfl)) rfl (by decide) (Nat.le_of_ble_eq_true rfl) dX11_foretold_57 rfl rfl (fun M7 hw => ?_)
  refine X_aload_n 61 dX11_foretold_60 rfl rfl ?_
  refine X_getR 64 f_X11_16 (hL.ob (c := 11) (by decide) rfl) rfl (hL.rr (by decide) rfl) dX11_foretold_61 rfl ?_
  refine X_getR 67 f_X11_120 (hL.W (Or.inr rfl)) rfl (hL.wrr (Or.inr rfl) (k := 0) (x := 3) rfl rfl (by decide)) dX11_foretold_64 rfl ?_
  refine Y_cVZ 70 (as := []) m_X11_259 (s_X0_wasHungry hL (hL.wob (Or.inr rfl) (k := 3) (c := 0) rfl rfl (by decide)) hw) (hL.wob (Or.inr rfl) (k := 3) (c := 0) rfl rfl (by decide)) rfl (by decide) (Nat.le_of_ble_eq_true rfl) dX11_foretold_67 rfl rfl (fun x9 M8 bx9 hw => ?_)
  refine X_if_eq 81 73 (y := 0) dX11_foretold_70 rfl rfl (fun c10 => ?_) (fun c10 => ?_)
  · have hw := hw.1 c10
    obtain ⟨x11, ex11⟩ : ∃ x11 : Int32, x11 = v2 + (1 : Int32) := ⟨_, rfl⟩
    have hw := hw x11 ex11
    refine X_iinc 84 (v := x11) (ls' := [.ref 0, .int p0, .int x11]) dX11_foretold_81 rfl rfl (by rw [ex11]; rfl) rfl (Or.inr (Or.inr ⟨_, rfl, rfl⟩)) ?_
    refine X_goto 13 dX11_foretold_84 rfl ?_
    exact hK13 x11 M8 hw
  · have hw := hw.2 c10
    refine X_aload_n 74 dX11_foretold_73 rfl rfl ?_
    refine X_getR 77 f_X11_16 (hL.ob (c := 11) (by decide) rfl) rfl (hL.rr (by decide) rfl) dX11_foretold_74 rfl ?_
    refine X_getI 80 f_X11_107 (hL.W (Or.inr rfl)) rfl dX11_foretold_77 rfl ?_
    exact X_ret rfl rfl dX11_foretold_80 ⟨_, _, rfl, rfl, hw⟩
def w_X11_foretold_13 (L : Lay) (p0 : Int32) (K13 : Int32 → Mem → Prop) (v2 : Int32) (M : Mem) (Q : Int32 → Mem → Prop) : Prop := ((v2 < (60 : Int32) → ((((mi M 36 0) < (720 : Int32) → (((p0 = 0 → (w_X11_windOf L ((mi M 36 0) + (1 : Int32)) M (fun x6 M5 => (w_X11_foretold_57 L p0 K13 v2 x6 M5 Q)))) ∧ (¬ p0 = 0 → (w_X11_foretold_57 L p0 K13 v2 (3 : Int32) M Q))))) ∧ (¬ (mi M 36 0) < (720 : Int32) → (Q (-1 : Int32) M))))) ∧ (¬ v2 < (60 : Int32) → (Q (-1 : Int32) M)))
set_option maxRecDepth 20000 in
theorem t_X11_foretold_13 {L : Lay} (hL : LY L) {p0 : Int32}  {K13 : Int32 → Mem → Prop} {v2 : Int32}  {M : Mem} {Q : Int32 → Mem → Prop} (hw : w_X11_foretold_13 L p0 K13 v2 M Q) (hK13 : ∀ (v2 : Int32) (M : Mem), K13 v2 M → X (FM (QI L Q)) RX11 cX11_foretold (some .int) 3 "foretold" 6 0 0 (L, M) 13 [.ref 0, .int p0, .int v2] []) : X (FM (QI L Q)) RX11 cX11_foretold (some .int) 3 "foretold" 6 0 0 (L, M) 13 [.ref 0, .int p0, .int v2] [] := by
  unfold w_X11_foretold_13 at hw
  refine X_iload_n 14 dX11_foretold_13 rfl rfl ?_
  refine X_bipush 16 (v := 60) dX11_foretold_14 rfl rfl ?_
  refine X_icmp_ge 87 19 dX11_foretold_16 rfl rfl (fun c2 => ?_) (fun c2 => ?_)
  · have hw := hw.2 c2
    refine X_iconst 88 (v := -1) dX11_foretold_87 rfl rfl ?_
    exact X_ret rfl rfl dX11_foretold_88 ⟨_, _, rfl, rfl, hw⟩
  · have hw := hw.1 c2
    refine X_aload_n 20 dX11_foretold_19 rfl rfl ?_
    refine X_getR 23 f_X11_16 (hL.ob (c := 11) (by decide) rfl) rfl (hL.rr (by decide) rfl) dX11_foretold_20 rfl ?_
    refine X_getI 26 f_X11_107 (hL.W (Or.inr rfl)) rfl dX11_foretold_23 rfl ?_
    refine X_sipush 29 (v := 720) dX11_foretold_26 rfl rfl ?_
    refine X_icmp_ge 87 32 dX11_foretold_29 rfl rfl (fun c3 => ?_) (fun c3 => ?_)
    · have hw := hw.2 c3
      refine X_iconst 88 (v := -1) dX11_foretold_87 rfl rfl ?_
      exact X_ret rfl rfl dX11_foretold_88 ⟨_, _, rfl, rfl, hw⟩
    · have hw := hw.1 c3
      refine X_aload_n 33 dX11_foretold_32 rfl rfl ?_
      refine X_getR 36 f_X11_16 (hL.ob (c := 11) (by decide) rfl) rfl (hL.rr (by decide) rfl) dX11_foretold_33 rfl ?_
      refine X_iload_n 37 dX11_foretold_36 rfl rfl ?_
      refine X_if_eq 44 40 (y := 0) dX11_foretold_37 rfl rfl (fun c4 => ?_) (fun c4 => ?_)
      · have hw := hw.1 c4
        refine X_aload_n 45 dX11_foretold_44 rfl rfl ?_
        refine X_aload_n 46 dX11_foretold_45 rfl rfl ?_
        refine X_getR 49 f_X11_16 (hL.ob (c := 11) (by decide) rfl) rfl (hL.rr (by decide) rfl) dX11_foretold_46 rfl ?_
        refine X_getI 52 f_X11_107 (hL.W (Or.inr rfl)) rfl dX11_foretold_49 rfl ?_
        refine X_iconst 53 (v := 1) dX11_foretold_52 rfl rfl ?_
        refine X_iadd 54 dX11_foretold_53 rfl ?_
        refine Y_cVI 57 (as := [.int (((mi M 36 0) + (1 : Int32)))]) m_X11_161 (s_X11_windOf hL  hw) (hL.ob (c := 11) (by decide) rfl) rfl (by decide) (Nat.le_of_ble_eq_true rfl) dX11_foretold_54 rfl rfl (fun x6 M5 hw => ?_)
        exact t_X11_foretold_57 hL   hw hK13
      · have hw := hw.2 c4
        refine X_iconst 41 (v := 3) dX11_foretold_40 rfl rfl ?_
        refine X_goto 57 dX11_foretold_41 rfl ?_
        exact t_X11_foretold_57 hL   hw hK13
def w_X11_foretold (L : Lay) (p0 : Int32) (M : Mem) (Q : Int32 → Mem → Prop) : Prop := w_X10_copyFrom L 36 1 M (fun M1 => (LP2 (fun K13 v2 M => w_X11_foretold_13 L p0  K13 v2 M Q) (0 : Int32) M1))
set_option maxRecDepth 20000 in
theorem s_X11_foretold {L : Lay} (hL : LY L) {p0 : Int32}  {M : Mem} {Q : Int32 → Mem → Prop} (hw : w_X11_foretold L p0 M Q) : MX yX11_foretold cX11_foretold (some .int) 3 6 0 0 [.ref 0, .int p0] (L, M) (QI L Q) := by
  unfold w_X11_foretold at hw
  refine MX_of (by decide) [.ref 0, .int p0, junk] (by rfl) (by exact Nat.le_of_ble_eq_true rfl) ?_
  show X (FM (QI L Q)) RX11 cX11_foretold (some .int) 3 "foretold" 6 0 0 (L, M) 0 [.ref 0, .int p0, junk] []
  refine X_aload_n 1 dX11_foretold_0 rfl rfl ?_
  refine X_getR 4 f_X11_16 (hL.ob (c := 11) (by decide) rfl) rfl (hL.rr (by decide) rfl) dX11_foretold_1 rfl ?_
  refine X_aload_n 5 dX11_foretold_4 rfl rfl ?_
  refine X_getR 8 f_X11_10 (hL.ob (c := 11) (by decide) rfl) rfl (hL.rr (by decide) rfl) dX11_foretold_5 rfl ?_
  refine Y_cVV 11 (as := [.ref 1]) m_X11_256 (s_X10_copyFrom hL (Or.inr rfl) (Or.inl rfl) hw) (hL.W (Or.inr rfl)) rfl (by decide) (Nat.le_of_ble_eq_true rfl) dX11_foretold_8 rfl rfl (fun M1 hw => ?_)
  refine X_iconst 12 (v := 0) dX11_foretold_11 rfl rfl ?_
  refine X_istore_n 13 (ls' := [.ref 0, .int p0, .int (0 : Int32)]) dX11_foretold_12 rfl rfl (Nat.le_of_ble_eq_true rfl) rfl (Or.inr (Or.inr ⟨_, rfl, rfl⟩)) ?_
  exact LP2_s hw (G := fun v2 M => X (FM (QI L Q)) RX11 cX11_foretold (some .int) 3 "foretold" 6 0 0 (L, M) 13 [.ref 0, .int p0, .int v2] []) (fun K13 v2 M hb hK => t_X11_foretold_13 hL  hb  hK)
def w_X11_look_18 (L : Lay) (p0 : Int32) (p1 : Int32)   (M : Mem) (Q : Int32 → Mem → Prop) : Prop := False
set_option maxRecDepth 20000 in
theorem t_X11_look_18 {L : Lay} (hL : LY L) {p0 : Int32} {p1 : Int32}     {M : Mem} {Q : Int32 → Mem → Prop} (hw : w_X11_look_18 L p0 p1   M Q)  : X (FM (QI L Q)) RX11 cX11_look (some .int) 4 "look" 2 0 0 (L, M) 18 [junk, junk, junk, junk] [] := by
  unfold w_X11_look_18 at hw
  exact hw.elim
def w_X11_look (L : Lay) (p0 : Int32) (p1 : Int32) (M : Mem) (Q : Int32 → Mem → Prop) : Prop := w_X11_isOwner L p0 M (fun x2 M1 => (((x2 = 0 → (w_X11_look_18 L p0 p1   M1 Q)) ∧ (¬ x2 = 0 → (w_X11_isWithin L p1 (0 : Int32) (9 : Int32) M1 (fun x5 M4 => (((x5 = 0 → (w_X11_look_18 L p0 p1   M4 Q)) ∧ (¬ x5 = 0 → (vp_in p0 10 ∧ (((p1 = (0 : Int32) → (Q (mi M4 (oA 1 (tn p0)) 6) M4)) ∧ (¬ p1 = (0 : Int32) → (((p1 = (1 : Int32) → (Q (mi M4 (oA 1 (tn p0)) 7) M4)) ∧ (¬ p1 = (1 : Int32) → (((p1 = (2 : Int32) → ((((mp M4 1 11) = none → (Q (-1 : Int32) M4)) ∧ ∀ a12 : Nat, (mp M4 1 11) = some a12 → (Q (mi M4 (oA 1 (tn p0)) 8) M4)))) ∧ (¬ p1 = (2 : Int32) → (((p1 = (3 : Int32) → (Q (mi M4 (oA 1 (tn p0)) 9) M4)) ∧ (¬ p1 = (3 : Int32) → (((p1 = (4 : Int32) → (∀ x15 : Int32, x15 = (if (mi M4 (oA 1 (tn p0)) 5) = 0 then (0 : Int32) else (1 : Int32)) → (Q x15 M4))) ∧ (¬ p1 = (4 : Int32) → (((p1 = (5 : Int32) → (Q (mi M4 (oA 1 (tn p0)) 0) M4)) ∧ (¬ p1 = (5 : Int32) → (((p1 = (6 : Int32) → (Q (mi M4 (oA 1 (tn p0)) 1) M4)) ∧ (¬ p1 = (6 : Int32) → (((p1 = (7 : Int32) → (Q (mi M4 (oA 1 (tn p0)) 2) M4)) ∧ (¬ p1 = (7 : Int32) → (((p1 = (8 : Int32) → (Q (mi M4 (oA 1 (tn p0)) 3) M4)) ∧ (¬ p1 = (8 : Int32) → (Q (mi M4 (oA 1 (tn p0)) 4) M4))))))))))))))))))))))))))))))))))))))
set_option maxRecDepth 20000 in
theorem s_X11_look {L : Lay} (hL : LY L) {p0 : Int32} {p1 : Int32}  {M : Mem} {Q : Int32 → Mem → Prop} (hw : w_X11_look L p0 p1 M Q) : MX yX11_look cX11_look (some .int) 4 2 0 0 [.ref 0, .int p0, .int p1] (L, M) (QI L Q) := by
  unfold w_X11_look at hw
  refine MX_of (by decide) [.ref 0, .int p0, .int p1, junk] (by rfl) (by exact Nat.le_of_ble_eq_true rfl) ?_
  show X (FM (QI L Q)) RX11 cX11_look (some .int) 4 "look" 2 0 0 (L, M) 0 [.ref 0, .int p0, .int p1, junk] []
  refine X_aload_n 1 dX11_look_0 rfl rfl ?_
  refine X_iload_n 2 dX11_look_1 rfl rfl ?_
  refine Y_cVZ 5 (as := [.int p0]) m_X11_81 (s_X11_isOwner hL  hw) (hL.ob (c := 11) (by decide) rfl) rfl (by decide) (Nat.le_of_ble_eq_true rfl) dX11_look_2 rfl rfl (fun x2 M1 bx2 hw => ?_)
  refine X_if_eq 18 8 (y := 0) dX11_look_5 rfl rfl (fun c3 => ?_) (fun c3 => ?_)
  · have hw := hw.1 c3
    refine X_weak (ls' := [junk, junk, junk, junk]) (WK.j (WK.j (WK.j (WK.s WK.n)))) (Nat.le_of_ble_eq_true rfl) ?_
    exact t_X11_look_18 hL   hw 
  · have hw := hw.2 c3
    refine X_iload_n 9 dX11_look_8 rfl rfl ?_
    refine X_iconst 10 (v := 0) dX11_look_9 rfl rfl ?_
    refine X_bipush 12 (v := 9) dX11_look_10 rfl rfl ?_
    refine Y_cSZ 15 (as := [.int p1, .int (0 : Int32), .int (9 : Int32)]) m_X11_55 (s_X11_isWithin hL  hw) rfl (by decide) (Nat.le_of_ble_eq_true rfl) dX11_look_12 rfl rfl (fun x5 M4 bx5 hw => ?_)
    refine X_if_ne 29 18 (y := 0) dX11_look_15 rfl rfl (fun c6 => ?_) (fun c6 => ?_)
    · have hw := hw.2 c6
      refine X_aload_n 30 dX11_look_29 rfl rfl ?_
      refine X_getR 33 f_X11_10 (hL.ob (c := 11) (by decide) rfl) rfl (hL.rr (by decide) rfl) dX11_look_30 rfl ?_
      refine X_getR 36 f_X11_63 (hL.W (Or.inl rfl)) rfl (hL.wrr (Or.inl rfl) (k := 0) (x := 1) rfl rfl (by decide)) dX11_look_33 rfl ?_
      refine X_iload_n 37 dX11_look_36 rfl rfl ?_
      obtain ⟨c7, hw⟩ := hw
      refine X_aald 38 (Nat.le_refl 5) (by decide) (hL.war (Or.inl rfl) (k := 1) (t := 5) (n := 10) rfl rfl (by decide)) c7 (hL.ownr (Or.inl rfl) (vp_lt c7)) dX11_look_37 rfl ?_
      refine X_astore_n 39 (ls' := [.ref 0, .int p0, .int p1, .ref ((oA 1 (tn p0)))]) dX11_look_38 rfl rfl (Nat.le_of_ble_eq_true rfl) rfl (Or.inr (Or.inr ⟨_, rfl, rfl⟩)) ?_
      refine X_iload_n 40 dX11_look_39 rfl rfl ?_
      by_cases c8 : p1 = (0 : Int32)
      · have hw := hw.1 c8
        refine Y_tableIn 92 (k := 0) (off := 52) c8 dX11_look_40 (by decide) (by decide) rfl rfl ?_
        refine X_aload_n 93 dX11_look_92 rfl rfl ?_
        refine X_getI 96 f_X11_265 (hL.own (Or.inl rfl) (vp_lt c7)) rfl dX11_look_93 rfl ?_
        exact X_ret rfl rfl dX11_look_96 ⟨_, _, rfl, rfl, hw⟩
      · have hw := hw.2 c8
        by_cases c9 : p1 = (1 : Int32)
        · have hw := hw.1 c9
          refine Y_tableIn 97 (k := 1) (off := 57) c9 dX11_look_40 (by decide) (by decide) rfl rfl ?_
          refine X_aload_n 98 dX11_look_97 rfl rfl ?_
          refine X_getI 101 f_X11_266 (hL.own (Or.inl rfl) (vp_lt c7)) rfl dX11_look_98 rfl ?_
          exact X_ret rfl rfl dX11_look_101 ⟨_, _, rfl, rfl, hw⟩
        · have hw := hw.2 c9
          by_cases c10 : p1 = (2 : Int32)
          · have hw := hw.1 c10
            refine Y_tableIn 102 (k := 2) (off := 62) c10 dX11_look_40 (by decide) (by decide) rfl rfl ?_
            refine X_aload_n 103 dX11_look_102 rfl rfl ?_
            refine X_getR 106 f_X11_10 (hL.ob (c := 11) (by decide) rfl) rfl (hL.rr (by decide) rfl) dX11_look_103 rfl ?_
            refine X_getQ 109 f_X11_269 (hL.W (Or.inl rfl)) rfl dX11_look_106 rfl ?_
            refine X_ifnonnull 116 112 dX11_look_109 rfl rfl (fun a12 c11 => ?_) (fun c11 => ?_)
            · have hw := hw.2 a12 c11
              refine X_aload_n 117 dX11_look_116 rfl rfl ?_
              refine X_getI 120 f_X11_272 (hL.own (Or.inl rfl) (vp_lt c7)) rfl dX11_look_117 rfl ?_
              exact X_ret rfl rfl dX11_look_120 ⟨_, _, rfl, rfl, hw⟩
            · have hw := hw.1 c11
              refine X_iconst 113 (v := -1) dX11_look_112 rfl rfl ?_
              refine X_goto 120 dX11_look_113 rfl ?_
              exact X_ret rfl rfl dX11_look_120 ⟨_, _, rfl, rfl, hw⟩
          · have hw := hw.2 c10
            by_cases c13 : p1 = (3 : Int32)
            · have hw := hw.1 c13
              refine Y_tableIn 121 (k := 3) (off := 81) c13 dX11_look_40 (by decide) (by decide) rfl rfl ?_
              refine X_aload_n 122 dX11_look_121 rfl rfl ?_
              refine X_getI 125 f_X11_219 (hL.own (Or.inl rfl) (vp_lt c7)) rfl dX11_look_122 rfl ?_
              exact X_ret rfl rfl dX11_look_125 ⟨_, _, rfl, rfl, hw⟩
            · have hw := hw.2 c13
              by_cases c14 : p1 = (4 : Int32)
              · have hw := hw.1 c14
                refine Y_tableIn 126 (k := 4) (off := 86) c14 dX11_look_40 (by decide) (by decide) rfl rfl ?_
                refine X_aload_n 127 dX11_look_126 rfl rfl ?_
                refine X_getI 130 f_X11_88 (hL.own (Or.inl rfl) (vp_lt c7)) rfl dX11_look_127 rfl ?_
                obtain ⟨x15, ex15⟩ : ∃ x15 : Int32, x15 = (if (mi M4 (oA 1 (tn p0)) 5) = 0 then (0 : Int32) else (1 : Int32)) := ⟨_, rfl⟩
                have hw := hw x15 ex15
                have bx15 : BZ x15 := by rw [ex15]; (repeat' split) <;> first | exact Or.inl rfl | exact Or.inr rfl
                have hJ : X (FM (QI L Q)) RX11 cX11_look (some .int) 4 "look" 2 0 0 (L, M4) 138 [.ref 0, .int p0, .int p1, .ref ((oA 1 (tn p0)))] [.int x15] := by
                  exact X_ret rfl rfl dX11_look_138 ⟨_, _, rfl, rfl, hw⟩
                refine X_if_eq 137 133 (y := 0) dX11_look_130 rfl rfl (fun c16 => ?_) (fun c16 => ?_)
                · refine X_iconst 138 (v := 0) dX11_look_137 rfl rfl ?_
                  rw [if_pos c16] at ex15
                  rw [ex15] at hJ
                  exact hJ
                · refine X_iconst 134 (v := 1) dX11_look_133 rfl rfl ?_
                  refine X_goto 138 dX11_look_134 rfl ?_
                  rw [if_neg c16] at ex15
                  rw [ex15] at hJ
                  exact hJ
              · have hw := hw.2 c14
                by_cases c17 : p1 = (5 : Int32)
                · have hw := hw.1 c17
                  refine Y_tableIn 139 (k := 5) (off := 99) c17 dX11_look_40 (by decide) (by decide) rfl rfl ?_
                  refine X_aload_n 140 dX11_look_139 rfl rfl ?_
                  refine X_getI 143 f_X11_67 (hL.own (Or.inl rfl) (vp_lt c7)) rfl dX11_look_140 rfl ?_
                  exact X_ret rfl rfl dX11_look_143 ⟨_, _, rfl, rfl, hw⟩
                · have hw := hw.2 c17
                  by_cases c18 : p1 = (6 : Int32)
                  · have hw := hw.1 c18
                    refine Y_tableIn 144 (k := 6) (off := 104) c18 dX11_look_40 (by decide) (by decide) rfl rfl ?_
                    refine X_aload_n 145 dX11_look_144 rfl rfl ?_
                    refine X_getI 148 f_X11_72 (hL.own (Or.inl rfl) (vp_lt c7)) rfl dX11_look_145 rfl ?_
                    exact X_ret rfl rfl dX11_look_148 ⟨_, _, rfl, rfl, hw⟩
                  · have hw := hw.2 c18
                    by_cases c19 : p1 = (7 : Int32)
                    · have hw := hw.1 c19
                      refine Y_tableIn 149 (k := 7) (off := 109) c19 dX11_look_40 (by decide) (by decide) rfl rfl ?_
                      refine X_aload_n 150 dX11_look_149 rfl rfl ?_
                      refine X_getI 153 f_X11_75 (hL.own (Or.inl rfl) (vp_lt c7)) rfl dX11_look_150 rfl ?_
                      exact X_ret rfl rfl dX11_look_153 ⟨_, _, rfl, rfl, hw⟩
                    · have hw := hw.2 c19
                      by_cases c20 : p1 = (8 : Int32)
                      · have hw := hw.1 c20
                        refine Y_tableIn 154 (k := 8) (off := 114) c20 dX11_look_40 (by decide) (by decide) rfl rfl ?_
                        refine X_aload_n 155 dX11_look_154 rfl rfl ?_
                        refine X_getI 158 f_X11_78 (hL.own (Or.inl rfl) (vp_lt c7)) rfl dX11_look_155 rfl ?_
                        exact X_ret rfl rfl dX11_look_158 ⟨_, _, rfl, rfl, hw⟩
                      · have hw := hw.2 c20
                        have hout : p1.toInt < 0 ∨ 8 < p1.toInt := by
                          have hc8 : ¬ p1.toInt = 0 := fun h => c8 (Int32.toInt_inj.mp (h.trans (by decide)))
                          have hc9 : ¬ p1.toInt = 1 := fun h => c9 (Int32.toInt_inj.mp (h.trans (by decide)))
                          have hc10 : ¬ p1.toInt = 2 := fun h => c10 (Int32.toInt_inj.mp (h.trans (by decide)))
                          have hc13 : ¬ p1.toInt = 3 := fun h => c13 (Int32.toInt_inj.mp (h.trans (by decide)))
                          have hc14 : ¬ p1.toInt = 4 := fun h => c14 (Int32.toInt_inj.mp (h.trans (by decide)))
                          have hc17 : ¬ p1.toInt = 5 := fun h => c17 (Int32.toInt_inj.mp (h.trans (by decide)))
                          have hc18 : ¬ p1.toInt = 6 := fun h => c18 (Int32.toInt_inj.mp (h.trans (by decide)))
                          have hc19 : ¬ p1.toInt = 7 := fun h => c19 (Int32.toInt_inj.mp (h.trans (by decide)))
                          have hc20 : ¬ p1.toInt = 8 := fun h => c20 (Int32.toInt_inj.mp (h.trans (by decide)))
                          omega
                        refine X_tableOut 159 dX11_look_40 hout rfl ?_
                        refine X_aload_n 160 dX11_look_159 rfl rfl ?_
                        refine X_getI 163 f_X11_85 (hL.own (Or.inl rfl) (vp_lt c7)) rfl dX11_look_160 rfl ?_
                        exact X_ret rfl rfl dX11_look_163 ⟨_, _, rfl, rfl, hw⟩
    · have hw := hw.1 c6
      refine X_weak (ls' := [junk, junk, junk, junk]) (WK.j (WK.j (WK.j (WK.s WK.n)))) (Nat.le_of_ble_eq_true rfl) ?_
      exact t_X11_look_18 hL   hw 
def w_X11_month (L : Lay) (p0 : Int32) (p1 : Int32) (p2 : Int32) (M : Mem) (Q : Int32 → Mem → Prop) : Prop := w_X11_isOwner L p0 M (fun x2 M1 => (((x2 = 0 → (Q (-1 : Int32) M1)) ∧ (¬ x2 = 0 → (w_X11_isOver L p1 M1 (fun x5 M4 => (((x5 = 0 → (Q (-1 : Int32) M4)) ∧ (¬ x5 = 0 → (w_X11_isWithin L p2 (0 : Int32) (1 : Int32) M4 (fun x8 M7 => (((x8 = 0 → (Q (-1 : Int32) M7)) ∧ (¬ x8 = 0 → (((p2 = 0 → (w_X2_place L p0 p1 M7 (fun x18 M17 => (vp_in x18 240 ∧ (Q (mi M17 77 (tn x18)) M17))))) ∧ (¬ p2 = 0 → (vp_in p1 24 ∧ ((((mp M7 76 (tn p1)) = none → (Q (-1 : Int32) M7)) ∧ ∀ a13 : Nat, (mp M7 76 (tn p1)) = some a13 → (w_X2_place L p0 p1 M7 (fun x15 M14 => (vp_in x15 240 ∧ (Q (mi M14 78 (tn x15)) M14))))))))))))))))))))))))
set_option maxRecDepth 20000 in
theorem s_X11_month {L : Lay} (hL : LY L) {p0 : Int32} {p1 : Int32} {p2 : Int32}  {M : Mem} {Q : Int32 → Mem → Prop} (hw : w_X11_month L p0 p1 p2 M Q) : MX yX11_month cX11_month (some .int) 4 2 0 0 [.ref 0, .int p0, .int p1, .int p2] (L, M) (QI L Q) := by
  unfold w_X11_month at hw
  refine MX_of (by decide) [.ref 0, .int p0, .int p1, .int p2] (by rfl) (by exact Nat.le_of_ble_eq_true rfl) ?_
  show X (FM (QI L Q)) RX11 cX11_month (some .int) 4 "month" 2 0 0 (L, M) 0 [.ref 0, .int p0, .int p1, .int p2] []
  refine X_aload_n 1 dX11_month_0 rfl rfl ?_
  refine X_iload_n 2 dX11_month_1 rfl rfl ?_
  refine Y_cVZ 5 (as := [.int p0]) m_X11_81 (s_X11_isOwner hL  hw) (hL.ob (c := 11) (by decide) rfl) rfl (by decide) (Nat.le_of_ble_eq_true rfl) dX11_month_2 rfl rfl (fun x2 M1 bx2 hw => ?_)
  refine X_if_eq 25 8 (y := 0) dX11_month_5 rfl rfl (fun c3 => ?_) (fun c3 => ?_)
  · have hw := hw.1 c3
    refine X_iconst 26 (v := -1) dX11_month_25 rfl rfl ?_
    exact X_ret rfl rfl dX11_month_26 ⟨_, _, rfl, rfl, hw⟩
  · have hw := hw.2 c3
    refine X_aload_n 9 dX11_month_8 rfl rfl ?_
    refine X_iload_n 10 dX11_month_9 rfl rfl ?_
    refine Y_cVZ 13 (as := [.int p1]) m_X11_176 (s_X11_isOver hL  hw) (hL.ob (c := 11) (by decide) rfl) rfl (by decide) (Nat.le_of_ble_eq_true rfl) dX11_month_10 rfl rfl (fun x5 M4 bx5 hw => ?_)
    refine X_if_eq 25 16 (y := 0) dX11_month_13 rfl rfl (fun c6 => ?_) (fun c6 => ?_)
    · have hw := hw.1 c6
      refine X_iconst 26 (v := -1) dX11_month_25 rfl rfl ?_
      exact X_ret rfl rfl dX11_month_26 ⟨_, _, rfl, rfl, hw⟩
    · have hw := hw.2 c6
      refine X_iload_n 17 dX11_month_16 rfl rfl ?_
      refine X_iconst 18 (v := 0) dX11_month_17 rfl rfl ?_
      refine X_iconst 19 (v := 1) dX11_month_18 rfl rfl ?_
      refine Y_cSZ 22 (as := [.int p2, .int (0 : Int32), .int (1 : Int32)]) m_X11_55 (s_X11_isWithin hL  hw) rfl (by decide) (Nat.le_of_ble_eq_true rfl) dX11_month_19 rfl rfl (fun x8 M7 bx8 hw => ?_)
      refine X_if_ne 27 25 (y := 0) dX11_month_22 rfl rfl (fun c9 => ?_) (fun c9 => ?_)
      · have hw := hw.2 c9
        refine X_iload_n 28 dX11_month_27 rfl rfl ?_
        refine X_if_ne 49 31 (y := 0) dX11_month_28 rfl rfl (fun c10 => ?_) (fun c10 => ?_)
        · have hw := hw.2 c10
          refine X_aload_n 50 dX11_month_49 rfl rfl ?_
          refine X_getR 53 f_X11_29 (hL.ob (c := 11) (by decide) rfl) rfl (hL.rr (by decide) rfl) dX11_month_50 rfl ?_
          refine X_getR 56 f_X11_211 (hL.ob (c := 2) (by decide) rfl) rfl (hL.rr (by decide) rfl) dX11_month_53 rfl ?_
          refine X_iload_n 57 dX11_month_56 rfl rfl ?_
          obtain ⟨c11, hw⟩ := hw
          refine X_aaldQ 58 (hL.ar (t := 7) (n := 24) (by decide) rfl) c11 dX11_month_57 rfl ?_
          refine X_ifnonnull 65 61 dX11_month_58 rfl rfl (fun a13 c12 => ?_) (fun c12 => ?_)
          · have hw := hw.2 a13 c12
            refine X_aload_n 66 dX11_month_65 rfl rfl ?_
            refine X_getR 69 f_X11_29 (hL.ob (c := 11) (by decide) rfl) rfl (hL.rr (by decide) rfl) dX11_month_66 rfl ?_
            refine X_getR 72 f_X11_277 (hL.ob (c := 2) (by decide) rfl) rfl (hL.rr (by decide) rfl) dX11_month_69 rfl ?_
            refine X_aload_n 73 dX11_month_72 rfl rfl ?_
            refine X_getR 76 f_X11_29 (hL.ob (c := 11) (by decide) rfl) rfl (hL.rr (by decide) rfl) dX11_month_73 rfl ?_
            refine X_iload_n 77 dX11_month_76 rfl rfl ?_
            refine X_iload_n 78 dX11_month_77 rfl rfl ?_
            refine Y_cVI 81 (as := [.int p0, .int p1]) m_X11_179 (s_X2_place hL  hw) (hL.ob (c := 2) (by decide) rfl) rfl (by decide) (Nat.le_of_ble_eq_true rfl) dX11_month_78 rfl rfl (fun x15 M14 hw => ?_)
            obtain ⟨c16, hw⟩ := hw
            refine Y_iald 82 (k := (tn x15)) (hL.ar (t := 0) (n := 240) (by decide) rfl) c16 rfl dX11_month_81 rfl ?_
            exact X_ret rfl rfl dX11_month_82 ⟨_, _, rfl, rfl, hw⟩
          · have hw := hw.1 c12
            refine X_iconst 62 (v := -1) dX11_month_61 rfl rfl ?_
            refine X_goto 82 dX11_month_62 rfl ?_
            exact X_ret rfl rfl dX11_month_82 ⟨_, _, rfl, rfl, hw⟩
        · have hw := hw.1 c10
          refine X_aload_n 32 dX11_month_31 rfl rfl ?_
          refine X_getR 35 f_X11_29 (hL.ob (c := 11) (by decide) rfl) rfl (hL.rr (by decide) rfl) dX11_month_32 rfl ?_
          refine X_getR 38 f_X11_275 (hL.ob (c := 2) (by decide) rfl) rfl (hL.rr (by decide) rfl) dX11_month_35 rfl ?_
          refine X_aload_n 39 dX11_month_38 rfl rfl ?_
          refine X_getR 42 f_X11_29 (hL.ob (c := 11) (by decide) rfl) rfl (hL.rr (by decide) rfl) dX11_month_39 rfl ?_
          refine X_iload_n 43 dX11_month_42 rfl rfl ?_
          refine X_iload_n 44 dX11_month_43 rfl rfl ?_
          refine Y_cVI 47 (as := [.int p0, .int p1]) m_X11_179 (s_X2_place hL  hw) (hL.ob (c := 2) (by decide) rfl) rfl (by decide) (Nat.le_of_ble_eq_true rfl) dX11_month_44 rfl rfl (fun x18 M17 hw => ?_)
          obtain ⟨c19, hw⟩ := hw
          refine Y_iald 48 (k := (tn x18)) (hL.ar (t := 0) (n := 240) (by decide) rfl) c19 rfl dX11_month_47 rfl ?_
          exact X_ret rfl rfl dX11_month_48 ⟨_, _, rfl, rfl, hw⟩
      · have hw := hw.1 c9
        refine X_iconst 26 (v := -1) dX11_month_25 rfl rfl ?_
        exact X_ret rfl rfl dX11_month_26 ⟨_, _, rfl, rfl, hw⟩
def w_X11_isShip (L : Lay) (p0 : Int32) (M : Mem) (Q : Int32 → Mem → Prop) : Prop := ∀ x1 : Int32, x1 = (if p0 < 0 then (0 : Int32) else (if p0 < (mi M 1 4) then (1 : Int32) else (0 : Int32))) → (Q x1 M)
set_option maxRecDepth 20000 in
theorem s_X11_isShip {L : Lay} (hL : LY L) {p0 : Int32}  {M : Mem} {Q : Int32 → Mem → Prop} (hw : w_X11_isShip L p0 M Q) : MX yX11_isShip cX11_isShip (some .boolean) 2 1 0 0 [.ref 0, .int p0] (L, M) (QZ L Q) := by
  unfold w_X11_isShip at hw
  refine MX_of (by decide) [.ref 0, .int p0] (by rfl) (by exact Nat.le_of_ble_eq_true rfl) ?_
  show X (FM (QZ L Q)) RX11 cX11_isShip (some .boolean) 2 "isShip" 1 0 0 (L, M) 0 [.ref 0, .int p0] []
  refine X_iload_n 1 dX11_isShip_0 rfl rfl ?_
  obtain ⟨x1, ex1⟩ : ∃ x1 : Int32, x1 = (if p0 < 0 then (0 : Int32) else (if p0 < (mi M 1 4) then (1 : Int32) else (0 : Int32))) := ⟨_, rfl⟩
  have hw := hw x1 ex1
  have bx1 : BZ x1 := by rw [ex1]; (repeat' split) <;> first | exact Or.inl rfl | exact Or.inr rfl
  have hJ : X (FM (QZ L Q)) RX11 cX11_isShip (some .boolean) 2 "isShip" 1 0 0 (L, M) 20 [.ref 0, .int p0] [.int x1] := by
    exact X_ret rfl (nar_bool (bx1)) dX11_isShip_20 ⟨_, _, rfl, bx1, rfl, hw⟩
  refine X_if_lt 19 4 (y := 0) dX11_isShip_1 rfl rfl (fun c2 => ?_) (fun c2 => ?_)
  · refine X_iconst 20 (v := 0) dX11_isShip_19 rfl rfl ?_
    rw [if_pos c2] at ex1
    rw [ex1] at hJ
    exact hJ
  · refine X_iload_n 5 dX11_isShip_4 rfl rfl ?_
    refine X_aload_n 6 dX11_isShip_5 rfl rfl ?_
    refine X_getR 9 f_X11_10 (hL.ob (c := 11) (by decide) rfl) rfl (hL.rr (by decide) rfl) dX11_isShip_6 rfl ?_
    refine X_getI 12 f_X11_92 (hL.W (Or.inl rfl)) rfl dX11_isShip_9 rfl ?_
    refine X_icmp_ge 19 15 dX11_isShip_12 rfl rfl (fun c3 => ?_) (fun c3 => ?_)
    · refine X_iconst 20 (v := 0) dX11_isShip_19 rfl rfl ?_
      rw [if_neg c2, if_neg c3] at ex1
      rw [ex1] at hJ
      exact hJ
    · refine X_iconst 16 (v := 1) dX11_isShip_15 rfl rfl ?_
      refine X_goto 20 dX11_isShip_16 rfl ?_
      rw [if_neg c2, if_pos c3] at ex1
      rw [ex1] at hJ
      exact hJ
def w_X11_lies (L : Lay) (p0 : Int32) (p1 : Int32) (M : Mem) (Q : Int32 → Mem → Prop) : Prop := w_X11_isShip L p0 M (fun x2 M1 => (((x2 = 0 → (Q (-1 : Int32) M1)) ∧ (¬ x2 = 0 → (vp_in p0 8 ∧ (((p1 = (0 : Int32) → (Q (mi M1 (sA 1 (tn p0)) 2) M1)) ∧ (¬ p1 = (0 : Int32) → (((p1 = (1 : Int32) → (Q (mi M1 (sA 1 (tn p0)) 5) M1)) ∧ (¬ p1 = (1 : Int32) → (((p1 = (2 : Int32) → (Q (mi M1 (sA 1 (tn p0)) 3) M1)) ∧ (¬ p1 = (2 : Int32) → (((p1 = (3 : Int32) → (Q (mi M1 (sA 1 (tn p0)) 4) M1)) ∧ (¬ p1 = (3 : Int32) → (Q (-1 : Int32) M1))))))))))))))))))
set_option maxRecDepth 20000 in
theorem s_X11_lies {L : Lay} (hL : LY L) {p0 : Int32} {p1 : Int32}  {M : Mem} {Q : Int32 → Mem → Prop} (hw : w_X11_lies L p0 p1 M Q) : MX yX11_lies cX11_lies (some .int) 4 2 0 0 [.ref 0, .int p0, .int p1] (L, M) (QI L Q) := by
  unfold w_X11_lies at hw
  refine MX_of (by decide) [.ref 0, .int p0, .int p1, junk] (by rfl) (by exact Nat.le_of_ble_eq_true rfl) ?_
  show X (FM (QI L Q)) RX11 cX11_lies (some .int) 4 "lies" 2 0 0 (L, M) 0 [.ref 0, .int p0, .int p1, junk] []
  refine X_aload_n 1 dX11_lies_0 rfl rfl ?_
  refine X_iload_n 2 dX11_lies_1 rfl rfl ?_
  refine Y_cVZ 5 (as := [.int p0]) m_X11_280 (s_X11_isShip hL  hw) (hL.ob (c := 11) (by decide) rfl) rfl (by decide) (Nat.le_of_ble_eq_true rfl) dX11_lies_2 rfl rfl (fun x2 M1 bx2 hw => ?_)
  refine X_if_ne 10 8 (y := 0) dX11_lies_5 rfl rfl (fun c3 => ?_) (fun c3 => ?_)
  · have hw := hw.2 c3
    refine X_aload_n 11 dX11_lies_10 rfl rfl ?_
    refine X_getR 14 f_X11_10 (hL.ob (c := 11) (by decide) rfl) rfl (hL.rr (by decide) rfl) dX11_lies_11 rfl ?_
    refine X_getR 17 f_X11_95 (hL.W (Or.inl rfl)) rfl (hL.wrr (Or.inl rfl) (k := 0) (x := 2) rfl rfl (by decide)) dX11_lies_14 rfl ?_
    refine X_iload_n 18 dX11_lies_17 rfl rfl ?_
    obtain ⟨c4, hw⟩ := hw
    refine X_aald 19 (by decide) (by decide) (hL.war (Or.inl rfl) (k := 2) (t := 6) (n := 8) rfl rfl (by decide)) c4 (hL.shpr (Or.inl rfl) (vp_lt c4)) dX11_lies_18 rfl ?_
    refine X_astore_n 20 (ls' := [.ref 0, .int p0, .int p1, .ref ((sA 1 (tn p0)))]) dX11_lies_19 rfl rfl (Nat.le_of_ble_eq_true rfl) rfl (Or.inr (Or.inr ⟨_, rfl, rfl⟩)) ?_
    refine X_iload_n 21 dX11_lies_20 rfl rfl ?_
    by_cases c5 : p1 = (0 : Int32)
    · have hw := hw.1 c5
      refine Y_tableIn 52 (k := 0) (off := 31) c5 dX11_lies_21 (by decide) (by decide) rfl rfl ?_
      refine X_aload_n 53 dX11_lies_52 rfl rfl ?_
      refine X_getI 56 f_X11_283 (hL.shp (Or.inl rfl) (vp_lt c4)).1 rfl dX11_lies_53 rfl ?_
      exact X_ret rfl rfl dX11_lies_56 ⟨_, _, rfl, rfl, hw⟩
    · have hw := hw.2 c5
      by_cases c6 : p1 = (1 : Int32)
      · have hw := hw.1 c6
        refine Y_tableIn 57 (k := 1) (off := 36) c6 dX11_lies_21 (by decide) (by decide) rfl rfl ?_
        refine X_aload_n 58 dX11_lies_57 rfl rfl ?_
        refine X_getI 61 f_X11_285 (hL.shp (Or.inl rfl) (vp_lt c4)).1 rfl dX11_lies_58 rfl ?_
        exact X_ret rfl rfl dX11_lies_61 ⟨_, _, rfl, rfl, hw⟩
      · have hw := hw.2 c6
        by_cases c7 : p1 = (2 : Int32)
        · have hw := hw.1 c7
          refine Y_tableIn 62 (k := 2) (off := 41) c7 dX11_lies_21 (by decide) (by decide) rfl rfl ?_
          refine X_aload_n 63 dX11_lies_62 rfl rfl ?_
          refine X_getI 66 f_X11_288 (hL.shp (Or.inl rfl) (vp_lt c4)).1 rfl dX11_lies_63 rfl ?_
          exact X_ret rfl rfl dX11_lies_66 ⟨_, _, rfl, rfl, hw⟩
        · have hw := hw.2 c7
          by_cases c8 : p1 = (3 : Int32)
          · have hw := hw.1 c8
            refine Y_tableIn 67 (k := 3) (off := 46) c8 dX11_lies_21 (by decide) (by decide) rfl rfl ?_
            refine X_aload_n 68 dX11_lies_67 rfl rfl ?_
            refine X_getI 71 f_X11_110 (hL.shp (Or.inl rfl) (vp_lt c4)).1 rfl dX11_lies_68 rfl ?_
            exact X_ret rfl rfl dX11_lies_71 ⟨_, _, rfl, rfl, hw⟩
          · have hw := hw.2 c8
            have hout : p1.toInt < 0 ∨ 3 < p1.toInt := by
              have hc5 : ¬ p1.toInt = 0 := fun h => c5 (Int32.toInt_inj.mp (h.trans (by decide)))
              have hc6 : ¬ p1.toInt = 1 := fun h => c6 (Int32.toInt_inj.mp (h.trans (by decide)))
              have hc7 : ¬ p1.toInt = 2 := fun h => c7 (Int32.toInt_inj.mp (h.trans (by decide)))
              have hc8 : ¬ p1.toInt = 3 := fun h => c8 (Int32.toInt_inj.mp (h.trans (by decide)))
              omega
            refine X_tableOut 72 dX11_lies_21 hout rfl ?_
            refine X_iconst 73 (v := -1) dX11_lies_72 rfl rfl ?_
            exact X_ret rfl rfl dX11_lies_73 ⟨_, _, rfl, rfl, hw⟩
  · have hw := hw.1 c3
    refine X_iconst 9 (v := -1) dX11_lies_8 rfl rfl ?_
    exact X_ret rfl rfl dX11_lies_9 ⟨_, _, rfl, rfl, hw⟩
def w_X11_load (L : Lay) (p0 : Int32) (p1 : Int32) (M : Mem) (Q : Int32 → Mem → Prop) : Prop := w_X11_isShip L p0 M (fun x2 M1 => (((x2 = 0 → (Q (-1 : Int32) M1)) ∧ (¬ x2 = 0 → (((p1 < 0 → (Q (-1 : Int32) M1)) ∧ (¬ p1 < 0 → (vp_in p0 8 ∧ (((p1 < (mi M1 (sA 1 (tn p0)) 5) → (vp_in p1 12 ∧ (Q (mi M1 ((sA 1 (tn p0)) + 1) (tn p1)) M1))) ∧ (¬ p1 < (mi M1 (sA 1 (tn p0)) 5) → (Q (-1 : Int32) M1))))))))))))
set_option maxRecDepth 20000 in
theorem s_X11_load {L : Lay} (hL : LY L) {p0 : Int32} {p1 : Int32}  {M : Mem} {Q : Int32 → Mem → Prop} (hw : w_X11_load L p0 p1 M Q) : MX yX11_load cX11_load (some .int) 3 2 0 0 [.ref 0, .int p0, .int p1] (L, M) (QI L Q) := by
  unfold w_X11_load at hw
  refine MX_of (by decide) [.ref 0, .int p0, .int p1] (by rfl) (by exact Nat.le_of_ble_eq_true rfl) ?_
  show X (FM (QI L Q)) RX11 cX11_load (some .int) 3 "load" 2 0 0 (L, M) 0 [.ref 0, .int p0, .int p1] []
  refine X_aload_n 1 dX11_load_0 rfl rfl ?_
  refine X_iload_n 2 dX11_load_1 rfl rfl ?_
  refine Y_cVZ 5 (as := [.int p0]) m_X11_280 (s_X11_isShip hL  hw) (hL.ob (c := 11) (by decide) rfl) rfl (by decide) (Nat.le_of_ble_eq_true rfl) dX11_load_2 rfl rfl (fun x2 M1 bx2 hw => ?_)
  refine X_if_eq 28 8 (y := 0) dX11_load_5 rfl rfl (fun c3 => ?_) (fun c3 => ?_)
  · have hw := hw.1 c3
    refine X_iconst 29 (v := -1) dX11_load_28 rfl rfl ?_
    exact X_ret rfl rfl dX11_load_29 ⟨_, _, rfl, rfl, hw⟩
  · have hw := hw.2 c3
    refine X_iload_n 9 dX11_load_8 rfl rfl ?_
    refine X_if_lt 28 12 (y := 0) dX11_load_9 rfl rfl (fun c4 => ?_) (fun c4 => ?_)
    · have hw := hw.1 c4
      refine X_iconst 29 (v := -1) dX11_load_28 rfl rfl ?_
      exact X_ret rfl rfl dX11_load_29 ⟨_, _, rfl, rfl, hw⟩
    · have hw := hw.2 c4
      refine X_iload_n 13 dX11_load_12 rfl rfl ?_
      refine X_aload_n 14 dX11_load_13 rfl rfl ?_
      refine X_getR 17 f_X11_10 (hL.ob (c := 11) (by decide) rfl) rfl (hL.rr (by decide) rfl) dX11_load_14 rfl ?_
      refine X_getR 20 f_X11_95 (hL.W (Or.inl rfl)) rfl (hL.wrr (Or.inl rfl) (k := 0) (x := 2) rfl rfl (by decide)) dX11_load_17 rfl ?_
      refine X_iload_n 21 dX11_load_20 rfl rfl ?_
      obtain ⟨c5, hw⟩ := hw
      refine X_aald 22 (by decide) (by decide) (hL.war (Or.inl rfl) (k := 2) (t := 6) (n := 8) rfl rfl (by decide)) c5 (hL.shpr (Or.inl rfl) (vp_lt c5)) dX11_load_21 rfl ?_
      refine X_getI 25 f_X11_285 (hL.shp (Or.inl rfl) (vp_lt c5)).1 rfl dX11_load_22 rfl ?_
      refine X_icmp_lt 30 28 dX11_load_25 rfl rfl (fun c6 => ?_) (fun c6 => ?_)
      · have hw := hw.1 c6
        refine X_aload_n 31 dX11_load_30 rfl rfl ?_
        refine X_getR 34 f_X11_10 (hL.ob (c := 11) (by decide) rfl) rfl (hL.rr (by decide) rfl) dX11_load_31 rfl ?_
        refine X_getR 37 f_X11_95 (hL.W (Or.inl rfl)) rfl (hL.wrr (Or.inl rfl) (k := 0) (x := 2) rfl rfl (by decide)) dX11_load_34 rfl ?_
        refine X_iload_n 38 dX11_load_37 rfl rfl ?_
        refine X_aald 39 (by decide) (by decide) (hL.war (Or.inl rfl) (k := 2) (t := 6) (n := 8) rfl rfl (by decide)) c5 (hL.shpr (Or.inl rfl) (vp_lt c5)) dX11_load_38 rfl ?_
        refine X_getR 42 f_X11_291 (hL.shp (Or.inl rfl) (vp_lt c5)).1 rfl (hL.shp (Or.inl rfl) (vp_lt c5)).2.1 dX11_load_39 rfl ?_
        refine X_iload_n 43 dX11_load_42 rfl rfl ?_
        obtain ⟨c7, hw⟩ := hw
        refine Y_iald 44 (k := (tn p1)) (hL.shp (Or.inl rfl) (vp_lt c5)).2.2 c7 rfl dX11_load_43 rfl ?_
        exact X_ret rfl rfl dX11_load_44 ⟨_, _, rfl, rfl, hw⟩
      · have hw := hw.2 c6
        refine X_iconst 29 (v := -1) dX11_load_28 rfl rfl ?_
        exact X_ret rfl rfl dX11_load_29 ⟨_, _, rfl, rfl, hw⟩
def w_X11_countMore (L : Lay) (p0 : Int32) (M : Mem) (Q : Int32 → Mem → Prop) : Prop := ((p0 = (9 : Int32) → (w_X10_barNow L 1 M (fun x3 M2 => (w_X8_countBad L x3 M2 (fun x5 M4 => (Q x5 M4)))))) ∧ (¬ p0 = (9 : Int32) → (((p0 = (10 : Int32) → (Q (mi M 4 3) M)) ∧ (¬ p0 = (10 : Int32) → (((p0 = (11 : Int32) → (Q (mi M 1 6) M)) ∧ (¬ p0 = (11 : Int32) → (((p0 = (12 : Int32) → (w_X10_breakerSet L 1 M (fun x10 M9 => (w_J6_bitCount_0f7a4 L x10 M9 (fun x12 M11 => (Q x12 M11)))))) ∧ (¬ p0 = (12 : Int32) → (((p0 = (13 : Int32) → (Q (mi M 71 1) M)) ∧ (¬ p0 = (13 : Int32) → (((p0 = (14 : Int32) → (Q (mi M 0 7) M)) ∧ (¬ p0 = (14 : Int32) → (((p0 = (15 : Int32) → (Q (mi M 1 7) M)) ∧ (¬ p0 = (15 : Int32) → (((p0 = (16 : Int32) → ((((mp M 1 12) = none → (Q (0 : Int32) M)) ∧ ∀ a18 : Nat, (mp M 1 12) = some a18 → (Q (1 : Int32) M)))) ∧ (¬ p0 = (16 : Int32) → (Q (-1 : Int32) M))))))))))))))))))))))))
set_option maxRecDepth 20000 in
theorem s_X11_countMore {L : Lay} (hL : LY L) {p0 : Int32}  {M : Mem} {Q : Int32 → Mem → Prop} (hw : w_X11_countMore L p0 M Q) : MX yX11_countMore cX11_countMore (some .int) 2 3 0 0 [.ref 0, .int p0] (L, M) (QI L Q) := by
  unfold w_X11_countMore at hw
  refine MX_of (by decide) [.ref 0, .int p0] (by rfl) (by exact Nat.le_of_ble_eq_true rfl) ?_
  show X (FM (QI L Q)) RX11 cX11_countMore (some .int) 2 "countMore" 3 0 0 (L, M) 0 [.ref 0, .int p0] []
  refine X_iload_n 1 dX11_countMore_0 rfl rfl ?_
  by_cases c1 : p0 = (9 : Int32)
  · have hw := hw.1 c1
    refine Y_tableIn 48 (k := 9) (off := 47) c1 dX11_countMore_1 (by decide) (by decide) rfl rfl ?_
    refine X_aload_n 49 dX11_countMore_48 rfl rfl ?_
    refine X_getR 52 f_X11_43 (hL.ob (c := 11) (by decide) rfl) rfl (hL.rr (by decide) rfl) dX11_countMore_49 rfl ?_
    refine X_aload_n 53 dX11_countMore_52 rfl rfl ?_
    refine X_getR 56 f_X11_10 (hL.ob (c := 11) (by decide) rfl) rfl (hL.rr (by decide) rfl) dX11_countMore_53 rfl ?_
    refine Y_cVI 59 (as := []) m_X11_227 (s_X10_barNow hL (Or.inl rfl) hw) (hL.W (Or.inl rfl)) rfl (by decide) (Nat.le_of_ble_eq_true rfl) dX11_countMore_56 rfl rfl (fun x3 M2 hw => ?_)
    refine Y_cVI 62 (as := [.int x3]) m_X11_304 (s_X8_countBad hL  hw) (hL.ob (c := 8) (by decide) rfl) rfl (by decide) (Nat.le_of_ble_eq_true rfl) dX11_countMore_59 rfl rfl (fun x5 M4 hw => ?_)
    exact X_ret rfl rfl dX11_countMore_62 ⟨_, _, rfl, rfl, hw⟩
  · have hw := hw.2 c1
    by_cases c6 : p0 = (10 : Int32)
    · have hw := hw.1 c6
      refine Y_tableIn 63 (k := 10) (off := 62) c6 dX11_countMore_1 (by decide) (by decide) rfl rfl ?_
      refine X_aload_n 64 dX11_countMore_63 rfl rfl ?_
      refine X_getR 67 f_X11_10 (hL.ob (c := 11) (by decide) rfl) rfl (hL.rr (by decide) rfl) dX11_countMore_64 rfl ?_
      refine X_getR 70 f_X11_120 (hL.W (Or.inl rfl)) rfl (hL.wrr (Or.inl rfl) (k := 0) (x := 3) rfl rfl (by decide)) dX11_countMore_67 rfl ?_
      refine X_getI 73 f_X11_307 (hL.wob (Or.inl rfl) (k := 3) (c := 0) rfl rfl (by decide)) rfl dX11_countMore_70 rfl ?_
      exact X_ret rfl rfl dX11_countMore_73 ⟨_, _, rfl, rfl, hw⟩
    · have hw := hw.2 c6
      by_cases c7 : p0 = (11 : Int32)
      · have hw := hw.1 c7
        refine Y_tableIn 74 (k := 11) (off := 73) c7 dX11_countMore_1 (by decide) (by decide) rfl rfl ?_
        refine X_aload_n 75 dX11_countMore_74 rfl rfl ?_
        refine X_getR 78 f_X11_10 (hL.ob (c := 11) (by decide) rfl) rfl (hL.rr (by decide) rfl) dX11_countMore_75 rfl ?_
        refine X_getI 81 f_X11_310 (hL.W (Or.inl rfl)) rfl dX11_countMore_78 rfl ?_
        exact X_ret rfl rfl dX11_countMore_81 ⟨_, _, rfl, rfl, hw⟩
      · have hw := hw.2 c7
        by_cases c8 : p0 = (12 : Int32)
        · have hw := hw.1 c8
          refine Y_tableIn 82 (k := 12) (off := 81) c8 dX11_countMore_1 (by decide) (by decide) rfl rfl ?_
          refine X_aload_n 83 dX11_countMore_82 rfl rfl ?_
          refine X_getR 86 f_X11_10 (hL.ob (c := 11) (by decide) rfl) rfl (hL.rr (by decide) rfl) dX11_countMore_83 rfl ?_
          refine Y_cVI 89 (as := []) m_X11_245 (s_X10_breakerSet hL (Or.inl rfl) hw) (hL.W (Or.inl rfl)) rfl (by decide) (Nat.le_of_ble_eq_true rfl) dX11_countMore_86 rfl rfl (fun x10 M9 hw => ?_)
          refine Y_cSI 92 (as := [.int x10]) m_X11_313 (s_J6_bitCount_0f7a4 hL  hw) rfl (by decide) (Nat.le_of_ble_eq_true rfl) dX11_countMore_89 rfl rfl (fun x12 M11 hw => ?_)
          exact X_ret rfl rfl dX11_countMore_92 ⟨_, _, rfl, rfl, hw⟩
        · have hw := hw.2 c8
          by_cases c13 : p0 = (13 : Int32)
          · have hw := hw.1 c13
            refine Y_tableIn 93 (k := 13) (off := 92) c13 dX11_countMore_1 (by decide) (by decide) rfl rfl ?_
            refine X_aload_n 94 dX11_countMore_93 rfl rfl ?_
            refine X_getR 97 f_X11_22 (hL.ob (c := 11) (by decide) rfl) rfl (hL.rr (by decide) rfl) dX11_countMore_94 rfl ?_
            refine X_getI 100 f_X11_139 (hL.ob (c := 5) (by decide) rfl) rfl dX11_countMore_97 rfl ?_
            exact X_ret rfl rfl dX11_countMore_100 ⟨_, _, rfl, rfl, hw⟩
          · have hw := hw.2 c13
            by_cases c14 : p0 = (14 : Int32)
            · have hw := hw.1 c14
              refine Y_tableIn 101 (k := 14) (off := 100) c14 dX11_countMore_1 (by decide) (by decide) rfl rfl ?_
              refine X_aload_n 102 dX11_countMore_101 rfl rfl ?_
              refine X_getI 105 f_X11_116 (hL.ob (c := 11) (by decide) rfl) rfl dX11_countMore_102 rfl ?_
              exact X_ret rfl rfl dX11_countMore_105 ⟨_, _, rfl, rfl, hw⟩
            · have hw := hw.2 c14
              by_cases c15 : p0 = (15 : Int32)
              · have hw := hw.1 c15
                refine Y_tableIn 106 (k := 15) (off := 105) c15 dX11_countMore_1 (by decide) (by decide) rfl rfl ?_
                refine X_aload_n 107 dX11_countMore_106 rfl rfl ?_
                refine X_getR 110 f_X11_10 (hL.ob (c := 11) (by decide) rfl) rfl (hL.rr (by decide) rfl) dX11_countMore_107 rfl ?_
                refine X_getI 113 f_X11_318 (hL.W (Or.inl rfl)) rfl dX11_countMore_110 rfl ?_
                exact X_ret rfl rfl dX11_countMore_113 ⟨_, _, rfl, rfl, hw⟩
              · have hw := hw.2 c15
                by_cases c16 : p0 = (16 : Int32)
                · have hw := hw.1 c16
                  refine Y_tableIn 114 (k := 16) (off := 113) c16 dX11_countMore_1 (by decide) (by decide) rfl rfl ?_
                  refine X_aload_n 115 dX11_countMore_114 rfl rfl ?_
                  refine X_getR 118 f_X11_10 (hL.ob (c := 11) (by decide) rfl) rfl (hL.rr (by decide) rfl) dX11_countMore_115 rfl ?_
                  refine X_getQ 121 f_X11_146 (hL.W (Or.inl rfl)) rfl dX11_countMore_118 rfl ?_
                  refine X_ifnonnull 128 124 dX11_countMore_121 rfl rfl (fun a18 c17 => ?_) (fun c17 => ?_)
                  · have hw := hw.2 a18 c17
                    refine X_iconst 129 (v := 1) dX11_countMore_128 rfl rfl ?_
                    exact X_ret rfl rfl dX11_countMore_129 ⟨_, _, rfl, rfl, hw⟩
                  · have hw := hw.1 c17
                    refine X_iconst 125 (v := 0) dX11_countMore_124 rfl rfl ?_
                    refine X_goto 129 dX11_countMore_125 rfl ?_
                    exact X_ret rfl rfl dX11_countMore_129 ⟨_, _, rfl, rfl, hw⟩
                · have hw := hw.2 c16
                  have hout : p0.toInt < 9 ∨ 16 < p0.toInt := by
                    have hc1 : ¬ p0.toInt = 9 := fun h => c1 (Int32.toInt_inj.mp (h.trans (by decide)))
                    have hc6 : ¬ p0.toInt = 10 := fun h => c6 (Int32.toInt_inj.mp (h.trans (by decide)))
                    have hc7 : ¬ p0.toInt = 11 := fun h => c7 (Int32.toInt_inj.mp (h.trans (by decide)))
                    have hc8 : ¬ p0.toInt = 12 := fun h => c8 (Int32.toInt_inj.mp (h.trans (by decide)))
                    have hc13 : ¬ p0.toInt = 13 := fun h => c13 (Int32.toInt_inj.mp (h.trans (by decide)))
                    have hc14 : ¬ p0.toInt = 14 := fun h => c14 (Int32.toInt_inj.mp (h.trans (by decide)))
                    have hc15 : ¬ p0.toInt = 15 := fun h => c15 (Int32.toInt_inj.mp (h.trans (by decide)))
                    have hc16 : ¬ p0.toInt = 16 := fun h => c16 (Int32.toInt_inj.mp (h.trans (by decide)))
                    omega
                  refine X_tableOut 130 dX11_countMore_1 hout rfl ?_
                  refine X_iconst 131 (v := -1) dX11_countMore_130 rfl rfl ?_
                  exact X_ret rfl rfl dX11_countMore_131 ⟨_, _, rfl, rfl, hw⟩
def w_X11_count (L : Lay) (p0 : Int32) (M : Mem) (Q : Int32 → Mem → Prop) : Prop := ((p0 = (0 : Int32) → (Q (mi M 1 0) M)) ∧ (¬ p0 = (0 : Int32) → (((p0 = (1 : Int32) → (Q (mi M 1 2) M)) ∧ (¬ p0 = (1 : Int32) → (((p0 = (2 : Int32) → (Q (mi M 1 4) M)) ∧ (¬ p0 = (2 : Int32) → (((p0 = (3 : Int32) → (Q (mi M 1 5) M)) ∧ (¬ p0 = (3 : Int32) → (((p0 = (4 : Int32) → (Q (mi M 4 0) M)) ∧ (¬ p0 = (4 : Int32) → (((p0 = (5 : Int32) → ((((mp M 1 11) = none → (Q (0 : Int32) M)) ∧ ∀ a8 : Nat, (mp M 1 11) = some a8 → (Q (1 : Int32) M)))) ∧ (¬ p0 = (5 : Int32) → (((p0 = (6 : Int32) → ((((mp M 1 11) = none → (Q (-1 : Int32) M)) ∧ ∀ a11 : Nat, (mp M 1 11) = some a11 → (Q (mi M 1 13) M)))) ∧ (¬ p0 = (6 : Int32) → (((p0 = (7 : Int32) → (Q (mi M 80 0) M)) ∧ (¬ p0 = (7 : Int32) → (((p0 = (8 : Int32) → (Q (mi M 85 0) M)) ∧ (¬ p0 = (8 : Int32) → (w_X11_countMore L p0 M (fun x15 M14 => (Q x15 M14)))))))))))))))))))))))))))))
set_option maxRecDepth 20000 in
theorem s_X11_count {L : Lay} (hL : LY L) {p0 : Int32}  {M : Mem} {Q : Int32 → Mem → Prop} (hw : w_X11_count L p0 M Q) : MX yX11_count cX11_count (some .int) 2 4 0 0 [.ref 0, .int p0] (L, M) (QI L Q) := by
  unfold w_X11_count at hw
  refine MX_of (by decide) [.ref 0, .int p0] (by rfl) (by exact Nat.le_of_ble_eq_true rfl) ?_
  show X (FM (QI L Q)) RX11 cX11_count (some .int) 2 "count" 4 0 0 (L, M) 0 [.ref 0, .int p0] []
  refine X_iload_n 1 dX11_count_0 rfl rfl ?_
  by_cases c1 : p0 = (0 : Int32)
  · have hw := hw.1 c1
    refine Y_tableIn 52 (k := 0) (off := 51) c1 dX11_count_1 (by decide) (by decide) rfl rfl ?_
    refine X_aload_n 53 dX11_count_52 rfl rfl ?_
    refine X_getR 56 f_X11_10 (hL.ob (c := 11) (by decide) rfl) rfl (hL.rr (by decide) rfl) dX11_count_53 rfl ?_
    refine X_getI 59 f_X11_107 (hL.W (Or.inl rfl)) rfl dX11_count_56 rfl ?_
    exact X_ret rfl rfl dX11_count_59 ⟨_, _, rfl, rfl, hw⟩
  · have hw := hw.2 c1
    by_cases c2 : p0 = (1 : Int32)
    · have hw := hw.1 c2
      refine Y_tableIn 60 (k := 1) (off := 59) c2 dX11_count_1 (by decide) (by decide) rfl rfl ?_
      refine X_aload_n 61 dX11_count_60 rfl rfl ?_
      refine X_getR 64 f_X11_10 (hL.ob (c := 11) (by decide) rfl) rfl (hL.rr (by decide) rfl) dX11_count_61 rfl ?_
      refine X_getI 67 f_X11_59 (hL.W (Or.inl rfl)) rfl dX11_count_64 rfl ?_
      exact X_ret rfl rfl dX11_count_67 ⟨_, _, rfl, rfl, hw⟩
    · have hw := hw.2 c2
      by_cases c3 : p0 = (2 : Int32)
      · have hw := hw.1 c3
        refine Y_tableIn 68 (k := 2) (off := 67) c3 dX11_count_1 (by decide) (by decide) rfl rfl ?_
        refine X_aload_n 69 dX11_count_68 rfl rfl ?_
        refine X_getR 72 f_X11_10 (hL.ob (c := 11) (by decide) rfl) rfl (hL.rr (by decide) rfl) dX11_count_69 rfl ?_
        refine X_getI 75 f_X11_92 (hL.W (Or.inl rfl)) rfl dX11_count_72 rfl ?_
        exact X_ret rfl rfl dX11_count_75 ⟨_, _, rfl, rfl, hw⟩
      · have hw := hw.2 c3
        by_cases c4 : p0 = (3 : Int32)
        · have hw := hw.1 c4
          refine Y_tableIn 76 (k := 3) (off := 75) c4 dX11_count_1 (by decide) (by decide) rfl rfl ?_
          refine X_aload_n 77 dX11_count_76 rfl rfl ?_
          refine X_getR 80 f_X11_10 (hL.ob (c := 11) (by decide) rfl) rfl (hL.rr (by decide) rfl) dX11_count_77 rfl ?_
          refine X_getI 83 f_X11_113 (hL.W (Or.inl rfl)) rfl dX11_count_80 rfl ?_
          exact X_ret rfl rfl dX11_count_83 ⟨_, _, rfl, rfl, hw⟩
        · have hw := hw.2 c4
          by_cases c5 : p0 = (4 : Int32)
          · have hw := hw.1 c5
            refine Y_tableIn 84 (k := 4) (off := 83) c5 dX11_count_1 (by decide) (by decide) rfl rfl ?_
            refine X_aload_n 85 dX11_count_84 rfl rfl ?_
            refine X_getR 88 f_X11_10 (hL.ob (c := 11) (by decide) rfl) rfl (hL.rr (by decide) rfl) dX11_count_85 rfl ?_
            refine X_getR 91 f_X11_120 (hL.W (Or.inl rfl)) rfl (hL.wrr (Or.inl rfl) (k := 0) (x := 3) rfl rfl (by decide)) dX11_count_88 rfl ?_
            refine X_getI 94 f_X11_124 (hL.wob (Or.inl rfl) (k := 3) (c := 0) rfl rfl (by decide)) rfl dX11_count_91 rfl ?_
            exact X_ret rfl rfl dX11_count_94 ⟨_, _, rfl, rfl, hw⟩
          · have hw := hw.2 c5
            by_cases c6 : p0 = (5 : Int32)
            · have hw := hw.1 c6
              refine Y_tableIn 95 (k := 5) (off := 94) c6 dX11_count_1 (by decide) (by decide) rfl rfl ?_
              refine X_aload_n 96 dX11_count_95 rfl rfl ?_
              refine X_getR 99 f_X11_10 (hL.ob (c := 11) (by decide) rfl) rfl (hL.rr (by decide) rfl) dX11_count_96 rfl ?_
              refine X_getQ 102 f_X11_269 (hL.W (Or.inl rfl)) rfl dX11_count_99 rfl ?_
              refine X_ifnonnull 109 105 dX11_count_102 rfl rfl (fun a8 c7 => ?_) (fun c7 => ?_)
              · have hw := hw.2 a8 c7
                refine X_iconst 110 (v := 1) dX11_count_109 rfl rfl ?_
                exact X_ret rfl rfl dX11_count_110 ⟨_, _, rfl, rfl, hw⟩
              · have hw := hw.1 c7
                refine X_iconst 106 (v := 0) dX11_count_105 rfl rfl ?_
                refine X_goto 110 dX11_count_106 rfl ?_
                exact X_ret rfl rfl dX11_count_110 ⟨_, _, rfl, rfl, hw⟩
            · have hw := hw.2 c6
              by_cases c9 : p0 = (6 : Int32)
              · have hw := hw.1 c9
                refine Y_tableIn 111 (k := 6) (off := 110) c9 dX11_count_1 (by decide) (by decide) rfl rfl ?_
                refine X_aload_n 112 dX11_count_111 rfl rfl ?_
                refine X_getR 115 f_X11_10 (hL.ob (c := 11) (by decide) rfl) rfl (hL.rr (by decide) rfl) dX11_count_112 rfl ?_
                refine X_getQ 118 f_X11_269 (hL.W (Or.inl rfl)) rfl dX11_count_115 rfl ?_
                refine X_ifnonnull 125 121 dX11_count_118 rfl rfl (fun a11 c10 => ?_) (fun c10 => ?_)
                · have hw := hw.2 a11 c10
                  refine X_aload_n 126 dX11_count_125 rfl rfl ?_
                  refine X_getR 129 f_X11_10 (hL.ob (c := 11) (by decide) rfl) rfl (hL.rr (by decide) rfl) dX11_count_126 rfl ?_
                  refine X_getI 132 f_X11_294 (hL.W (Or.inl rfl)) rfl dX11_count_129 rfl ?_
                  exact X_ret rfl rfl dX11_count_132 ⟨_, _, rfl, rfl, hw⟩
                · have hw := hw.1 c10
                  refine X_iconst 122 (v := -1) dX11_count_121 rfl rfl ?_
                  refine X_goto 132 dX11_count_122 rfl ?_
                  exact X_ret rfl rfl dX11_count_132 ⟨_, _, rfl, rfl, hw⟩
              · have hw := hw.2 c9
                by_cases c12 : p0 = (7 : Int32)
                · have hw := hw.1 c12
                  refine Y_tableIn 133 (k := 7) (off := 132) c12 dX11_count_1 (by decide) (by decide) rfl rfl ?_
                  refine X_aload_n 134 dX11_count_133 rfl rfl ?_
                  refine X_getR 137 f_X11_36 (hL.ob (c := 11) (by decide) rfl) rfl (hL.rr (by decide) rfl) dX11_count_134 rfl ?_
                  refine X_getI 140 f_X11_297 (hL.ob (c := 7) (by decide) rfl) rfl dX11_count_137 rfl ?_
                  exact X_ret rfl rfl dX11_count_140 ⟨_, _, rfl, rfl, hw⟩
                · have hw := hw.2 c12
                  by_cases c13 : p0 = (8 : Int32)
                  · have hw := hw.1 c13
                    refine Y_tableIn 141 (k := 8) (off := 140) c13 dX11_count_1 (by decide) (by decide) rfl rfl ?_
                    refine X_aload_n 142 dX11_count_141 rfl rfl ?_
                    refine X_getR 145 f_X11_43 (hL.ob (c := 11) (by decide) rfl) rfl (hL.rr (by decide) rfl) dX11_count_142 rfl ?_
                    refine X_getI 148 f_X11_300 (hL.ob (c := 8) (by decide) rfl) rfl dX11_count_145 rfl ?_
                    exact X_ret rfl rfl dX11_count_148 ⟨_, _, rfl, rfl, hw⟩
                  · have hw := hw.2 c13
                    have hout : p0.toInt < 0 ∨ 8 < p0.toInt := by
                      have hc1 : ¬ p0.toInt = 0 := fun h => c1 (Int32.toInt_inj.mp (h.trans (by decide)))
                      have hc2 : ¬ p0.toInt = 1 := fun h => c2 (Int32.toInt_inj.mp (h.trans (by decide)))
                      have hc3 : ¬ p0.toInt = 2 := fun h => c3 (Int32.toInt_inj.mp (h.trans (by decide)))
                      have hc4 : ¬ p0.toInt = 3 := fun h => c4 (Int32.toInt_inj.mp (h.trans (by decide)))
                      have hc5 : ¬ p0.toInt = 4 := fun h => c5 (Int32.toInt_inj.mp (h.trans (by decide)))
                      have hc6 : ¬ p0.toInt = 5 := fun h => c6 (Int32.toInt_inj.mp (h.trans (by decide)))
                      have hc9 : ¬ p0.toInt = 6 := fun h => c9 (Int32.toInt_inj.mp (h.trans (by decide)))
                      have hc12 : ¬ p0.toInt = 7 := fun h => c12 (Int32.toInt_inj.mp (h.trans (by decide)))
                      have hc13 : ¬ p0.toInt = 8 := fun h => c13 (Int32.toInt_inj.mp (h.trans (by decide)))
                      omega
                    refine X_tableOut 149 dX11_count_1 hout rfl ?_
                    refine X_aload_n 150 dX11_count_149 rfl rfl ?_
                    refine X_iload_n 151 dX11_count_150 rfl rfl ?_
                    refine Y_cVI 154 (as := [.int p0]) m_X11_301 (s_X11_countMore hL  hw) (hL.ob (c := 11) (by decide) rfl) rfl (by decide) (Nat.le_of_ble_eq_true rfl) dX11_count_151 rfl rfl (fun x15 M14 hw => ?_)
                    exact X_ret rfl rfl dX11_count_154 ⟨_, _, rfl, rfl, hw⟩
