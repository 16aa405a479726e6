-- printed walks (by program: wip/whole/gen.py)
set_option maxRecDepth 20000 in
set_option maxRecDepth 20000 in
def w_X12_thrown (L : Lay)  (M : Mem) (Q : Int32 → Mem → Prop) : Prop := Q (mi M 92 0) M
set_option maxRecDepth 20000 in
theorem s_X12_thrown {L : Lay} (hL : LY L)   {M : Mem} {Q : Int32 → Mem → Prop} (hw : w_X12_thrown L  M Q) : MX yX12_thrown cX12_thrown (some .int) 1 1 0 0 [.ref 92] (L, M) (QI L Q) := by
  unfold w_X12_thrown at hw
  refine MX_of (by decide) [.ref 92] (by rfl) (by exact Nat.le_of_ble_eq_true rfl) ?_
  show X (FM (QI L Q)) RX12 cX12_thrown (some .int) 1 "thrown" 1 0 0 (L, M) 0 [.ref 92] []
  refine X_aload_n 1 dX12_thrown_0 rfl rfl ?_
  refine X_getI 4 f_X12_206 (hL.ob (c := 12) (by decide) rfl) rfl dX12_thrown_1 rfl ?_
  exact X_ret rfl rfl dX12_thrown_4 ⟨_, _, rfl, rfl, hw⟩
def w_X12_within (L : Lay) (p0 : Int32) (p1 : Int32) (p2 : Int32) (M : Mem) (Q : Int32 → Mem → Prop) : Prop := ∀ x1 : Int32, x1 = (if p0 < p1 then (0 : Int32) else (if p2 < p0 then (0 : Int32) else (1 : Int32))) → (Q x1 M)
set_option maxRecDepth 20000 in
theorem s_X12_within {L : Lay} (hL : LY L) {p0 : Int32} {p1 : Int32} {p2 : Int32}  {M : Mem} {Q : Int32 → Mem → Prop} (hw : w_X12_within L p0 p1 p2 M Q) : MX yX12_within cX12_within (some .boolean) 3 1 0 0 [.int p0, .int p1, .int p2] (L, M) (QZ L Q) := by
  unfold w_X12_within at hw
  refine MX_of (by decide) [.int p0, .int p1, .int p2] (by rfl) (by exact Nat.le_of_ble_eq_true rfl) ?_
  show X (FM (QZ L Q)) RX12 cX12_within (some .boolean) 3 "within" 1 0 0 (L, M) 0 [.int p0, .int p1, .int p2] []
  refine X_iload_n 1 dX12_within_0 rfl rfl ?_
  refine X_iload_n 2 dX12_within_1 rfl rfl ?_
  obtain ⟨x1, ex1⟩ : ∃ x1 : Int32, x1 = (if p0 < p1 then (0 : Int32) else (if p2 < p0 then (0 : Int32) else (1 : Int32))) := ⟨_, rfl⟩
  have hw := hw x1 ex1
  have bx1 : BZ x1 := by rw [ex1]; (repeat' split) <;> first | exact Or.inl rfl | exact Or.inr rfl
  have hJ : X (FM (QZ L Q)) RX12 cX12_within (some .boolean) 3 "within" 1 0 0 (L, M) 15 [.int p0, .int p1, .int p2] [.int x1] := by
    exact X_ret rfl (nar_bool (bx1)) dX12_within_15 ⟨_, _, rfl, bx1, rfl, hw⟩
  refine X_icmp_lt 14 5 dX12_within_2 rfl rfl (fun c2 => ?_) (fun c2 => ?_)
  · refine X_iconst 15 (v := 0) dX12_within_14 rfl rfl ?_
    rw [if_pos c2] at ex1
    rw [ex1] at hJ
    exact hJ
  · refine X_iload_n 6 dX12_within_5 rfl rfl ?_
    refine X_iload_n 7 dX12_within_6 rfl rfl ?_
    refine X_icmp_gt 14 10 dX12_within_7 rfl rfl (fun c3 => ?_) (fun c3 => ?_)
    · refine X_iconst 15 (v := 0) dX12_within_14 rfl rfl ?_
      rw [if_neg c2, if_pos c3] at ex1
      rw [ex1] at hJ
      exact hJ
    · refine X_iconst 11 (v := 1) dX12_within_10 rfl rfl ?_
      refine X_goto 15 dX12_within_11 rfl ?_
      rw [if_neg c2, if_neg c3] at ex1
      rw [ex1] at hJ
      exact hJ
def w_X12_isOwner (L : Lay) (p0 : Int32) (M : Mem) (Q : Int32 → Mem → Prop) : Prop := w_X12_within L p0 (0 : Int32) ((mi M 92 28) - (1 : Int32)) M (fun x2 M1 => (Q x2 M1))
set_option maxRecDepth 20000 in
theorem s_X12_isOwner {L : Lay} (hL : LY L) {p0 : Int32}  {M : Mem} {Q : Int32 → Mem → Prop} (hw : w_X12_isOwner L p0 M Q) : MX yX12_isOwner cX12_isOwner (some .boolean) 2 2 0 0 [.ref 92, .int p0] (L, M) (QZ L Q) := by
  unfold w_X12_isOwner at hw
  refine MX_of (by decide) [.ref 92, .int p0] (by rfl) (by exact Nat.le_of_ble_eq_true rfl) ?_
  show X (FM (QZ L Q)) RX12 cX12_isOwner (some .boolean) 2 "isOwner" 2 0 0 (L, M) 0 [.ref 92, .int p0] []
  refine X_iload_n 1 dX12_isOwner_0 rfl rfl ?_
  refine X_iconst 2 (v := 0) dX12_isOwner_1 rfl rfl ?_
  refine X_aload_n 3 dX12_isOwner_2 rfl rfl ?_
  refine X_getI 6 f_X12_210 (hL.ob (c := 12) (by decide) rfl) rfl dX12_isOwner_3 rfl ?_
  refine X_iconst 7 (v := 1) dX12_isOwner_6 rfl rfl ?_
  refine X_isub 8 dX12_isOwner_7 rfl ?_
  refine Y_cSZ 11 (as := [.int p0, .int (0 : Int32), .int (((mi M 92 28) - (1 : Int32)))]) m_X12_213 (s_X12_within hL  hw) rfl (by decide) (Nat.le_of_ble_eq_true rfl) dX12_isOwner_8 rfl rfl (fun x2 M1 bx2 hw => ?_)
  exact X_ret rfl (nar_bool (bx2)) dX12_isOwner_11 ⟨_, _, rfl, bx2, rfl, hw⟩
def w_X12_owner (L : Lay) (p0 : Int32) (p1 : Int32) (p2 : Int32) (p3 : Int32) (M : Mem) (Q : Int32 → Mem → Prop) : Prop := ∀ M1 : Mem, M1 = si M 92 0 (0 : Int32) → (w_X12_within L p0 (0 : Int32) (4 : Int32) M1 (fun x3 M2 => (((x3 = 0 → (Q (-1 : Int32) M2)) ∧ (¬ x3 = 0 → (w_X12_within L p1 (1 : Int32) (999 : Int32) M2 (fun x6 M5 => (((x6 = 0 → (Q (-1 : Int32) M5)) ∧ (¬ x6 = 0 → (w_X12_within L p2 (0 : Int32) (99 : Int32) M5 (fun x9 M8 => (((x9 = 0 → (Q (-1 : Int32) M8)) ∧ (¬ x9 = 0 → (w_X12_within L p3 (0 : Int32) (99 : Int32) M8 (fun x12 M11 => (((x12 = 0 → (Q (-1 : Int32) M11)) ∧ (¬ x12 = 0 → ((((mi M11 92 28) = (10 : Int32) → (Q (-1 : Int32) M11)) ∧ (¬ (mi M11 92 28) = (10 : Int32) → (vp_in (mi M11 92 28) 10 ∧ (∀ M16 : Mem, M16 = si M11 120 (tn (mi M11 92 28)) p0 → (vp_in (mi M16 92 28) 10 ∧ (∀ M18 : Mem, M18 = si M16 121 (tn (mi M16 92 28)) p1 → (vp_in (mi M18 92 28) 10 ∧ (∀ M20 : Mem, M20 = si M18 122 (tn (mi M18 92 28)) p2 → (vp_in (mi M20 92 28) 10 ∧ (∀ M22 : Mem, M22 = si M20 123 (tn (mi M20 92 28)) p3 → (∀ M23 : Mem, M23 = si M22 92 28 ((mi M22 92 28) + (1 : Int32)) → (Q ((mi M23 92 28) - (1 : Int32)) M23)))))))))))))))))))))))))))))))))
set_option maxRecDepth 20000 in
theorem s_X12_owner {L : Lay} (hL : LY L) {p0 : Int32} {p1 : Int32} {p2 : Int32} {p3 : Int32}  {M : Mem} {Q : Int32 → Mem → Prop} (hw : w_X12_owner L p0 p1 p2 p3 M Q) : MX yX12_owner cX12_owner (some .int) 5 2 0 0 [.ref 92, .int p0, .int p1, .int p2, .int p3] (L, M) (QI L Q) := by
  unfold w_X12_owner at hw
  refine MX_of (by decide) [.ref 92, .int p0, .int p1, .int p2, .int p3] (by rfl) (by exact Nat.le_of_ble_eq_true rfl) ?_
  show X (FM (QI L Q)) RX12 cX12_owner (some .int) 5 "owner" 2 0 0 (L, M) 0 [.ref 92, .int p0, .int p1, .int p2, .int p3] []
  refine X_aload_n 1 dX12_owner_0 rfl rfl ?_
  refine X_iconst 2 (v := 0) dX12_owner_1 rfl rfl ?_
  refine X_putI 5 f_X12_206 (Or.inl rfl) (hL.ob (c := 12) (by decide) rfl) rfl dX12_owner_2 rfl ?_
  refine X_nmM (fun M1 eM1 => ?_)
  have hw := hw M1 eM1
  refine X_iload_n 6 dX12_owner_5 rfl rfl ?_
  refine X_iconst 7 (v := 0) dX12_owner_6 rfl rfl ?_
  refine X_iconst 8 (v := 4) dX12_owner_7 rfl rfl ?_
  refine Y_cSZ 11 (as := [.int p0, .int (0 : Int32), .int (4 : Int32)]) m_X12_213 (s_X12_within hL  hw) rfl (by decide) (Nat.le_of_ble_eq_true rfl) dX12_owner_8 rfl rfl (fun x3 M2 bx3 hw => ?_)
  refine X_if_eq 55 14 (y := 0) dX12_owner_11 rfl rfl (fun c4 => ?_) (fun c4 => ?_)
  · have hw := hw.1 c4
    refine X_iconst 56 (v := -1) dX12_owner_55 rfl rfl ?_
    exact X_ret rfl rfl dX12_owner_56 ⟨_, _, rfl, rfl, hw⟩
  · have hw := hw.2 c4
    refine X_iload_n 15 dX12_owner_14 rfl rfl ?_
    refine X_iconst 16 (v := 1) dX12_owner_15 rfl rfl ?_
    refine X_sipush 19 (v := 999) dX12_owner_16 rfl rfl ?_
    refine Y_cSZ 22 (as := [.int p1, .int (1 : Int32), .int (999 : Int32)]) m_X12_213 (s_X12_within hL  hw) rfl (by decide) (Nat.le_of_ble_eq_true rfl) dX12_owner_19 rfl rfl (fun x6 M5 bx6 hw => ?_)
    refine X_if_eq 55 25 (y := 0) dX12_owner_22 rfl rfl (fun c7 => ?_) (fun c7 => ?_)
    · have hw := hw.1 c7
      refine X_iconst 56 (v := -1) dX12_owner_55 rfl rfl ?_
      exact X_ret rfl rfl dX12_owner_56 ⟨_, _, rfl, rfl, hw⟩
    · have hw := hw.2 c7
      refine X_iload_n 26 dX12_owner_25 rfl rfl ?_
      refine X_iconst 27 (v := 0) dX12_owner_26 rfl rfl ?_
      refine X_bipush 29 (v := 99) dX12_owner_27 rfl rfl ?_
      refine Y_cSZ 32 (as := [.int p2, .int (0 : Int32), .int (99 : Int32)]) m_X12_213 (s_X12_within hL  hw) rfl (by decide) (Nat.le_of_ble_eq_true rfl) dX12_owner_29 rfl rfl (fun x9 M8 bx9 hw => ?_)
      refine X_if_eq 55 35 (y := 0) dX12_owner_32 rfl rfl (fun c10 => ?_) (fun c10 => ?_)
      · have hw := hw.1 c10
        refine X_iconst 56 (v := -1) dX12_owner_55 rfl rfl ?_
        exact X_ret rfl rfl dX12_owner_56 ⟨_, _, rfl, rfl, hw⟩
      · have hw := hw.2 c10
        refine X_iload 37 dX12_owner_35 rfl rfl ?_
        refine X_iconst 38 (v := 0) dX12_owner_37 rfl rfl ?_
        refine X_bipush 40 (v := 99) dX12_owner_38 rfl rfl ?_
        refine Y_cSZ 43 (as := [.int p3, .int (0 : Int32), .int (99 : Int32)]) m_X12_213 (s_X12_within hL  hw) rfl (by decide) (Nat.le_of_ble_eq_true rfl) dX12_owner_40 rfl rfl (fun x12 M11 bx12 hw => ?_)
        refine X_if_eq 55 46 (y := 0) dX12_owner_43 rfl rfl (fun c13 => ?_) (fun c13 => ?_)
        · have hw := hw.1 c13
          refine X_iconst 56 (v := -1) dX12_owner_55 rfl rfl ?_
          exact X_ret rfl rfl dX12_owner_56 ⟨_, _, rfl, rfl, hw⟩
        · have hw := hw.2 c13
          refine X_aload_n 47 dX12_owner_46 rfl rfl ?_
          refine X_getI 50 f_X12_210 (hL.ob (c := 12) (by decide) rfl) rfl dX12_owner_47 rfl ?_
          refine X_bipush 52 (v := 10) dX12_owner_50 rfl rfl ?_
          refine X_icmp_ne 57 55 dX12_owner_52 rfl rfl (fun c14 => ?_) (fun c14 => ?_)
          · have hw := hw.2 c14
            refine X_aload_n 58 dX12_owner_57 rfl rfl ?_
            refine X_getR 61 f_X12_92 (hL.ob (c := 12) (by decide) rfl) rfl (hL.rr (by decide) rfl) dX12_owner_58 rfl ?_
            refine X_aload_n 62 dX12_owner_61 rfl rfl ?_
            refine X_getI 65 f_X12_210 (hL.ob (c := 12) (by decide) rfl) rfl dX12_owner_62 rfl ?_
            refine X_iload_n 66 dX12_owner_65 rfl rfl ?_
            obtain ⟨c15, hw⟩ := hw
            refine Y_iast 67 (k := (tn (mi M11 92 28))) (hL.ar (t := 0) (n := 10) (by decide) rfl) c15 rfl dX12_owner_66 rfl ?_
            refine X_nmM (fun M16 eM16 => ?_)
            have hw := hw M16 eM16
            refine X_aload_n 68 dX12_owner_67 rfl rfl ?_
            refine X_getR 71 f_X12_95 (hL.ob (c := 12) (by decide) rfl) rfl (hL.rr (by decide) rfl) dX12_owner_68 rfl ?_
            refine X_aload_n 72 dX12_owner_71 rfl rfl ?_
            refine X_getI 75 f_X12_210 (hL.ob (c := 12) (by decide) rfl) rfl dX12_owner_72 rfl ?_
            refine X_iload_n 76 dX12_owner_75 rfl rfl ?_
            obtain ⟨c17, hw⟩ := hw
            refine Y_iast 77 (k := (tn (mi M16 92 28))) (hL.ar (t := 0) (n := 10) (by decide) rfl) c17 rfl dX12_owner_76 rfl ?_
            refine X_nmM (fun M18 eM18 => ?_)
            have hw := hw M18 eM18
            refine X_aload_n 78 dX12_owner_77 rfl rfl ?_
            refine X_getR 81 f_X12_98 (hL.ob (c := 12) (by decide) rfl) rfl (hL.rr (by decide) rfl) dX12_owner_78 rfl ?_
            refine X_aload_n 82 dX12_owner_81 rfl rfl ?_
            refine X_getI 85 f_X12_210 (hL.ob (c := 12) (by decide) rfl) rfl dX12_owner_82 rfl ?_
            refine X_iload_n 86 dX12_owner_85 rfl rfl ?_
            obtain ⟨c19, hw⟩ := hw
            refine Y_iast 87 (k := (tn (mi M18 92 28))) (hL.ar (t := 0) (n := 10) (by decide) rfl) c19 rfl dX12_owner_86 rfl ?_
            refine X_nmM (fun M20 eM20 => ?_)
            have hw := hw M20 eM20
            refine X_aload_n 88 dX12_owner_87 rfl rfl ?_
            refine X_getR 91 f_X12_101 (hL.ob (c := 12) (by decide) rfl) rfl (hL.rr (by decide) rfl) dX12_owner_88 rfl ?_
            refine X_aload_n 92 dX12_owner_91 rfl rfl ?_
            refine X_getI 95 f_X12_210 (hL.ob (c := 12) (by decide) rfl) rfl dX12_owner_92 rfl ?_
            refine X_iload 97 dX12_owner_95 rfl rfl ?_
            obtain ⟨c21, hw⟩ := hw
            refine Y_iast 98 (k := (tn (mi M20 92 28))) (hL.ar (t := 0) (n := 10) (by decide) rfl) c21 rfl dX12_owner_97 rfl ?_
            refine X_nmM (fun M22 eM22 => ?_)
            have hw := hw M22 eM22
            refine X_aload_n 99 dX12_owner_98 rfl rfl ?_
            refine X_dup 100 dX12_owner_99 rfl rfl ?_
            refine X_getI 103 f_X12_210 (hL.ob (c := 12) (by decide) rfl) rfl dX12_owner_100 rfl ?_
            refine X_iconst 104 (v := 1) dX12_owner_103 rfl rfl ?_
            refine X_iadd 105 dX12_owner_104 rfl ?_
            refine X_putI 108 f_X12_210 (Or.inl rfl) (hL.ob (c := 12) (by decide) rfl) rfl dX12_owner_105 rfl ?_
            refine X_nmM (fun M23 eM23 => ?_)
            have hw := hw M23 eM23
            refine X_aload_n 109 dX12_owner_108 rfl rfl ?_
            refine X_getI 112 f_X12_210 (hL.ob (c := 12) (by decide) rfl) rfl dX12_owner_109 rfl ?_
            refine X_iconst 113 (v := 1) dX12_owner_112 rfl rfl ?_
            refine X_isub 114 dX12_owner_113 rfl ?_
            exact X_ret rfl rfl dX12_owner_114 ⟨_, _, rfl, rfl, hw⟩
          · have hw := hw.1 c14
            refine X_iconst 56 (v := -1) dX12_owner_55 rfl rfl ?_
            exact X_ret rfl rfl dX12_owner_56 ⟨_, _, rfl, rfl, hw⟩
def w_X12_digs (L : Lay) (p0 : Int32) (p1 : Int32) (M : Mem) (Q : Int32 → Mem → Prop) : Prop := ∀ M1 : Mem, M1 = si M 92 0 (0 : Int32) → (w_X12_isOwner L p0 M1 (fun x3 M2 => (((x3 = 0 → (Q (0 : Int32) M2)) ∧ (¬ x3 = 0 → (w_X12_within L p1 (0 : Int32) (99 : Int32) M2 (fun x6 M5 => (((x6 = 0 → (Q (0 : Int32) M5)) ∧ (¬ x6 = 0 → (vp_in p0 10 ∧ (∀ M9 : Mem, M9 = si M5 122 (tn p0) p1 → (Q (1 : Int32) M9)))))))))))))
set_option maxRecDepth 20000 in
theorem s_X12_digs {L : Lay} (hL : LY L) {p0 : Int32} {p1 : Int32}  {M : Mem} {Q : Int32 → Mem → Prop} (hw : w_X12_digs L p0 p1 M Q) : MX yX12_digs cX12_digs (some .boolean) 3 3 0 0 [.ref 92, .int p0, .int p1] (L, M) (QZ L Q) := by
  unfold w_X12_digs at hw
  refine MX_of (by decide) [.ref 92, .int p0, .int p1] (by rfl) (by exact Nat.le_of_ble_eq_true rfl) ?_
  show X (FM (QZ L Q)) RX12 cX12_digs (some .boolean) 3 "digs" 3 0 0 (L, M) 0 [.ref 92, .int p0, .int p1] []
  refine X_aload_n 1 dX12_digs_0 rfl rfl ?_
  refine X_iconst 2 (v := 0) dX12_digs_1 rfl rfl ?_
  refine X_putI 5 f_X12_206 (Or.inl rfl) (hL.ob (c := 12) (by decide) rfl) rfl dX12_digs_2 rfl ?_
  refine X_nmM (fun M1 eM1 => ?_)
  have hw := hw M1 eM1
  refine X_aload_n 6 dX12_digs_5 rfl rfl ?_
  refine X_iload_n 7 dX12_digs_6 rfl rfl ?_
  refine Y_cVZ 10 (as := [.int p0]) m_X12_217 (s_X12_isOwner hL  hw) (hL.ob (c := 12) (by decide) rfl) rfl (by decide) (Nat.le_of_ble_eq_true rfl) dX12_digs_7 rfl rfl (fun x3 M2 bx3 hw => ?_)
  refine X_if_eq 23 13 (y := 0) dX12_digs_10 rfl rfl (fun c4 => ?_) (fun c4 => ?_)
  · have hw := hw.1 c4
    refine X_iconst 24 (v := 0) dX12_digs_23 rfl rfl ?_
    exact X_ret rfl (nar_bool (Or.inl rfl)) dX12_digs_24 ⟨_, _, rfl, Or.inl rfl, rfl, hw⟩
  · have hw := hw.2 c4
    refine X_iload_n 14 dX12_digs_13 rfl rfl ?_
    refine X_iconst 15 (v := 0) dX12_digs_14 rfl rfl ?_
    refine X_bipush 17 (v := 99) dX12_digs_15 rfl rfl ?_
    refine Y_cSZ 20 (as := [.int p1, .int (0 : Int32), .int (99 : Int32)]) m_X12_213 (s_X12_within hL  hw) rfl (by decide) (Nat.le_of_ble_eq_true rfl) dX12_digs_17 rfl rfl (fun x6 M5 bx6 hw => ?_)
    refine X_if_ne 25 23 (y := 0) dX12_digs_20 rfl rfl (fun c7 => ?_) (fun c7 => ?_)
    · have hw := hw.2 c7
      refine X_aload_n 26 dX12_digs_25 rfl rfl ?_
      refine X_getR 29 f_X12_98 (hL.ob (c := 12) (by decide) rfl) rfl (hL.rr (by decide) rfl) dX12_digs_26 rfl ?_
      refine X_iload_n 30 dX12_digs_29 rfl rfl ?_
      refine X_iload_n 31 dX12_digs_30 rfl rfl ?_
      obtain ⟨c8, hw⟩ := hw
      refine Y_iast 32 (k := (tn p0)) (hL.ar (t := 0) (n := 10) (by decide) rfl) c8 rfl dX12_digs_31 rfl ?_
      refine X_nmM (fun M9 eM9 => ?_)
      have hw := hw M9 eM9
      refine X_iconst 33 (v := 1) dX12_digs_32 rfl rfl ?_
      exact X_ret rfl (nar_bool (Or.inr rfl)) dX12_digs_33 ⟨_, _, rfl, Or.inr rfl, rfl, hw⟩
    · have hw := hw.1 c7
      refine X_iconst 24 (v := 0) dX12_digs_23 rfl rfl ?_
      exact X_ret rfl (nar_bool (Or.inl rfl)) dX12_digs_24 ⟨_, _, rfl, Or.inl rfl, rfl, hw⟩
def w_X12_rebate (L : Lay) (p0 : Int32) (p1 : Int32) (M : Mem) (Q : Int32 → Mem → Prop) : Prop := ∀ M1 : Mem, M1 = si M 92 0 (0 : Int32) → (w_X12_isOwner L p0 M1 (fun x3 M2 => (((x3 = 0 → (Q (0 : Int32) M2)) ∧ (¬ x3 = 0 → (w_X12_within L p1 (0 : Int32) (50 : Int32) M2 (fun x6 M5 => (((x6 = 0 → (Q (0 : Int32) M5)) ∧ (¬ x6 = 0 → (vp_in p0 10 ∧ (∀ M9 : Mem, M9 = si M5 124 (tn p0) p1 → (Q (1 : Int32) M9)))))))))))))
set_option maxRecDepth 20000 in
theorem s_X12_rebate {L : Lay} (hL : LY L) {p0 : Int32} {p1 : Int32}  {M : Mem} {Q : Int32 → Mem → Prop} (hw : w_X12_rebate L p0 p1 M Q) : MX yX12_rebate cX12_rebate (some .boolean) 3 3 0 0 [.ref 92, .int p0, .int p1] (L, M) (QZ L Q) := by
  unfold w_X12_rebate at hw
  refine MX_of (by decide) [.ref 92, .int p0, .int p1] (by rfl) (by exact Nat.le_of_ble_eq_true rfl) ?_
  show X (FM (QZ L Q)) RX12 cX12_rebate (some .boolean) 3 "rebate" 3 0 0 (L, M) 0 [.ref 92, .int p0, .int p1] []
  refine X_aload_n 1 dX12_rebate_0 rfl rfl ?_
  refine X_iconst 2 (v := 0) dX12_rebate_1 rfl rfl ?_
  refine X_putI 5 f_X12_206 (Or.inl rfl) (hL.ob (c := 12) (by decide) rfl) rfl dX12_rebate_2 rfl ?_
  refine X_nmM (fun M1 eM1 => ?_)
  have hw := hw M1 eM1
  refine X_aload_n 6 dX12_rebate_5 rfl rfl ?_
  refine X_iload_n 7 dX12_rebate_6 rfl rfl ?_
  refine Y_cVZ 10 (as := [.int p0]) m_X12_217 (s_X12_isOwner hL  hw) (hL.ob (c := 12) (by decide) rfl) rfl (by decide) (Nat.le_of_ble_eq_true rfl) dX12_rebate_7 rfl rfl (fun x3 M2 bx3 hw => ?_)
  refine X_if_eq 23 13 (y := 0) dX12_rebate_10 rfl rfl (fun c4 => ?_) (fun c4 => ?_)
  · have hw := hw.1 c4
    refine X_iconst 24 (v := 0) dX12_rebate_23 rfl rfl ?_
    exact X_ret rfl (nar_bool (Or.inl rfl)) dX12_rebate_24 ⟨_, _, rfl, Or.inl rfl, rfl, hw⟩
  · have hw := hw.2 c4
    refine X_iload_n 14 dX12_rebate_13 rfl rfl ?_
    refine X_iconst 15 (v := 0) dX12_rebate_14 rfl rfl ?_
    refine X_bipush 17 (v := 50) dX12_rebate_15 rfl rfl ?_
    refine Y_cSZ 20 (as := [.int p1, .int (0 : Int32), .int (50 : Int32)]) m_X12_213 (s_X12_within hL  hw) rfl (by decide) (Nat.le_of_ble_eq_true rfl) dX12_rebate_17 rfl rfl (fun x6 M5 bx6 hw => ?_)
    refine X_if_ne 25 23 (y := 0) dX12_rebate_20 rfl rfl (fun c7 => ?_) (fun c7 => ?_)
    · have hw := hw.2 c7
      refine X_aload_n 26 dX12_rebate_25 rfl rfl ?_
      refine X_getR 29 f_X12_104 (hL.ob (c := 12) (by decide) rfl) rfl (hL.rr (by decide) rfl) dX12_rebate_26 rfl ?_
      refine X_iload_n 30 dX12_rebate_29 rfl rfl ?_
      refine X_iload_n 31 dX12_rebate_30 rfl rfl ?_
      obtain ⟨c8, hw⟩ := hw
      refine Y_iast 32 (k := (tn p0)) (hL.ar (t := 0) (n := 10) (by decide) rfl) c8 rfl dX12_rebate_31 rfl ?_
      refine X_nmM (fun M9 eM9 => ?_)
      have hw := hw M9 eM9
      refine X_iconst 33 (v := 1) dX12_rebate_32 rfl rfl ?_
      exact X_ret rfl (nar_bool (Or.inr rfl)) dX12_rebate_33 ⟨_, _, rfl, Or.inr rfl, rfl, hw⟩
    · have hw := hw.1 c7
      refine X_iconst 24 (v := 0) dX12_rebate_23 rfl rfl ?_
      exact X_ret rfl (nar_bool (Or.inl rfl)) dX12_rebate_24 ⟨_, _, rfl, Or.inl rfl, rfl, hw⟩
def w_X12_breaker (L : Lay) (p0 : Int32) (p1 : Int32) (M : Mem) (Q : Int32 → Mem → Prop) : Prop := ∀ M1 : Mem, M1 = si M 92 0 (0 : Int32) → (w_X12_isOwner L p0 M1 (fun x3 M2 => (((x3 = 0 → (Q (0 : Int32) M2)) ∧ (¬ x3 = 0 → (vp_in p0 20 ∧ (∀ M6 : Mem, M6 = si M2 111 (tn p0) (narZ p1) → (Q (1 : Int32) M6))))))))
set_option maxRecDepth 20000 in
theorem s_X12_breaker {L : Lay} (hL : LY L) {p0 : Int32} {p1 : Int32}  {M : Mem} {Q : Int32 → Mem → Prop} (hw : w_X12_breaker L p0 p1 M Q) : MX yX12_breaker cX12_breaker (some .boolean) 3 3 0 0 [.ref 92, .int p0, .int p1] (L, M) (QZ L Q) := by
  unfold w_X12_breaker at hw
  refine MX_of (by decide) [.ref 92, .int p0, .int p1] (by rfl) (by exact Nat.le_of_ble_eq_true rfl) ?_
  show X (FM (QZ L Q)) RX12 cX12_breaker (some .boolean) 3 "breaker" 3 0 0 (L, M) 0 [.ref 92, .int p0, .int p1] []
  refine X_aload_n 1 dX12_breaker_0 rfl rfl ?_
  refine X_iconst 2 (v := 0) dX12_breaker_1 rfl rfl ?_
  refine X_putI 5 f_X12_206 (Or.inl rfl) (hL.ob (c := 12) (by decide) rfl) rfl dX12_breaker_2 rfl ?_
  refine X_nmM (fun M1 eM1 => ?_)
  have hw := hw M1 eM1
  refine X_aload_n 6 dX12_breaker_5 rfl rfl ?_
  refine X_iload_n 7 dX12_breaker_6 rfl rfl ?_
  refine Y_cVZ 10 (as := [.int p0]) m_X12_217 (s_X12_isOwner hL  hw) (hL.ob (c := 12) (by decide) rfl) rfl (by decide) (Nat.le_of_ble_eq_true rfl) dX12_breaker_7 rfl rfl (fun x3 M2 bx3 hw => ?_)
  refine X_if_ne 15 13 (y := 0) dX12_breaker_10 rfl rfl (fun c4 => ?_) (fun c4 => ?_)
  · have hw := hw.2 c4
    refine X_aload_n 16 dX12_breaker_15 rfl rfl ?_
    refine X_getR 19 f_X12_64 (hL.ob (c := 12) (by decide) rfl) rfl (hL.rr (by decide) rfl) dX12_breaker_16 rfl ?_
    refine X_iload_n 20 dX12_breaker_19 rfl rfl ?_
    refine X_iload_n 21 dX12_breaker_20 rfl rfl ?_
    obtain ⟨c5, hw⟩ := hw
    refine Y_zast 22 (k := (tn p0)) (hL.ar (t := 1) (n := 20) (by decide) rfl) c5 rfl dX12_breaker_21 rfl ?_
    refine X_nmM (fun M6 eM6 => ?_)
    have hw := hw M6 eM6
    refine X_iconst 23 (v := 1) dX12_breaker_22 rfl rfl ?_
    exact X_ret rfl (nar_bool (Or.inr rfl)) dX12_breaker_23 ⟨_, _, rfl, Or.inr rfl, rfl, hw⟩
  · have hw := hw.1 c4
    refine X_iconst 14 (v := 0) dX12_breaker_13 rfl rfl ?_
    exact X_ret rfl (nar_bool (Or.inl rfl)) dX12_breaker_14 ⟨_, _, rfl, Or.inl rfl, rfl, hw⟩
def w_X12_ship (L : Lay) (p0 : Int32) (p1 : Int32) (M : Mem) (Q : Int32 → Mem → Prop) : Prop := ∀ M1 : Mem, M1 = si M 92 0 (0 : Int32) → (w_X12_within L p0 (8 : Int32) (96 : Int32) M1 (fun x3 M2 => (((x3 = 0 → (Q (-1 : Int32) M2)) ∧ (¬ x3 = 0 → (w_X12_within L p1 (0 : Int32) (4 : Int32) M2 (fun x6 M5 => (((x6 = 0 → (Q (-1 : Int32) M5)) ∧ (¬ x6 = 0 → ((((mi M5 92 34) = (8 : Int32) → (Q (-1 : Int32) M5)) ∧ (¬ (mi M5 92 34) = (8 : Int32) → (vp_in (mi M5 92 34) 8 ∧ (∀ M10 : Mem, M10 = si M5 125 (tn (mi M5 92 34)) p0 → (vp_in (mi M10 92 34) 8 ∧ (∀ M12 : Mem, M12 = si M10 126 (tn (mi M10 92 34)) p1 → (vp_in (mi M12 92 34) 16 ∧ (∀ M14 : Mem, M14 = si M12 115 (tn (mi M12 92 34)) (mi M12 93 0) → (∀ M15 : Mem, M15 = si M14 92 34 ((mi M14 92 34) + (1 : Int32)) → (Q ((mi M15 92 34) - (1 : Int32)) M15)))))))))))))))))))))
set_option maxRecDepth 20000 in
theorem s_X12_ship {L : Lay} (hL : LY L) {p0 : Int32} {p1 : Int32}  {M : Mem} {Q : Int32 → Mem → Prop} (hw : w_X12_ship L p0 p1 M Q) : MX yX12_ship cX12_ship (some .int) 3 2 0 0 [.ref 92, .int p0, .int p1] (L, M) (QI L Q) := by
  unfold w_X12_ship at hw
  refine MX_of (by decide) [.ref 92, .int p0, .int p1] (by rfl) (by exact Nat.le_of_ble_eq_true rfl) ?_
  show X (FM (QI L Q)) RX12 cX12_ship (some .int) 3 "ship" 2 0 0 (L, M) 0 [.ref 92, .int p0, .int p1] []
  refine X_aload_n 1 dX12_ship_0 rfl rfl ?_
  refine X_iconst 2 (v := 0) dX12_ship_1 rfl rfl ?_
  refine X_putI 5 f_X12_206 (Or.inl rfl) (hL.ob (c := 12) (by decide) rfl) rfl dX12_ship_2 rfl ?_
  refine X_nmM (fun M1 eM1 => ?_)
  have hw := hw M1 eM1
  refine X_iload_n 6 dX12_ship_5 rfl rfl ?_
  refine X_bipush 8 (v := 8) dX12_ship_6 rfl rfl ?_
  refine X_bipush 10 (v := 96) dX12_ship_8 rfl rfl ?_
  refine Y_cSZ 13 (as := [.int p0, .int (8 : Int32), .int (96 : Int32)]) m_X12_213 (s_X12_within hL  hw) rfl (by decide) (Nat.le_of_ble_eq_true rfl) dX12_ship_10 rfl rfl (fun x3 M2 bx3 hw => ?_)
  refine X_if_eq 34 16 (y := 0) dX12_ship_13 rfl rfl (fun c4 => ?_) (fun c4 => ?_)
  · have hw := hw.1 c4
    refine X_iconst 35 (v := -1) dX12_ship_34 rfl rfl ?_
    exact X_ret rfl rfl dX12_ship_35 ⟨_, _, rfl, rfl, hw⟩
  · have hw := hw.2 c4
    refine X_iload_n 17 dX12_ship_16 rfl rfl ?_
    refine X_iconst 18 (v := 0) dX12_ship_17 rfl rfl ?_
    refine X_iconst 19 (v := 4) dX12_ship_18 rfl rfl ?_
    refine Y_cSZ 22 (as := [.int p1, .int (0 : Int32), .int (4 : Int32)]) m_X12_213 (s_X12_within hL  hw) rfl (by decide) (Nat.le_of_ble_eq_true rfl) dX12_ship_19 rfl rfl (fun x6 M5 bx6 hw => ?_)
    refine X_if_eq 34 25 (y := 0) dX12_ship_22 rfl rfl (fun c7 => ?_) (fun c7 => ?_)
    · have hw := hw.1 c7
      refine X_iconst 35 (v := -1) dX12_ship_34 rfl rfl ?_
      exact X_ret rfl rfl dX12_ship_35 ⟨_, _, rfl, rfl, hw⟩
    · have hw := hw.2 c7
      refine X_aload_n 26 dX12_ship_25 rfl rfl ?_
      refine X_getI 29 f_X12_221 (hL.ob (c := 12) (by decide) rfl) rfl dX12_ship_26 rfl ?_
      refine X_bipush 31 (v := 8) dX12_ship_29 rfl rfl ?_
      refine X_icmp_ne 36 34 dX12_ship_31 rfl rfl (fun c8 => ?_) (fun c8 => ?_)
      · have hw := hw.2 c8
        refine X_aload_n 37 dX12_ship_36 rfl rfl ?_
        refine X_getR 40 f_X12_107 (hL.ob (c := 12) (by decide) rfl) rfl (hL.rr (by decide) rfl) dX12_ship_37 rfl ?_
        refine X_aload_n 41 dX12_ship_40 rfl rfl ?_
        refine X_getI 44 f_X12_221 (hL.ob (c := 12) (by decide) rfl) rfl dX12_ship_41 rfl ?_
        refine X_iload_n 45 dX12_ship_44 rfl rfl ?_
        obtain ⟨c9, hw⟩ := hw
        refine Y_iast 46 (k := (tn (mi M5 92 34))) (hL.ar (t := 0) (n := 8) (by decide) rfl) c9 rfl dX12_ship_45 rfl ?_
        refine X_nmM (fun M10 eM10 => ?_)
        have hw := hw M10 eM10
        refine X_aload_n 47 dX12_ship_46 rfl rfl ?_
        refine X_getR 50 f_X12_110 (hL.ob (c := 12) (by decide) rfl) rfl (hL.rr (by decide) rfl) dX12_ship_47 rfl ?_
        refine X_aload_n 51 dX12_ship_50 rfl rfl ?_
        refine X_getI 54 f_X12_221 (hL.ob (c := 12) (by decide) rfl) rfl dX12_ship_51 rfl ?_
        refine X_iload_n 55 dX12_ship_54 rfl rfl ?_
        obtain ⟨c11, hw⟩ := hw
        refine Y_iast 56 (k := (tn (mi M10 92 34))) (hL.ar (t := 0) (n := 8) (by decide) rfl) c11 rfl dX12_ship_55 rfl ?_
        refine X_nmM (fun M12 eM12 => ?_)
        have hw := hw M12 eM12
        refine X_aload_n 57 dX12_ship_56 rfl rfl ?_
        refine X_getR 60 f_X12_77 (hL.ob (c := 12) (by decide) rfl) rfl (hL.rr (by decide) rfl) dX12_ship_57 rfl ?_
        refine X_aload_n 61 dX12_ship_60 rfl rfl ?_
        refine X_getI 64 f_X12_221 (hL.ob (c := 12) (by decide) rfl) rfl dX12_ship_61 rfl ?_
        refine X_aload_n 65 dX12_ship_64 rfl rfl ?_
        refine X_getR 68 f_X12_7 (hL.ob (c := 12) (by decide) rfl) rfl (hL.rr (by decide) rfl) dX12_ship_65 rfl ?_
        refine X_iconst 69 (v := 0) dX12_ship_68 rfl rfl ?_
        refine Y_iald 70 (k := 0) (hL.ar (t := 0) (n := 2) (by decide) rfl) (vlit (by decide)) (by decide) dX12_ship_69 rfl ?_
        obtain ⟨c13, hw⟩ := hw
        refine Y_iast 71 (k := (tn (mi M12 92 34))) (hL.ar (t := 0) (n := 16) (by decide) rfl) c13 rfl dX12_ship_70 rfl ?_
        refine X_nmM (fun M14 eM14 => ?_)
        have hw := hw M14 eM14
        refine X_aload_n 72 dX12_ship_71 rfl rfl ?_
        refine X_dup 73 dX12_ship_72 rfl rfl ?_
        refine X_getI 76 f_X12_221 (hL.ob (c := 12) (by decide) rfl) rfl dX12_ship_73 rfl ?_
        refine X_iconst 77 (v := 1) dX12_ship_76 rfl rfl ?_
        refine X_iadd 78 dX12_ship_77 rfl ?_
        refine X_putI 81 f_X12_221 (Or.inl rfl) (hL.ob (c := 12) (by decide) rfl) rfl dX12_ship_78 rfl ?_
        refine X_nmM (fun M15 eM15 => ?_)
        have hw := hw M15 eM15
        refine X_aload_n 82 dX12_ship_81 rfl rfl ?_
        refine X_getI 85 f_X12_221 (hL.ob (c := 12) (by decide) rfl) rfl dX12_ship_82 rfl ?_
        refine X_iconst 86 (v := 1) dX12_ship_85 rfl rfl ?_
        refine X_isub 87 dX12_ship_86 rfl ?_
        exact X_ret rfl rfl dX12_ship_87 ⟨_, _, rfl, rfl, hw⟩
      · have hw := hw.1 c8
        refine X_iconst 35 (v := -1) dX12_ship_34 rfl rfl ?_
        exact X_ret rfl rfl dX12_ship_35 ⟨_, _, rfl, rfl, hw⟩
def w_X12_keels (L : Lay) (p0 : Int32) (M : Mem) (Q : Int32 → Mem → Prop) : Prop := ∀ M1 : Mem, M1 = si M 92 0 (0 : Int32) → (w_X12_within L p0 (0 : Int32) (6 : Int32) M1 (fun x3 M2 => (((x3 = 0 → (Q (0 : Int32) M2)) ∧ (¬ x3 = 0 → (∀ M5 : Mem, M5 = si M2 94 0 p0 → (Q (1 : Int32) M5)))))))
set_option maxRecDepth 20000 in
theorem s_X12_keels {L : Lay} (hL : LY L) {p0 : Int32}  {M : Mem} {Q : Int32 → Mem → Prop} (hw : w_X12_keels L p0 M Q) : MX yX12_keels cX12_keels (some .boolean) 2 2 0 0 [.ref 92, .int p0] (L, M) (QZ L Q) := by
  unfold w_X12_keels at hw
  refine MX_of (by decide) [.ref 92, .int p0] (by rfl) (by exact Nat.le_of_ble_eq_true rfl) ?_
  show X (FM (QZ L Q)) RX12 cX12_keels (some .boolean) 2 "keels" 2 0 0 (L, M) 0 [.ref 92, .int p0] []
  refine X_aload_n 1 dX12_keels_0 rfl rfl ?_
  refine X_iconst 2 (v := 0) dX12_keels_1 rfl rfl ?_
  refine X_putI 5 f_X12_206 (Or.inl rfl) (hL.ob (c := 12) (by decide) rfl) rfl dX12_keels_2 rfl ?_
  refine X_nmM (fun M1 eM1 => ?_)
  have hw := hw M1 eM1
  refine X_iload_n 6 dX12_keels_5 rfl rfl ?_
  refine X_iconst 7 (v := 0) dX12_keels_6 rfl rfl ?_
  refine X_bipush 9 (v := 6) dX12_keels_7 rfl rfl ?_
  refine Y_cSZ 12 (as := [.int p0, .int (0 : Int32), .int (6 : Int32)]) m_X12_213 (s_X12_within hL  hw) rfl (by decide) (Nat.le_of_ble_eq_true rfl) dX12_keels_9 rfl rfl (fun x3 M2 bx3 hw => ?_)
  refine X_if_ne 17 15 (y := 0) dX12_keels_12 rfl rfl (fun c4 => ?_) (fun c4 => ?_)
  · have hw := hw.2 c4
    refine X_aload_n 18 dX12_keels_17 rfl rfl ?_
    refine X_getR 21 f_X12_13 (hL.ob (c := 12) (by decide) rfl) rfl (hL.rr (by decide) rfl) dX12_keels_18 rfl ?_
    refine X_iconst 22 (v := 0) dX12_keels_21 rfl rfl ?_
    refine X_iload_n 23 dX12_keels_22 rfl rfl ?_
    refine Y_iast 24 (k := 0) (hL.ar (t := 0) (n := 2) (by decide) rfl) (vlit (by decide)) (by decide) dX12_keels_23 rfl ?_
    refine X_nmM (fun M5 eM5 => ?_)
    have hw := hw M5 eM5
    refine X_iconst 25 (v := 1) dX12_keels_24 rfl rfl ?_
    exact X_ret rfl (nar_bool (Or.inr rfl)) dX12_keels_25 ⟨_, _, rfl, Or.inr rfl, rfl, hw⟩
  · have hw := hw.1 c4
    refine X_iconst 16 (v := 0) dX12_keels_15 rfl rfl ?_
    exact X_ret rfl (nar_bool (Or.inl rfl)) dX12_keels_16 ⟨_, _, rfl, Or.inl rfl, rfl, hw⟩
def w_X12_winds_40 (L : Lay) (p0 : Int32) (p1 : Int32) (K40 : Int32 → Mem → Prop) (v3 : Int32) (M : Mem) (Q : Int32 → Mem → Prop) : Prop := ((v3 < p1 → (∀ M10 : Mem, M10 = si M 92 37 ((mi M 92 37) + (1 : Int32)) → (vp_in (mi M10 92 37) 721 ∧ (∀ M12 : Mem, M12 = si M10 127 (tn (mi M10 92 37)) p0 → (∀ x13 : Int32, x13 = v3 + (1 : Int32) → (K40 x13 M12)))))) ∧ (¬ v3 < p1 → (Q (mi M 92 37) M)))
set_option maxRecDepth 20000 in
theorem t_X12_winds_40 {L : Lay} (hL : LY L) {p0 : Int32} {p1 : Int32}  {K40 : Int32 → Mem → Prop} {v3 : Int32}  {M : Mem} {Q : Int32 → Mem → Prop} (hw : w_X12_winds_40 L p0 p1 K40 v3 M Q) (hK40 : ∀ (v3 : Int32) (M : Mem), K40 v3 M → X (FM (QI L Q)) RX12 cX12_winds (some .int) 4 "winds" 2 0 0 (L, M) 40 [.ref 92, .int p0, .int p1, .int v3] []) : X (FM (QI L Q)) RX12 cX12_winds (some .int) 4 "winds" 2 0 0 (L, M) 40 [.ref 92, .int p0, .int p1, .int v3] [] := by
  unfold w_X12_winds_40 at hw
  refine X_iload_n 41 dX12_winds_40 rfl rfl ?_
  refine X_iload_n 42 dX12_winds_41 rfl rfl ?_
  refine X_icmp_ge 71 45 dX12_winds_42 rfl rfl (fun c9 => ?_) (fun c9 => ?_)
  · have hw := hw.2 c9
    refine X_aload_n 72 dX12_winds_71 rfl rfl ?_
    refine X_getI 75 f_X12_224 (hL.ob (c := 12) (by decide) rfl) rfl dX12_winds_72 rfl ?_
    exact X_ret rfl rfl dX12_winds_75 ⟨_, _, rfl, rfl, hw⟩
  · have hw := hw.1 c9
    refine X_aload_n 46 dX12_winds_45 rfl rfl ?_
    refine X_dup 47 dX12_winds_46 rfl rfl ?_
    refine X_getI 50 f_X12_224 (hL.ob (c := 12) (by decide) rfl) rfl dX12_winds_47 rfl ?_
    refine X_iconst 51 (v := 1) dX12_winds_50 rfl rfl ?_
    refine X_iadd 52 dX12_winds_51 rfl ?_
    refine X_putI 55 f_X12_224 (Or.inl rfl) (hL.ob (c := 12) (by decide) rfl) rfl dX12_winds_52 rfl ?_
    refine X_nmM (fun M10 eM10 => ?_)
    have hw := hw M10 eM10
    refine X_aload_n 56 dX12_winds_55 rfl rfl ?_
    refine X_getR 59 f_X12_113 (hL.ob (c := 12) (by decide) rfl) rfl (hL.rr (by decide) rfl) dX12_winds_56 rfl ?_
    refine X_aload_n 60 dX12_winds_59 rfl rfl ?_
    refine X_getI 63 f_X12_224 (hL.ob (c := 12) (by decide) rfl) rfl dX12_winds_60 rfl ?_
    refine X_iload_n 64 dX12_winds_63 rfl rfl ?_
    obtain ⟨c11, hw⟩ := hw
    refine Y_iast 65 (k := (tn (mi M10 92 37))) (hL.ar (t := 0) (n := 721) (by decide) rfl) c11 rfl dX12_winds_64 rfl ?_
    refine X_nmM (fun M12 eM12 => ?_)
    have hw := hw M12 eM12
    obtain ⟨x13, ex13⟩ : ∃ x13 : Int32, x13 = v3 + (1 : Int32) := ⟨_, rfl⟩
    have hw := hw x13 ex13
    refine X_iinc 68 (v := x13) (ls' := [.ref 92, .int p0, .int p1, .int x13]) dX12_winds_65 rfl rfl (by rw [ex13]; rfl) rfl (Or.inr (Or.inr ⟨_, rfl, rfl⟩)) ?_
    refine X_goto 40 dX12_winds_68 rfl ?_
    exact hK40 x13 M12 hw
def w_X12_winds (L : Lay) (p0 : Int32) (p1 : Int32) (M : Mem) (Q : Int32 → Mem → Prop) : Prop := ∀ M1 : Mem, M1 = si M 92 0 (0 : Int32) → (w_X12_within L p0 (0 : Int32) (3 : Int32) M1 (fun x3 M2 => (((x3 = 0 → (Q (-1 : Int32) M2)) ∧ (¬ x3 = 0 → (w_X12_within L p1 (1 : Int32) (60 : Int32) M2 (fun x6 M5 => (((x6 = 0 → (Q (-1 : Int32) M5)) ∧ (¬ x6 = 0 → ((((720 : Int32) < ((mi M5 92 37) + p1) → (Q (-1 : Int32) M5)) ∧ (¬ (720 : Int32) < ((mi M5 92 37) + p1) → (LP2 (fun K40 v3 M => w_X12_winds_40 L p0 p1  K40 v3 M Q) (0 : Int32) M5))))))))))))))
set_option maxRecDepth 20000 in
theorem s_X12_winds {L : Lay} (hL : LY L) {p0 : Int32} {p1 : Int32}  {M : Mem} {Q : Int32 → Mem → Prop} (hw : w_X12_winds L p0 p1 M Q) : MX yX12_winds cX12_winds (some .int) 4 2 0 0 [.ref 92, .int p0, .int p1] (L, M) (QI L Q) := by
  unfold w_X12_winds at hw
  refine MX_of (by decide) [.ref 92, .int p0, .int p1, junk] (by rfl) (by exact Nat.le_of_ble_eq_true rfl) ?_
  show X (FM (QI L Q)) RX12 cX12_winds (some .int) 4 "winds" 2 0 0 (L, M) 0 [.ref 92, .int p0, .int p1, junk] []
  refine X_aload_n 1 dX12_winds_0 rfl rfl ?_
  refine X_iconst 2 (v := 0) dX12_winds_1 rfl rfl ?_
  refine X_putI 5 f_X12_206 (Or.inl rfl) (hL.ob (c := 12) (by decide) rfl) rfl dX12_winds_2 rfl ?_
  refine X_nmM (fun M1 eM1 => ?_)
  have hw := hw M1 eM1
  refine X_iload_n 6 dX12_winds_5 rfl rfl ?_
  refine X_iconst 7 (v := 0) dX12_winds_6 rfl rfl ?_
  refine X_iconst 8 (v := 3) dX12_winds_7 rfl rfl ?_
  refine Y_cSZ 11 (as := [.int p0, .int (0 : Int32), .int (3 : Int32)]) m_X12_213 (s_X12_within hL  hw) rfl (by decide) (Nat.le_of_ble_eq_true rfl) dX12_winds_8 rfl rfl (fun x3 M2 bx3 hw => ?_)
  refine X_if_eq 36 14 (y := 0) dX12_winds_11 rfl rfl (fun c4 => ?_) (fun c4 => ?_)
  · have hw := hw.1 c4
    refine X_iconst 37 (v := -1) dX12_winds_36 rfl rfl ?_
    exact X_ret rfl rfl dX12_winds_37 ⟨_, _, rfl, rfl, hw⟩
  · have hw := hw.2 c4
    refine X_iload_n 15 dX12_winds_14 rfl rfl ?_
    refine X_iconst 16 (v := 1) dX12_winds_15 rfl rfl ?_
    refine X_bipush 18 (v := 60) dX12_winds_16 rfl rfl ?_
    refine Y_cSZ 21 (as := [.int p1, .int (1 : Int32), .int (60 : Int32)]) m_X12_213 (s_X12_within hL  hw) rfl (by decide) (Nat.le_of_ble_eq_true rfl) dX12_winds_18 rfl rfl (fun x6 M5 bx6 hw => ?_)
    refine X_if_eq 36 24 (y := 0) dX12_winds_21 rfl rfl (fun c7 => ?_) (fun c7 => ?_)
    · have hw := hw.1 c7
      refine X_iconst 37 (v := -1) dX12_winds_36 rfl rfl ?_
      exact X_ret rfl rfl dX12_winds_37 ⟨_, _, rfl, rfl, hw⟩
    · have hw := hw.2 c7
      refine X_aload_n 25 dX12_winds_24 rfl rfl ?_
      refine X_getI 28 f_X12_224 (hL.ob (c := 12) (by decide) rfl) rfl dX12_winds_25 rfl ?_
      refine X_iload_n 29 dX12_winds_28 rfl rfl ?_
      refine X_iadd 30 dX12_winds_29 rfl ?_
      refine X_sipush 33 (v := 720) dX12_winds_30 rfl rfl ?_
      refine X_icmp_le 38 36 dX12_winds_33 rfl rfl (fun c8 => ?_) (fun c8 => ?_)
      · have hw := hw.2 c8
        refine X_iconst 39 (v := 0) dX12_winds_38 rfl rfl ?_
        refine X_istore_n 40 (ls' := [.ref 92, .int p0, .int p1, .int (0 : Int32)]) dX12_winds_39 rfl rfl (Nat.le_of_ble_eq_true rfl) rfl (Or.inr (Or.inr ⟨_, rfl, rfl⟩)) ?_
        exact LP2_s hw (G := fun v3 M => X (FM (QI L Q)) RX12 cX12_winds (some .int) 4 "winds" 2 0 0 (L, M) 40 [.ref 92, .int p0, .int p1, .int v3] []) (fun K40 v3 M hb hK => t_X12_winds_40 hL  hb  hK)
      · have hw := hw.1 c8
        refine X_iconst 37 (v := -1) dX12_winds_36 rfl rfl ?_
        exact X_ret rfl rfl dX12_winds_37 ⟨_, _, rfl, rfl, hw⟩
def w_X12_city (L : Lay) (p0 : Int32) (p1 : Int32) (p2 : Int32) (M : Mem) (Q : Int32 → Mem → Prop) : Prop := ∀ M1 : Mem, M1 = si M 92 0 (0 : Int32) → (w_X12_within L p0 (0 : Int32) (99999 : Int32) M1 (fun x3 M2 => (((x3 = 0 → (Q (0 : Int32) M2)) ∧ (¬ x3 = 0 → (w_X12_within L p1 (0 : Int32) (999 : Int32) M2 (fun x6 M5 => (((x6 = 0 → (Q (0 : Int32) M5)) ∧ (¬ x6 = 0 → (w_X12_within L p2 (1 : Int32) (999 : Int32) M5 (fun x9 M8 => (((x9 = 0 → (Q (0 : Int32) M8)) ∧ (¬ x9 = 0 → (∀ M11 : Mem, M11 = si M8 96 0 p0 → (∀ M12 : Mem, M12 = si M11 97 0 p1 → (∀ M13 : Mem, M13 = si M12 98 0 p2 → (Q (1 : Int32) M13)))))))))))))))))))
set_option maxRecDepth 20000 in
theorem s_X12_city {L : Lay} (hL : LY L) {p0 : Int32} {p1 : Int32} {p2 : Int32}  {M : Mem} {Q : Int32 → Mem → Prop} (hw : w_X12_city L p0 p1 p2 M Q) : MX yX12_city cX12_city (some .boolean) 4 2 0 0 [.ref 92, .int p0, .int p1, .int p2] (L, M) (QZ L Q) := by
  unfold w_X12_city at hw
  refine MX_of (by decide) [.ref 92, .int p0, .int p1, .int p2] (by rfl) (by exact Nat.le_of_ble_eq_true rfl) ?_
  show X (FM (QZ L Q)) RX12 cX12_city (some .boolean) 4 "city" 2 0 0 (L, M) 0 [.ref 92, .int p0, .int p1, .int p2] []
  refine X_aload_n 1 dX12_city_0 rfl rfl ?_
  refine X_iconst 2 (v := 0) dX12_city_1 rfl rfl ?_
  refine X_putI 5 f_X12_206 (Or.inl rfl) (hL.ob (c := 12) (by decide) rfl) rfl dX12_city_2 rfl ?_
  refine X_nmM (fun M1 eM1 => ?_)
  have hw := hw M1 eM1
  refine X_iload_n 6 dX12_city_5 rfl rfl ?_
  refine X_iconst 7 (v := 0) dX12_city_6 rfl rfl ?_
  refine X_ldc 9 dX12_city_7 rfl k_X12_227 ?_
  refine Y_cSZ 12 (as := [.int p0, .int (0 : Int32), .int (99999 : Int32)]) m_X12_213 (s_X12_within hL  hw) rfl (by decide) (Nat.le_of_ble_eq_true rfl) dX12_city_9 rfl rfl (fun x3 M2 bx3 hw => ?_)
  refine X_if_eq 37 15 (y := 0) dX12_city_12 rfl rfl (fun c4 => ?_) (fun c4 => ?_)
  · have hw := hw.1 c4
    refine X_iconst 38 (v := 0) dX12_city_37 rfl rfl ?_
    exact X_ret rfl (nar_bool (Or.inl rfl)) dX12_city_38 ⟨_, _, rfl, Or.inl rfl, rfl, hw⟩
  · have hw := hw.2 c4
    refine X_iload_n 16 dX12_city_15 rfl rfl ?_
    refine X_iconst 17 (v := 0) dX12_city_16 rfl rfl ?_
    refine X_sipush 20 (v := 999) dX12_city_17 rfl rfl ?_
    refine Y_cSZ 23 (as := [.int p1, .int (0 : Int32), .int (999 : Int32)]) m_X12_213 (s_X12_within hL  hw) rfl (by decide) (Nat.le_of_ble_eq_true rfl) dX12_city_20 rfl rfl (fun x6 M5 bx6 hw => ?_)
    refine X_if_eq 37 26 (y := 0) dX12_city_23 rfl rfl (fun c7 => ?_) (fun c7 => ?_)
    · have hw := hw.1 c7
      refine X_iconst 38 (v := 0) dX12_city_37 rfl rfl ?_
      exact X_ret rfl (nar_bool (Or.inl rfl)) dX12_city_38 ⟨_, _, rfl, Or.inl rfl, rfl, hw⟩
    · have hw := hw.2 c7
      refine X_iload_n 27 dX12_city_26 rfl rfl ?_
      refine X_iconst 28 (v := 1) dX12_city_27 rfl rfl ?_
      refine X_sipush 31 (v := 999) dX12_city_28 rfl rfl ?_
      refine Y_cSZ 34 (as := [.int p2, .int (1 : Int32), .int (999 : Int32)]) m_X12_213 (s_X12_within hL  hw) rfl (by decide) (Nat.le_of_ble_eq_true rfl) dX12_city_31 rfl rfl (fun x9 M8 bx9 hw => ?_)
      refine X_if_ne 39 37 (y := 0) dX12_city_34 rfl rfl (fun c10 => ?_) (fun c10 => ?_)
      · have hw := hw.2 c10
        refine X_aload_n 40 dX12_city_39 rfl rfl ?_
        refine X_getR 43 f_X12_19 (hL.ob (c := 12) (by decide) rfl) rfl (hL.rr (by decide) rfl) dX12_city_40 rfl ?_
        refine X_iconst 44 (v := 0) dX12_city_43 rfl rfl ?_
        refine X_iload_n 45 dX12_city_44 rfl rfl ?_
        refine Y_iast 46 (k := 0) (hL.ar (t := 0) (n := 2) (by decide) rfl) (vlit (by decide)) (by decide) dX12_city_45 rfl ?_
        refine X_nmM (fun M11 eM11 => ?_)
        have hw := hw M11 eM11
        refine X_aload_n 47 dX12_city_46 rfl rfl ?_
        refine X_getR 50 f_X12_22 (hL.ob (c := 12) (by decide) rfl) rfl (hL.rr (by decide) rfl) dX12_city_47 rfl ?_
        refine X_iconst 51 (v := 0) dX12_city_50 rfl rfl ?_
        refine X_iload_n 52 dX12_city_51 rfl rfl ?_
        refine Y_iast 53 (k := 0) (hL.ar (t := 0) (n := 2) (by decide) rfl) (vlit (by decide)) (by decide) dX12_city_52 rfl ?_
        refine X_nmM (fun M12 eM12 => ?_)
        have hw := hw M12 eM12
        refine X_aload_n 54 dX12_city_53 rfl rfl ?_
        refine X_getR 57 f_X12_25 (hL.ob (c := 12) (by decide) rfl) rfl (hL.rr (by decide) rfl) dX12_city_54 rfl ?_
        refine X_iconst 58 (v := 0) dX12_city_57 rfl rfl ?_
        refine X_iload_n 59 dX12_city_58 rfl rfl ?_
        refine Y_iast 60 (k := 0) (hL.ar (t := 0) (n := 2) (by decide) rfl) (vlit (by decide)) (by decide) dX12_city_59 rfl ?_
        refine X_nmM (fun M13 eM13 => ?_)
        have hw := hw M13 eM13
        refine X_iconst 61 (v := 1) dX12_city_60 rfl rfl ?_
        exact X_ret rfl (nar_bool (Or.inr rfl)) dX12_city_61 ⟨_, _, rfl, Or.inr rfl, rfl, hw⟩
      · have hw := hw.1 c10
        refine X_iconst 38 (v := 0) dX12_city_37 rfl rfl ?_
        exact X_ret rfl (nar_bool (Or.inl rfl)) dX12_city_38 ⟨_, _, rfl, Or.inl rfl, rfl, hw⟩
def w_X12_priceAt_43 (L : Lay) (p0 : Int32) (p1 : Int32)  (y0 : Int32) (M : Mem) (Q : Int32 → Mem → Prop) : Prop := vp_in p0 2 ∧ (Q (jmax (1 : Int32) (y0 + (((mi M 98 (tn p0)) * p1) / (20 : Int32)))) M)
set_option maxRecDepth 20000 in
theorem t_X12_priceAt_43 {L : Lay} (hL : LY L) {p0 : Int32} {p1 : Int32}   {y0 : Int32}  {M : Mem} {Q : Int32 → Mem → Prop} (hw : w_X12_priceAt_43 L p0 p1  y0 M Q)  : X (FM (QI L Q)) RX12 cX12_priceAt (some .int) 5 "priceAt" 2 0 0 (L, M) 43 [.ref 92, .int p0, .int p1, junk, junk] [.int y0] := by
  unfold w_X12_priceAt_43 at hw
  refine X_istore 45 (ls' := [.ref 92, .int p0, .int p1, junk, .int y0]) dX12_priceAt_43 rfl (Nat.le_of_ble_eq_true rfl) rfl (Or.inr (Or.inl rfl)) ?_
  refine X_iconst 46 (v := 1) dX12_priceAt_45 rfl rfl ?_
  refine X_iload 48 dX12_priceAt_46 rfl rfl ?_
  refine X_aload_n 49 dX12_priceAt_48 rfl rfl ?_
  refine X_getR 52 f_X12_25 (hL.ob (c := 12) (by decide) rfl) rfl (hL.rr (by decide) rfl) dX12_priceAt_49 rfl ?_
  refine X_iload_n 53 dX12_priceAt_52 rfl rfl ?_
  obtain ⟨c5, hw⟩ := hw
  refine Y_iald 54 (k := (tn p0)) (hL.ar (t := 0) (n := 2) (by decide) rfl) c5 rfl dX12_priceAt_53 rfl ?_
  refine X_iload_n 55 dX12_priceAt_54 rfl rfl ?_
  refine X_imul 56 dX12_priceAt_55 rfl ?_
  refine X_bipush 58 (v := 20) dX12_priceAt_56 rfl rfl ?_
  refine X_idiv 59 dX12_priceAt_58 rfl (by decide) ?_
  refine X_iadd 60 dX12_priceAt_59 rfl ?_
  refine Y_mmax 63 l_X12_228 (by decide) (Nat.le_of_ble_eq_true rfl) dX12_priceAt_60 rfl ?_
  exact X_ret rfl rfl dX12_priceAt_63 ⟨_, _, rfl, rfl, hw⟩
def w_X12_priceAt (L : Lay) (p0 : Int32) (p1 : Int32) (M : Mem) (Q : Int32 → Mem → Prop) : Prop := vp_in p0 2 ∧ (∀ x2 : Int32, x2 = ((mi M 96 (tn p0)) + ((30 : Int32) * (mi M 97 (tn p0)))) → (((x2 = 0 → (w_X12_priceAt_43 L p0 p1  (0 : Int32) M Q)) ∧ (¬ x2 = 0 → (¬ x2 = 0 ∧ (w_X12_priceAt_43 L p0 p1  ((((mi M 98 (tn p0)) * (60 : Int32)) * (mi M 97 (tn p0))) / x2) M Q))))))
set_option maxRecDepth 20000 in
theorem s_X12_priceAt {L : Lay} (hL : LY L) {p0 : Int32} {p1 : Int32}  {M : Mem} {Q : Int32 → Mem → Prop} (hw : w_X12_priceAt L p0 p1 M Q) : MX yX12_priceAt cX12_priceAt (some .int) 5 2 0 0 [.ref 92, .int p0, .int p1] (L, M) (QI L Q) := by
  unfold w_X12_priceAt at hw
  refine MX_of (by decide) [.ref 92, .int p0, .int p1, junk, junk] (by rfl) (by exact Nat.le_of_ble_eq_true rfl) ?_
  show X (FM (QI L Q)) RX12 cX12_priceAt (some .int) 5 "priceAt" 2 0 0 (L, M) 0 [.ref 92, .int p0, .int p1, junk, junk] []
  refine X_aload_n 1 dX12_priceAt_0 rfl rfl ?_
  refine X_getR 4 f_X12_19 (hL.ob (c := 12) (by decide) rfl) rfl (hL.rr (by decide) rfl) dX12_priceAt_1 rfl ?_
  refine X_iload_n 5 dX12_priceAt_4 rfl rfl ?_
  obtain ⟨c1, hw⟩ := hw
  refine Y_iald 6 (k := (tn p0)) (hL.ar (t := 0) (n := 2) (by decide) rfl) c1 rfl dX12_priceAt_5 rfl ?_
  refine X_bipush 8 (v := 30) dX12_priceAt_6 rfl rfl ?_
  refine X_aload_n 9 dX12_priceAt_8 rfl rfl ?_
  refine X_getR 12 f_X12_22 (hL.ob (c := 12) (by decide) rfl) rfl (hL.rr (by decide) rfl) dX12_priceAt_9 rfl ?_
  refine X_iload_n 13 dX12_priceAt_12 rfl rfl ?_
  refine Y_iald 14 (k := (tn p0)) (hL.ar (t := 0) (n := 2) (by decide) rfl) c1 rfl dX12_priceAt_13 rfl ?_
  refine X_imul 15 dX12_priceAt_14 rfl ?_
  refine X_iadd 16 dX12_priceAt_15 rfl ?_
  refine X_nmI (fun x2 ex2 => ?_)
  have hw := hw x2 ex2
  refine X_istore_n 17 (ls' := [.ref 92, .int p0, .int p1, .int x2, junk]) dX12_priceAt_16 rfl rfl (Nat.le_of_ble_eq_true rfl) rfl (Or.inr (Or.inr ⟨_, rfl, rfl⟩)) ?_
  refine X_iload_n 18 dX12_priceAt_17 rfl rfl ?_
  refine X_if_ne 25 21 (y := 0) dX12_priceAt_18 rfl rfl (fun c3 => ?_) (fun c3 => ?_)
  · have hw := hw.2 c3
    refine X_aload_n 26 dX12_priceAt_25 rfl rfl ?_
    refine X_getR 29 f_X12_25 (hL.ob (c := 12) (by decide) rfl) rfl (hL.rr (by decide) rfl) dX12_priceAt_26 rfl ?_
    refine X_iload_n 30 dX12_priceAt_29 rfl rfl ?_
    refine Y_iald 31 (k := (tn p0)) (hL.ar (t := 0) (n := 2) (by decide) rfl) c1 rfl dX12_priceAt_30 rfl ?_
    refine X_bipush 33 (v := 60) dX12_priceAt_31 rfl rfl ?_
    refine X_imul 34 dX12_priceAt_33 rfl ?_
    refine X_aload_n 35 dX12_priceAt_34 rfl rfl ?_
    refine X_getR 38 f_X12_22 (hL.ob (c := 12) (by decide) rfl) rfl (hL.rr (by decide) rfl) dX12_priceAt_35 rfl ?_
    refine X_iload_n 39 dX12_priceAt_38 rfl rfl ?_
    refine Y_iald 40 (k := (tn p0)) (hL.ar (t := 0) (n := 2) (by decide) rfl) c1 rfl dX12_priceAt_39 rfl ?_
    refine X_imul 41 dX12_priceAt_40 rfl ?_
    refine X_iload_n 42 dX12_priceAt_41 rfl rfl ?_
    obtain ⟨c4, hw⟩ := hw
    refine X_idiv 43 dX12_priceAt_42 rfl c4 ?_
    refine X_weak (ls' := [.ref 92, .int p0, .int p1, junk, junk]) (WK.s (WK.s (WK.s (WK.j (WK.s WK.n))))) (Nat.le_of_ble_eq_true rfl) ?_
    exact t_X12_priceAt_43 hL   hw 
  · have hw := hw.1 c3
    refine X_iconst 22 (v := 0) dX12_priceAt_21 rfl rfl ?_
    refine X_goto 43 dX12_priceAt_22 rfl ?_
    refine X_weak (ls' := [.ref 92, .int p0, .int p1, junk, junk]) (WK.s (WK.s (WK.s (WK.j (WK.s WK.n))))) (Nat.le_of_ble_eq_true rfl) ?_
    exact t_X12_priceAt_43 hL   hw 
def w_X12_price (L : Lay) (p0 : Int32) (M : Mem) (Q : Int32 → Mem → Prop) : Prop := ∀ M1 : Mem, M1 = si M 92 0 (0 : Int32) → (w_X12_within L p0 (0 : Int32) (4 : Int32) M1 (fun x3 M2 => (((x3 = 0 → (Q (-1 : Int32) M2)) ∧ (¬ x3 = 0 → (w_X12_priceAt L (0 : Int32) p0 M2 (fun x6 M5 => (Q x6 M5))))))))
set_option maxRecDepth 20000 in
theorem s_X12_price {L : Lay} (hL : LY L) {p0 : Int32}  {M : Mem} {Q : Int32 → Mem → Prop} (hw : w_X12_price L p0 M Q) : MX yX12_price cX12_price (some .int) 2 3 0 0 [.ref 92, .int p0] (L, M) (QI L Q) := by
  unfold w_X12_price at hw
  refine MX_of (by decide) [.ref 92, .int p0] (by rfl) (by exact Nat.le_of_ble_eq_true rfl) ?_
  show X (FM (QI L Q)) RX12 cX12_price (some .int) 2 "price" 3 0 0 (L, M) 0 [.ref 92, .int p0] []
  refine X_aload_n 1 dX12_price_0 rfl rfl ?_
  refine X_iconst 2 (v := 0) dX12_price_1 rfl rfl ?_
  refine X_putI 5 f_X12_206 (Or.inl rfl) (hL.ob (c := 12) (by decide) rfl) rfl dX12_price_2 rfl ?_
  refine X_nmM (fun M1 eM1 => ?_)
  have hw := hw M1 eM1
  refine X_iload_n 6 dX12_price_5 rfl rfl ?_
  refine X_iconst 7 (v := 0) dX12_price_6 rfl rfl ?_
  refine X_iconst 8 (v := 4) dX12_price_7 rfl rfl ?_
  refine Y_cSZ 11 (as := [.int p0, .int (0 : Int32), .int (4 : Int32)]) m_X12_213 (s_X12_within hL  hw) rfl (by decide) (Nat.le_of_ble_eq_true rfl) dX12_price_8 rfl rfl (fun x3 M2 bx3 hw => ?_)
  refine X_if_eq 23 14 (y := 0) dX12_price_11 rfl rfl (fun c4 => ?_) (fun c4 => ?_)
  · have hw := hw.1 c4
    refine X_iconst 24 (v := -1) dX12_price_23 rfl rfl ?_
    exact X_ret rfl rfl dX12_price_24 ⟨_, _, rfl, rfl, hw⟩
  · have hw := hw.2 c4
    refine X_aload_n 15 dX12_price_14 rfl rfl ?_
    refine X_iconst 16 (v := 0) dX12_price_15 rfl rfl ?_
    refine X_iload_n 17 dX12_price_16 rfl rfl ?_
    refine Y_cVI 20 (as := [.int (0 : Int32), .int p0]) m_X12_234 (s_X12_priceAt hL  hw) (hL.ob (c := 12) (by decide) rfl) rfl (by decide) (Nat.le_of_ble_eq_true rfl) dX12_price_17 rfl rfl (fun x6 M5 hw => ?_)
    refine X_goto 24 dX12_price_20 rfl ?_
    exact X_ret rfl rfl dX12_price_24 ⟨_, _, rfl, rfl, hw⟩
def w_X12_feed_93 (L : Lay) (p0 : Int64) (p1 : Int64) (p2 : Int64) (K8 : Int32 → Mem → Prop) (v7 : Int32) (v10 : Int32) (M : Mem) (Q : Int32 → Mem → Prop) : Prop := vp_in (mi M 92 42) 1000 ∧ (∀ M14 : Mem, M14 = si M 129 (tn (mi M 92 42)) v10 → (∀ M15 : Mem, M15 = si M14 92 42 ((mi M14 92 42) + (1 : Int32)) → (∀ x16 : Int32, x16 = v7 + (1 : Int32) → (K8 x16 M15))))
set_option maxRecDepth 20000 in
theorem t_X12_feed_93 {L : Lay} (hL : LY L) {p0 : Int64} {p1 : Int64} {p2 : Int64}  {K8 : Int32 → Mem → Prop} {v7 : Int32} {v10 : Int32}  {M : Mem} {Q : Int32 → Mem → Prop} (hw : w_X12_feed_93 L p0 p1 p2 K8 v7 v10 M Q) (hK8 : ∀ (v7 : Int32) (M : Mem), K8 v7 M → X (FM (QI L Q)) RX12 cX12_feed (some .int) 11 "feed" 1 0 0 (L, M) 8 [.ref 92, .long p0, junk, .long p1, junk, .long p2, junk, .int v7, junk, junk, junk] []) : X (FM (QI L Q)) RX12 cX12_feed (some .int) 11 "feed" 1 0 0 (L, M) 93 [.ref 92, .long p0, junk, .long p1, junk, .long p2, junk, .int v7, junk, junk, .int v10] [] := by
  unfold w_X12_feed_93 at hw
  refine X_aload_n 94 dX12_feed_93 rfl rfl ?_
  refine X_getR 97 f_X12_119 (hL.ob (c := 12) (by decide) rfl) rfl (hL.rr (by decide) rfl) dX12_feed_94 rfl ?_
  refine X_aload_n 98 dX12_feed_97 rfl rfl ?_
  refine X_getI 101 f_X12_239 (hL.ob (c := 12) (by decide) rfl) rfl dX12_feed_98 rfl ?_
  refine X_iload 103 dX12_feed_101 rfl rfl ?_
  obtain ⟨c13, hw⟩ := hw
  refine Y_iast 104 (k := (tn (mi M 92 42))) (hL.ar (t := 0) (n := 1000) (by decide) rfl) c13 rfl dX12_feed_103 rfl ?_
  refine X_nmM (fun M14 eM14 => ?_)
  have hw := hw M14 eM14
  refine X_aload_n 105 dX12_feed_104 rfl rfl ?_
  refine X_dup 106 dX12_feed_105 rfl rfl ?_
  refine X_getI 109 f_X12_239 (hL.ob (c := 12) (by decide) rfl) rfl dX12_feed_106 rfl ?_
  refine X_iconst 110 (v := 1) dX12_feed_109 rfl rfl ?_
  refine X_iadd 111 dX12_feed_110 rfl ?_
  refine X_putI 114 f_X12_239 (Or.inl rfl) (hL.ob (c := 12) (by decide) rfl) rfl dX12_feed_111 rfl ?_
  refine X_nmM (fun M15 eM15 => ?_)
  have hw := hw M15 eM15
  obtain ⟨x16, ex16⟩ : ∃ x16 : Int32, x16 = v7 + (1 : Int32) := ⟨_, rfl⟩
  have hw := hw x16 ex16
  refine X_iinc 117 (v := x16) (ls' := [.ref 92, .long p0, junk, .long p1, junk, .long p2, junk, .int x16, junk, junk, .int v10]) dX12_feed_114 rfl rfl (by rw [ex16]; rfl) rfl (Or.inr (Or.inl rfl)) ?_
  refine X_goto 8 dX12_feed_117 rfl ?_
  refine X_weak (ls' := [.ref 92, .long p0, junk, .long p1, junk, .long p2, junk, .int x16, junk, junk, junk]) (WK.s (WK.s (WK.s (WK.s (WK.s (WK.s (WK.s (WK.s (WK.s (WK.s (WK.j WK.n))))))))))) (Nat.le_of_ble_eq_true rfl) ?_
  exact hK8 x16 M15 hw
def w_X12_feed_39 (L : Lay) (p0 : Int64) (p1 : Int64) (p2 : Int64) (K8 : Int32 → Mem → Prop) (v7 : Int32) (y0 : Int64) (M : Mem) (Q : Int32 → Mem → Prop) : Prop := ∀ x5 : Int32, x5 = ((jlushr y0 ((56 : Int32) - ((8 : Int32) * (v7 &&& (7 : Int32))))) &&& (255 : Int64)).toInt32 → ((((mi M 92 42) < (1000 : Int32) → (((x5 = (10 : Int32) → (w_X12_feed_93 L p0 p1 p2 K8 v7 x5 M Q)) ∧ (¬ x5 = (10 : Int32) → (((x5 < (32 : Int32) → (∀ x10 : Int32, x10 = v7 + (1 : Int32) → (K8 x10 M))) ∧ (¬ x5 < (32 : Int32) → ((((126 : Int32) < x5 → (∀ x12 : Int32, x12 = v7 + (1 : Int32) → (K8 x12 M))) ∧ (¬ (126 : Int32) < x5 → (w_X12_feed_93 L p0 p1 p2 K8 v7 x5 M Q))))))))))) ∧ (¬ (mi M 92 42) < (1000 : Int32) → (∀ x7 : Int32, x7 = v7 + (1 : Int32) → (K8 x7 M)))))
set_option maxRecDepth 20000 in
theorem t_X12_feed_39 {L : Lay} (hL : LY L) {p0 : Int64} {p1 : Int64} {p2 : Int64}  {K8 : Int32 → Mem → Prop} {v7 : Int32} {y0 : Int64}  {M : Mem} {Q : Int32 → Mem → Prop} (hw : w_X12_feed_39 L p0 p1 p2 K8 v7 y0 M Q) (hK8 : ∀ (v7 : Int32) (M : Mem), K8 v7 M → X (FM (QI L Q)) RX12 cX12_feed (some .int) 11 "feed" 1 0 0 (L, M) 8 [.ref 92, .long p0, junk, .long p1, junk, .long p2, junk, .int v7, junk, junk, junk] []) : X (FM (QI L Q)) RX12 cX12_feed (some .int) 11 "feed" 1 0 0 (L, M) 39 [.ref 92, .long p0, junk, .long p1, junk, .long p2, junk, .int v7, junk, junk, junk] [.long y0] := by
  unfold w_X12_feed_39 at hw
  refine X_lstore 41 (ls' := [.ref 92, .long p0, junk, .long p1, junk, .long p2, junk, .int v7, .long y0, junk, junk]) dX12_feed_39 rfl (Nat.le_of_ble_eq_true rfl) rfl (Or.inr (Or.inr ⟨_, rfl, rfl⟩)) ?_
  refine X_lload 43 dX12_feed_41 rfl rfl ?_
  refine X_bipush 45 (v := 56) dX12_feed_43 rfl rfl ?_
  refine X_bipush 47 (v := 8) dX12_feed_45 rfl rfl ?_
  refine X_iload 49 dX12_feed_47 rfl rfl ?_
  refine X_bipush 51 (v := 7) dX12_feed_49 rfl rfl ?_
  refine X_iand 52 dX12_feed_51 rfl ?_
  refine X_imul 53 dX12_feed_52 rfl ?_
  refine X_isub 54 dX12_feed_53 rfl ?_
  refine Y_lushr 55 dX12_feed_54 rfl ?_
  refine X_ldc2 58 dX12_feed_55 rfl k_X12_237 ?_
  refine X_land 59 dX12_feed_58 rfl ?_
  refine X_l2i 60 dX12_feed_59 rfl ?_
  refine X_nmI (fun x5 ex5 => ?_)
  have hw := hw x5 ex5
  refine X_istore 62 (ls' := [.ref 92, .long p0, junk, .long p1, junk, .long p2, junk, .int v7, .long y0, junk, .int x5]) dX12_feed_60 rfl (Nat.le_of_ble_eq_true rfl) rfl (Or.inr (Or.inl rfl)) ?_
  refine X_aload_n 63 dX12_feed_62 rfl rfl ?_
  refine X_getI 66 f_X12_239 (hL.ob (c := 12) (by decide) rfl) rfl dX12_feed_63 rfl ?_
  refine X_sipush 69 (v := 1000) dX12_feed_66 rfl rfl ?_
  refine X_icmp_ge 114 72 dX12_feed_69 rfl rfl (fun c6 => ?_) (fun c6 => ?_)
  · have hw := hw.2 c6
    obtain ⟨x7, ex7⟩ : ∃ x7 : Int32, x7 = v7 + (1 : Int32) := ⟨_, rfl⟩
    have hw := hw x7 ex7
    refine X_iinc 117 (v := x7) (ls' := [.ref 92, .long p0, junk, .long p1, junk, .long p2, junk, .int x7, .long y0, junk, .int x5]) dX12_feed_114 rfl rfl (by rw [ex7]; rfl) rfl (Or.inr (Or.inl rfl)) ?_
    refine X_goto 8 dX12_feed_117 rfl ?_
    refine X_weak (ls' := [.ref 92, .long p0, junk, .long p1, junk, .long p2, junk, .int x7, junk, junk, junk]) (WK.s (WK.s (WK.s (WK.s (WK.s (WK.s (WK.s (WK.s (WK.j (WK.s (WK.j WK.n))))))))))) (Nat.le_of_ble_eq_true rfl) ?_
    exact hK8 x7 M hw
  · have hw := hw.1 c6
    refine X_iload 74 dX12_feed_72 rfl rfl ?_
    refine X_bipush 76 (v := 10) dX12_feed_74 rfl rfl ?_
    refine X_icmp_eq 93 79 dX12_feed_76 rfl rfl (fun c8 => ?_) (fun c8 => ?_)
    · have hw := hw.1 c8
      refine X_weak (ls' := [.ref 92, .long p0, junk, .long p1, junk, .long p2, junk, .int v7, junk, junk, .int x5]) (WK.s (WK.s (WK.s (WK.s (WK.s (WK.s (WK.s (WK.s (WK.j (WK.s (WK.s WK.n))))))))))) (Nat.le_of_ble_eq_true rfl) ?_
      exact t_X12_feed_93 hL   hw hK8
    · have hw := hw.2 c8
      refine X_iload 81 dX12_feed_79 rfl rfl ?_
      refine X_bipush 83 (v := 32) dX12_feed_81 rfl rfl ?_
      refine X_icmp_lt 114 86 dX12_feed_83 rfl rfl (fun c9 => ?_) (fun c9 => ?_)
      · have hw := hw.1 c9
        obtain ⟨x10, ex10⟩ : ∃ x10 : Int32, x10 = v7 + (1 : Int32) := ⟨_, rfl⟩
        have hw := hw x10 ex10
        refine X_iinc 117 (v := x10) (ls' := [.ref 92, .long p0, junk, .long p1, junk, .long p2, junk, .int x10, .long y0, junk, .int x5]) dX12_feed_114 rfl rfl (by rw [ex10]; rfl) rfl (Or.inr (Or.inl rfl)) ?_
        refine X_goto 8 dX12_feed_117 rfl ?_
        refine X_weak (ls' := [.ref 92, .long p0, junk, .long p1, junk, .long p2, junk, .int x10, junk, junk, junk]) (WK.s (WK.s (WK.s (WK.s (WK.s (WK.s (WK.s (WK.s (WK.j (WK.s (WK.j WK.n))))))))))) (Nat.le_of_ble_eq_true rfl) ?_
        exact hK8 x10 M hw
      · have hw := hw.2 c9
        refine X_iload 88 dX12_feed_86 rfl rfl ?_
        refine X_bipush 90 (v := 126) dX12_feed_88 rfl rfl ?_
        refine X_icmp_gt 114 93 dX12_feed_90 rfl rfl (fun c11 => ?_) (fun c11 => ?_)
        · have hw := hw.1 c11
          obtain ⟨x12, ex12⟩ : ∃ x12 : Int32, x12 = v7 + (1 : Int32) := ⟨_, rfl⟩
          have hw := hw x12 ex12
          refine X_iinc 117 (v := x12) (ls' := [.ref 92, .long p0, junk, .long p1, junk, .long p2, junk, .int x12, .long y0, junk, .int x5]) dX12_feed_114 rfl rfl (by rw [ex12]; rfl) rfl (Or.inr (Or.inl rfl)) ?_
          refine X_goto 8 dX12_feed_117 rfl ?_
          refine X_weak (ls' := [.ref 92, .long p0, junk, .long p1, junk, .long p2, junk, .int x12, junk, junk, junk]) (WK.s (WK.s (WK.s (WK.s (WK.s (WK.s (WK.s (WK.s (WK.j (WK.s (WK.j WK.n))))))))))) (Nat.le_of_ble_eq_true rfl) ?_
          exact hK8 x12 M hw
        · have hw := hw.2 c11
          refine X_weak (ls' := [.ref 92, .long p0, junk, .long p1, junk, .long p2, junk, .int v7, junk, junk, .int x5]) (WK.s (WK.s (WK.s (WK.s (WK.s (WK.s (WK.s (WK.s (WK.j (WK.s (WK.s WK.n))))))))))) (Nat.le_of_ble_eq_true rfl) ?_
          exact t_X12_feed_93 hL   hw hK8
def w_X12_feed_8 (L : Lay) (p0 : Int64) (p1 : Int64) (p2 : Int64) (K8 : Int32 → Mem → Prop) (v7 : Int32) (M : Mem) (Q : Int32 → Mem → Prop) : Prop := ((v7 < (24 : Int32) → (((v7 < (8 : Int32) → (w_X12_feed_39 L p0 p1 p2 K8 v7 p0 M Q)) ∧ (¬ v7 < (8 : Int32) → (((v7 < (16 : Int32) → (w_X12_feed_39 L p0 p1 p2 K8 v7 p1 M Q)) ∧ (¬ v7 < (16 : Int32) → (w_X12_feed_39 L p0 p1 p2 K8 v7 p2 M Q)))))))) ∧ (¬ v7 < (24 : Int32) → (Q (mi M 92 42) M)))
set_option maxRecDepth 20000 in
theorem t_X12_feed_8 {L : Lay} (hL : LY L) {p0 : Int64} {p1 : Int64} {p2 : Int64}  {K8 : Int32 → Mem → Prop} {v7 : Int32}  {M : Mem} {Q : Int32 → Mem → Prop} (hw : w_X12_feed_8 L p0 p1 p2 K8 v7 M Q) (hK8 : ∀ (v7 : Int32) (M : Mem), K8 v7 M → X (FM (QI L Q)) RX12 cX12_feed (some .int) 11 "feed" 1 0 0 (L, M) 8 [.ref 92, .long p0, junk, .long p1, junk, .long p2, junk, .int v7, junk, junk, junk] []) : X (FM (QI L Q)) RX12 cX12_feed (some .int) 11 "feed" 1 0 0 (L, M) 8 [.ref 92, .long p0, junk, .long p1, junk, .long p2, junk, .int v7, junk, junk, junk] [] := by
  unfold w_X12_feed_8 at hw
  refine X_iload 10 dX12_feed_8 rfl rfl ?_
  refine X_bipush 12 (v := 24) dX12_feed_10 rfl rfl ?_
  refine X_icmp_ge 120 15 dX12_feed_12 rfl rfl (fun c2 => ?_) (fun c2 => ?_)
  · have hw := hw.2 c2
    refine X_aload_n 121 dX12_feed_120 rfl rfl ?_
    refine X_getI 124 f_X12_239 (hL.ob (c := 12) (by decide) rfl) rfl dX12_feed_121 rfl ?_
    exact X_ret rfl rfl dX12_feed_124 ⟨_, _, rfl, rfl, hw⟩
  · have hw := hw.1 c2
    refine X_iload 17 dX12_feed_15 rfl rfl ?_
    refine X_bipush 19 (v := 8) dX12_feed_17 rfl rfl ?_
    refine X_icmp_ge 26 22 dX12_feed_19 rfl rfl (fun c3 => ?_) (fun c3 => ?_)
    · have hw := hw.2 c3
      refine X_iload 28 dX12_feed_26 rfl rfl ?_
      refine X_bipush 30 (v := 16) dX12_feed_28 rfl rfl ?_
      refine X_icmp_ge 37 33 dX12_feed_30 rfl rfl (fun c4 => ?_) (fun c4 => ?_)
      · have hw := hw.2 c4
        refine X_lload 39 dX12_feed_37 rfl rfl ?_
        exact t_X12_feed_39 hL   hw hK8
      · have hw := hw.1 c4
        refine X_lload_n 34 dX12_feed_33 rfl rfl ?_
        refine X_goto 39 dX12_feed_34 rfl ?_
        exact t_X12_feed_39 hL   hw hK8
    · have hw := hw.1 c3
      refine X_lload_n 23 dX12_feed_22 rfl rfl ?_
      refine X_goto 39 dX12_feed_23 rfl ?_
      exact t_X12_feed_39 hL   hw hK8
def w_X12_feed (L : Lay) (p0 : Int64) (p1 : Int64) (p2 : Int64) (M : Mem) (Q : Int32 → Mem → Prop) : Prop := ∀ M1 : Mem, M1 = si M 92 0 (0 : Int32) → (LP2 (fun K8 v7 M => w_X12_feed_8 L p0 p1 p2  K8 v7 M Q) (0 : Int32) M1)
set_option maxRecDepth 20000 in
theorem s_X12_feed {L : Lay} (hL : LY L) {p0 : Int64} {p1 : Int64} {p2 : Int64}  {M : Mem} {Q : Int32 → Mem → Prop} (hw : w_X12_feed L p0 p1 p2 M Q) : MX yX12_feed cX12_feed (some .int) 11 1 0 0 [.ref 92, .long p0, .long p1, .long p2] (L, M) (QI L Q) := by
  unfold w_X12_feed at hw
  refine MX_of (by decide) [.ref 92, .long p0, junk, .long p1, junk, .long p2, junk, junk, junk, junk, junk] (by rfl) (by exact Nat.le_of_ble_eq_true rfl) ?_
  show X (FM (QI L Q)) RX12 cX12_feed (some .int) 11 "feed" 1 0 0 (L, M) 0 [.ref 92, .long p0, junk, .long p1, junk, .long p2, junk, junk, junk, junk, junk] []
  refine X_aload_n 1 dX12_feed_0 rfl rfl ?_
  refine X_iconst 2 (v := 0) dX12_feed_1 rfl rfl ?_
  refine X_putI 5 f_X12_206 (Or.inl rfl) (hL.ob (c := 12) (by decide) rfl) rfl dX12_feed_2 rfl ?_
  refine X_nmM (fun M1 eM1 => ?_)
  have hw := hw M1 eM1
  refine X_iconst 6 (v := 0) dX12_feed_5 rfl rfl ?_
  refine X_istore 8 (ls' := [.ref 92, .long p0, junk, .long p1, junk, .long p2, junk, .int (0 : Int32), junk, junk, junk]) dX12_feed_6 rfl (Nat.le_of_ble_eq_true rfl) rfl (Or.inr (Or.inl rfl)) ?_
  exact LP2_s hw (G := fun v7 M => X (FM (QI L Q)) RX12 cX12_feed (some .int) 11 "feed" 1 0 0 (L, M) 8 [.ref 92, .long p0, junk, .long p1, junk, .long p2, junk, .int v7, junk, junk, junk] []) (fun K8 v7 M hb hK => t_X12_feed_8 hL  hb  hK)
def w_X12_signAt (L : Lay) (p0 : Int32) (M : Mem) (Q : Int32 → Mem → Prop) : Prop := ((p0 < (mi M 92 44) → (vp_in p0 1000 ∧ (Q (mi M 129 (tn p0)) M))) ∧ (¬ p0 < (mi M 92 44) → (Q (0 : Int32) M)))
set_option maxRecDepth 20000 in
theorem s_X12_signAt {L : Lay} (hL : LY L) {p0 : Int32}  {M : Mem} {Q : Int32 → Mem → Prop} (hw : w_X12_signAt L p0 M Q) : MX yX12_signAt cX12_signAt (some .int) 2 1 0 0 [.ref 92, .int p0] (L, M) (QI L Q) := by
  unfold w_X12_signAt at hw
  refine MX_of (by decide) [.ref 92, .int p0] (by rfl) (by exact Nat.le_of_ble_eq_true rfl) ?_
  show X (FM (QI L Q)) RX12 cX12_signAt (some .int) 2 "signAt" 1 0 0 (L, M) 0 [.ref 92, .int p0] []
  refine X_iload_n 1 dX12_signAt_0 rfl rfl ?_
  refine X_aload_n 2 dX12_signAt_1 rfl rfl ?_
  refine X_getI 5 f_X12_242 (hL.ob (c := 12) (by decide) rfl) rfl dX12_signAt_2 rfl ?_
  refine X_icmp_ge 17 8 dX12_signAt_5 rfl rfl (fun c1 => ?_) (fun c1 => ?_)
  · have hw := hw.2 c1
    refine X_iconst 18 (v := 0) dX12_signAt_17 rfl rfl ?_
    exact X_ret rfl rfl dX12_signAt_18 ⟨_, _, rfl, rfl, hw⟩
  · have hw := hw.1 c1
    refine X_aload_n 9 dX12_signAt_8 rfl rfl ?_
    refine X_getR 12 f_X12_119 (hL.ob (c := 12) (by decide) rfl) rfl (hL.rr (by decide) rfl) dX12_signAt_9 rfl ?_
    refine X_iload_n 13 dX12_signAt_12 rfl rfl ?_
    obtain ⟨c2, hw⟩ := hw
    refine Y_iald 14 (k := (tn p0)) (hL.ar (t := 0) (n := 1000) (by decide) rfl) c2 rfl dX12_signAt_13 rfl ?_
    refine X_goto 18 dX12_signAt_14 rfl ?_
    exact X_ret rfl rfl dX12_signAt_18 ⟨_, _, rfl, rfl, hw⟩
def w_X12_next_39 (L : Lay)  (K0 : Mem → Prop)  (M : Mem) (Q : Mem → Prop) : Prop := ∀ M14 : Mem, M14 = si M 92 45 ((mi M 92 45) + (1 : Int32)) → (K0  M14)
set_option maxRecDepth 20000 in
theorem t_X12_next_39 {L : Lay} (hL : LY L)   {K0 : Mem → Prop}   {M : Mem} {Q : Mem → Prop} (hw : w_X12_next_39 L  K0  M Q) (hK0 : ∀  (M : Mem), K0  M → X (FM (QV L Q)) RX12 cX12_next none 2 "next" 2 0 0 (L, M) 0 [.ref 92, junk] []) : X (FM (QV L Q)) RX12 cX12_next none 2 "next" 2 0 0 (L, M) 39 [.ref 92, junk] [] := by
  unfold w_X12_next_39 at hw
  refine X_aload_n 40 dX12_next_39 rfl rfl ?_
  refine X_dup 41 dX12_next_40 rfl rfl ?_
  refine X_getI 44 f_X12_245 (hL.ob (c := 12) (by decide) rfl) rfl dX12_next_41 rfl ?_
  refine X_iconst 45 (v := 1) dX12_next_44 rfl rfl ?_
  refine X_iadd 46 dX12_next_45 rfl ?_
  refine X_putI 49 f_X12_245 (Or.inl rfl) (hL.ob (c := 12) (by decide) rfl) rfl dX12_next_46 rfl ?_
  refine X_nmM (fun M14 eM14 => ?_)
  have hw := hw M14 eM14
  refine X_goto 0 dX12_next_49 rfl ?_
  exact hK0  M14 hw
def w_X12_next_175 (L : Lay)  (K109 : Mem → Prop)  (M : Mem) (Q : Mem → Prop) : Prop := ∀ M53 : Mem, M53 = si M 92 45 ((mi M 92 45) + (1 : Int32)) → (K109  M53)
set_option maxRecDepth 20000 in
theorem t_X12_next_175 {L : Lay} (hL : LY L)   {K109 : Mem → Prop}   {M : Mem} {Q : Mem → Prop} (hw : w_X12_next_175 L  K109  M Q) (hK109 : ∀  (M : Mem), K109  M → X (FM (QV L Q)) RX12 cX12_next none 2 "next" 2 0 0 (L, M) 109 [.ref 92, junk] []) : X (FM (QV L Q)) RX12 cX12_next none 2 "next" 2 0 0 (L, M) 175 [.ref 92, junk] [] := by
  unfold w_X12_next_175 at hw
  refine X_aload_n 176 dX12_next_175 rfl rfl ?_
  refine X_dup 177 dX12_next_176 rfl rfl ?_
  refine X_getI 180 f_X12_245 (hL.ob (c := 12) (by decide) rfl) rfl dX12_next_177 rfl ?_
  refine X_iconst 181 (v := 1) dX12_next_180 rfl rfl ?_
  refine X_iadd 182 dX12_next_181 rfl ?_
  refine X_putI 185 f_X12_245 (Or.inl rfl) (hL.ob (c := 12) (by decide) rfl) rfl dX12_next_182 rfl ?_
  refine X_nmM (fun M53 eM53 => ?_)
  have hw := hw M53 eM53
  refine X_goto 109 dX12_next_185 rfl ?_
  exact hK109  M53 hw
def w_X12_next_188 (L : Lay)    (M : Mem) (Q : Mem → Prop) : Prop := ∀ x50 : Int32, x50 = (if (8 : Int32) < ((mi M 92 45) - (mi M 92 46)) then (4 : Int32) else (1 : Int32)) → (∀ M51 : Mem, M51 = si M 92 47 x50 → (Q M51))
set_option maxRecDepth 20000 in
theorem t_X12_next_188 {L : Lay} (hL : LY L)      {M : Mem} {Q : Mem → Prop} (hw : w_X12_next_188 L    M Q)  : X (FM (QV L Q)) RX12 cX12_next none 2 "next" 2 0 0 (L, M) 188 [.ref 92, junk] [] := by
  unfold w_X12_next_188 at hw
  refine X_aload_n 189 dX12_next_188 rfl rfl ?_
  refine X_aload_n 190 dX12_next_189 rfl rfl ?_
  refine X_getI 193 f_X12_245 (hL.ob (c := 12) (by decide) rfl) rfl dX12_next_190 rfl ?_
  refine X_aload_n 194 dX12_next_193 rfl rfl ?_
  refine X_getI 197 f_X12_248 (hL.ob (c := 12) (by decide) rfl) rfl dX12_next_194 rfl ?_
  refine X_isub 198 dX12_next_197 rfl ?_
  refine X_bipush 200 (v := 8) dX12_next_198 rfl rfl ?_
  obtain ⟨x50, ex50⟩ : ∃ x50 : Int32, x50 = (if (8 : Int32) < ((mi M 92 45) - (mi M 92 46)) then (4 : Int32) else (1 : Int32)) := ⟨_, rfl⟩
  have hw := hw x50 ex50
  have hJ : X (FM (QV L Q)) RX12 cX12_next none 2 "next" 2 0 0 (L, M) 208 [.ref 92, junk] [.int x50, .ref 92] := by
    refine X_putI 211 f_X12_258 (Or.inl rfl) (hL.ob (c := 12) (by decide) rfl) rfl dX12_next_208 rfl ?_
    refine X_nmM (fun M51 eM51 => ?_)
    have hw := hw M51 eM51
    exact X_retV rfl dX12_next_211 ⟨_, rfl, rfl, hw⟩
  refine X_icmp_le 207 203 dX12_next_200 rfl rfl (fun c52 => ?_) (fun c52 => ?_)
  · refine X_iconst 208 (v := 1) dX12_next_207 rfl rfl ?_
    rw [if_neg c52] at ex50
    rw [ex50] at hJ
    exact hJ
  · refine X_iconst 204 (v := 4) dX12_next_203 rfl rfl ?_
    refine X_goto 208 dX12_next_204 rfl ?_
    rw [if_pos c52] at ex50
    rw [ex50] at hJ
    exact hJ
def w_X12_next_109 (L : Lay)  (K109 : Mem → Prop)  (M : Mem) (Q : Mem → Prop) : Prop := w_X12_signAt L (mi M 92 45) M (fun x18 M17 => (((x18 < (97 : Int32) → (w_X12_next_188 L    M17 Q)) ∧ (¬ x18 < (97 : Int32) → (w_X12_signAt L (mi M17 92 45) M17 (fun x21 M20 => ((((122 : Int32) < x21 → (w_X12_next_188 L    M20 Q)) ∧ (¬ (122 : Int32) < x21 → (((((mi M20 92 45) - (mi M20 92 46)) < (8 : Int32) → (w_X12_signAt L (mi M20 92 45) M20 (fun x25 M24 => (∀ M26 : Mem, M26 = sl M24 92 48 ((((ml M20 92 48) * (27 : Int64)) + (x25.toInt64)) - (96 : Int64)) → (w_X12_next_175 L  K109  M26 Q))))) ∧ (¬ ((mi M20 92 45) - (mi M20 92 46)) < (8 : Int32) → (w_X12_next_175 L  K109  M20 Q)))))))))))))
set_option maxRecDepth 20000 in
theorem t_X12_next_109 {L : Lay} (hL : LY L)   {K109 : Mem → Prop}   {M : Mem} {Q : Mem → Prop} (hw : w_X12_next_109 L  K109  M Q) (hK109 : ∀  (M : Mem), K109  M → X (FM (QV L Q)) RX12 cX12_next none 2 "next" 2 0 0 (L, M) 109 [.ref 92, junk] []) : X (FM (QV L Q)) RX12 cX12_next none 2 "next" 2 0 0 (L, M) 109 [.ref 92, junk] [] := by
  unfold w_X12_next_109 at hw
  refine X_aload_n 110 dX12_next_109 rfl rfl ?_
  refine X_aload_n 111 dX12_next_110 rfl rfl ?_
  refine X_getI 114 f_X12_245 (hL.ob (c := 12) (by decide) rfl) rfl dX12_next_111 rfl ?_
  refine Y_cVI 117 (as := [.int ((mi M 92 45))]) m_X12_261 (s_X12_signAt hL  hw) (hL.ob (c := 12) (by decide) rfl) rfl (by decide) (Nat.le_of_ble_eq_true rfl) dX12_next_114 rfl rfl (fun x18 M17 hw => ?_)
  refine X_bipush 119 (v := 97) dX12_next_117 rfl rfl ?_
  refine X_icmp_lt 188 122 dX12_next_119 rfl rfl (fun c19 => ?_) (fun c19 => ?_)
  · have hw := hw.1 c19
    exact t_X12_next_188 hL   hw 
  · have hw := hw.2 c19
    refine X_aload_n 123 dX12_next_122 rfl rfl ?_
    refine X_aload_n 124 dX12_next_123 rfl rfl ?_
    refine X_getI 127 f_X12_245 (hL.ob (c := 12) (by decide) rfl) rfl dX12_next_124 rfl ?_
    refine Y_cVI 130 (as := [.int ((mi M17 92 45))]) m_X12_261 (s_X12_signAt hL  hw) (hL.ob (c := 12) (by decide) rfl) rfl (by decide) (Nat.le_of_ble_eq_true rfl) dX12_next_127 rfl rfl (fun x21 M20 hw => ?_)
    refine X_bipush 132 (v := 122) dX12_next_130 rfl rfl ?_
    refine X_icmp_gt 188 135 dX12_next_132 rfl rfl (fun c22 => ?_) (fun c22 => ?_)
    · have hw := hw.1 c22
      exact t_X12_next_188 hL   hw 
    · have hw := hw.2 c22
      refine X_aload_n 136 dX12_next_135 rfl rfl ?_
      refine X_getI 139 f_X12_245 (hL.ob (c := 12) (by decide) rfl) rfl dX12_next_136 rfl ?_
      refine X_aload_n 140 dX12_next_139 rfl rfl ?_
      refine X_getI 143 f_X12_248 (hL.ob (c := 12) (by decide) rfl) rfl dX12_next_140 rfl ?_
      refine X_isub 144 dX12_next_143 rfl ?_
      refine X_bipush 146 (v := 8) dX12_next_144 rfl rfl ?_
      refine X_icmp_ge 175 149 dX12_next_146 rfl rfl (fun c23 => ?_) (fun c23 => ?_)
      · have hw := hw.2 c23
        exact t_X12_next_175 hL   hw hK109
      · have hw := hw.1 c23
        refine X_aload_n 150 dX12_next_149 rfl rfl ?_
        refine X_aload_n 151 dX12_next_150 rfl rfl ?_
        refine X_getL 154 f_X12_251 (hL.ob (c := 12) (by decide) rfl) rfl dX12_next_151 rfl ?_
        refine X_ldc2 157 dX12_next_154 rfl k_X12_265 ?_
        refine X_lmul 158 dX12_next_157 rfl ?_
        refine X_aload_n 159 dX12_next_158 rfl rfl ?_
        refine X_aload_n 160 dX12_next_159 rfl rfl ?_
        refine X_getI 163 f_X12_245 (hL.ob (c := 12) (by decide) rfl) rfl dX12_next_160 rfl ?_
        refine Y_cVI 166 (as := [.int ((mi M20 92 45))]) m_X12_261 (s_X12_signAt hL  hw) (hL.ob (c := 12) (by decide) rfl) rfl (by decide) (Nat.le_of_ble_eq_true rfl) dX12_next_163 rfl rfl (fun x25 M24 hw => ?_)
        refine X_i2l 167 dX12_next_166 rfl ?_
        refine X_ladd 168 dX12_next_167 rfl ?_
        refine X_ldc2 171 dX12_next_168 rfl k_X12_267 ?_
        refine X_lsub 172 dX12_next_171 rfl ?_
        refine X_putL 175 f_X12_251 (Or.inl rfl) (hL.ob (c := 12) (by decide) rfl) rfl dX12_next_172 rfl ?_
        refine X_nmM (fun M26 eM26 => ?_)
        have hw := hw M26 eM26
        exact t_X12_next_175 hL   hw hK109
def w_X12_next_286 (L : Lay)  (K224 : Mem → Prop)  (M : Mem) (Q : Mem → Prop) : Prop := ∀ M57 : Mem, M57 = si M 92 45 ((mi M 92 45) + (1 : Int32)) → (K224  M57)
set_option maxRecDepth 20000 in
theorem t_X12_next_286 {L : Lay} (hL : LY L)   {K224 : Mem → Prop}   {M : Mem} {Q : Mem → Prop} (hw : w_X12_next_286 L  K224  M Q) (hK224 : ∀  (M : Mem), K224  M → X (FM (QV L Q)) RX12 cX12_next none 2 "next" 2 0 0 (L, M) 224 [.ref 92, junk] []) : X (FM (QV L Q)) RX12 cX12_next none 2 "next" 2 0 0 (L, M) 286 [.ref 92, junk] [] := by
  unfold w_X12_next_286 at hw
  refine X_aload_n 287 dX12_next_286 rfl rfl ?_
  refine X_dup 288 dX12_next_287 rfl rfl ?_
  refine X_getI 291 f_X12_245 (hL.ob (c := 12) (by decide) rfl) rfl dX12_next_288 rfl ?_
  refine X_iconst 292 (v := 1) dX12_next_291 rfl rfl ?_
  refine X_iadd 293 dX12_next_292 rfl ?_
  refine X_putI 296 f_X12_245 (Or.inl rfl) (hL.ob (c := 12) (by decide) rfl) rfl dX12_next_293 rfl ?_
  refine X_nmM (fun M57 eM57 => ?_)
  have hw := hw M57 eM57
  refine X_goto 224 dX12_next_296 rfl ?_
  exact hK224  M57 hw
def w_X12_next_299 (L : Lay)    (M : Mem) (Q : Mem → Prop) : Prop := ∀ x54 : Int32, x54 = (if (4 : Int32) < ((mi M 92 45) - (mi M 92 46)) then (4 : Int32) else (2 : Int32)) → (∀ M55 : Mem, M55 = si M 92 47 x54 → (Q M55))
set_option maxRecDepth 20000 in
theorem t_X12_next_299 {L : Lay} (hL : LY L)      {M : Mem} {Q : Mem → Prop} (hw : w_X12_next_299 L    M Q)  : X (FM (QV L Q)) RX12 cX12_next none 2 "next" 2 0 0 (L, M) 299 [.ref 92, junk] [] := by
  unfold w_X12_next_299 at hw
  refine X_aload_n 300 dX12_next_299 rfl rfl ?_
  refine X_aload_n 301 dX12_next_300 rfl rfl ?_
  refine X_getI 304 f_X12_245 (hL.ob (c := 12) (by decide) rfl) rfl dX12_next_301 rfl ?_
  refine X_aload_n 305 dX12_next_304 rfl rfl ?_
  refine X_getI 308 f_X12_248 (hL.ob (c := 12) (by decide) rfl) rfl dX12_next_305 rfl ?_
  refine X_isub 309 dX12_next_308 rfl ?_
  refine X_iconst 310 (v := 4) dX12_next_309 rfl rfl ?_
  obtain ⟨x54, ex54⟩ : ∃ x54 : Int32, x54 = (if (4 : Int32) < ((mi M 92 45) - (mi M 92 46)) then (4 : Int32) else (2 : Int32)) := ⟨_, rfl⟩
  have hw := hw x54 ex54
  have hJ : X (FM (QV L Q)) RX12 cX12_next none 2 "next" 2 0 0 (L, M) 318 [.ref 92, junk] [.int x54, .ref 92] := by
    refine X_putI 321 f_X12_258 (Or.inl rfl) (hL.ob (c := 12) (by decide) rfl) rfl dX12_next_318 rfl ?_
    refine X_nmM (fun M55 eM55 => ?_)
    have hw := hw M55 eM55
    exact X_retV rfl dX12_next_321 ⟨_, rfl, rfl, hw⟩
  refine X_icmp_le 317 313 dX12_next_310 rfl rfl (fun c56 => ?_) (fun c56 => ?_)
  · refine X_iconst 318 (v := 2) dX12_next_317 rfl rfl ?_
    rw [if_neg c56] at ex54
    rw [ex54] at hJ
    exact hJ
  · refine X_iconst 314 (v := 4) dX12_next_313 rfl rfl ?_
    refine X_goto 318 dX12_next_314 rfl ?_
    rw [if_pos c56] at ex54
    rw [ex54] at hJ
    exact hJ
def w_X12_next_224 (L : Lay)  (K224 : Mem → Prop)  (M : Mem) (Q : Mem → Prop) : Prop := w_X12_signAt L (mi M 92 45) M (fun x41 M40 => (((x41 < (48 : Int32) → (w_X12_next_299 L    M40 Q)) ∧ (¬ x41 < (48 : Int32) → (w_X12_signAt L (mi M40 92 45) M40 (fun x44 M43 => ((((57 : Int32) < x44 → (w_X12_next_299 L    M43 Q)) ∧ (¬ (57 : Int32) < x44 → (((((mi M43 92 45) - (mi M43 92 46)) < (4 : Int32) → (w_X12_signAt L (mi M43 92 45) M43 (fun x48 M47 => (∀ M49 : Mem, M49 = si M47 92 49 ((((mi M43 92 49) * (10 : Int32)) + x48) - (48 : Int32)) → (w_X12_next_286 L  K224  M49 Q))))) ∧ (¬ ((mi M43 92 45) - (mi M43 92 46)) < (4 : Int32) → (w_X12_next_286 L  K224  M43 Q)))))))))))))
set_option maxRecDepth 20000 in
theorem t_X12_next_224 {L : Lay} (hL : LY L)   {K224 : Mem → Prop}   {M : Mem} {Q : Mem → Prop} (hw : w_X12_next_224 L  K224  M Q) (hK224 : ∀  (M : Mem), K224  M → X (FM (QV L Q)) RX12 cX12_next none 2 "next" 2 0 0 (L, M) 224 [.ref 92, junk] []) : X (FM (QV L Q)) RX12 cX12_next none 2 "next" 2 0 0 (L, M) 224 [.ref 92, junk] [] := by
  unfold w_X12_next_224 at hw
  refine X_aload_n 225 dX12_next_224 rfl rfl ?_
  refine X_aload_n 226 dX12_next_225 rfl rfl ?_
  refine X_getI 229 f_X12_245 (hL.ob (c := 12) (by decide) rfl) rfl dX12_next_226 rfl ?_
  refine Y_cVI 232 (as := [.int ((mi M 92 45))]) m_X12_261 (s_X12_signAt hL  hw) (hL.ob (c := 12) (by decide) rfl) rfl (by decide) (Nat.le_of_ble_eq_true rfl) dX12_next_229 rfl rfl (fun x41 M40 hw => ?_)
  refine X_bipush 234 (v := 48) dX12_next_232 rfl rfl ?_
  refine X_icmp_lt 299 237 dX12_next_234 rfl rfl (fun c42 => ?_) (fun c42 => ?_)
  · have hw := hw.1 c42
    exact t_X12_next_299 hL   hw 
  · have hw := hw.2 c42
    refine X_aload_n 238 dX12_next_237 rfl rfl ?_
    refine X_aload_n 239 dX12_next_238 rfl rfl ?_
    refine X_getI 242 f_X12_245 (hL.ob (c := 12) (by decide) rfl) rfl dX12_next_239 rfl ?_
    refine Y_cVI 245 (as := [.int ((mi M40 92 45))]) m_X12_261 (s_X12_signAt hL  hw) (hL.ob (c := 12) (by decide) rfl) rfl (by decide) (Nat.le_of_ble_eq_true rfl) dX12_next_242 rfl rfl (fun x44 M43 hw => ?_)
    refine X_bipush 247 (v := 57) dX12_next_245 rfl rfl ?_
    refine X_icmp_gt 299 250 dX12_next_247 rfl rfl (fun c45 => ?_) (fun c45 => ?_)
    · have hw := hw.1 c45
      exact t_X12_next_299 hL   hw 
    · have hw := hw.2 c45
      refine X_aload_n 251 dX12_next_250 rfl rfl ?_
      refine X_getI 254 f_X12_245 (hL.ob (c := 12) (by decide) rfl) rfl dX12_next_251 rfl ?_
      refine X_aload_n 255 dX12_next_254 rfl rfl ?_
      refine X_getI 258 f_X12_248 (hL.ob (c := 12) (by decide) rfl) rfl dX12_next_255 rfl ?_
      refine X_isub 259 dX12_next_258 rfl ?_
      refine X_iconst 260 (v := 4) dX12_next_259 rfl rfl ?_
      refine X_icmp_ge 286 263 dX12_next_260 rfl rfl (fun c46 => ?_) (fun c46 => ?_)
      · have hw := hw.2 c46
        exact t_X12_next_286 hL   hw hK224
      · have hw := hw.1 c46
        refine X_aload_n 264 dX12_next_263 rfl rfl ?_
        refine X_aload_n 265 dX12_next_264 rfl rfl ?_
        refine X_getI 268 f_X12_255 (hL.ob (c := 12) (by decide) rfl) rfl dX12_next_265 rfl ?_
        refine X_bipush 270 (v := 10) dX12_next_268 rfl rfl ?_
        refine X_imul 271 dX12_next_270 rfl ?_
        refine X_aload_n 272 dX12_next_271 rfl rfl ?_
        refine X_aload_n 273 dX12_next_272 rfl rfl ?_
        refine X_getI 276 f_X12_245 (hL.ob (c := 12) (by decide) rfl) rfl dX12_next_273 rfl ?_
        refine Y_cVI 279 (as := [.int ((mi M43 92 45))]) m_X12_261 (s_X12_signAt hL  hw) (hL.ob (c := 12) (by decide) rfl) rfl (by decide) (Nat.le_of_ble_eq_true rfl) dX12_next_276 rfl rfl (fun x48 M47 hw => ?_)
        refine X_iadd 280 dX12_next_279 rfl ?_
        refine X_bipush 282 (v := 48) dX12_next_280 rfl rfl ?_
        refine X_isub 283 dX12_next_282 rfl ?_
        refine X_putI 286 f_X12_255 (Or.inl rfl) (hL.ob (c := 12) (by decide) rfl) rfl dX12_next_283 rfl ?_
        refine X_nmM (fun M49 eM49 => ?_)
        have hw := hw M49 eM49
        exact t_X12_next_286 hL   hw hK224
def w_X12_next_322 (L : Lay)   (v1 : Int32) (M : Mem) (Q : Mem → Prop) : Prop := ∀ M27 : Mem, M27 = si M 92 45 ((mi M 92 45) + (1 : Int32)) → (∀ x28 : Int32, x28 = (if v1 < (40 : Int32) then (if v1 = (45 : Int32) then (3 : Int32) else (if v1 = (47 : Int32) then (3 : Int32) else (if v1 < (59 : Int32) then (4 : Int32) else (if (61 : Int32) < v1 then (4 : Int32) else (3 : Int32))))) else (if (43 : Int32) < v1 then (if v1 = (45 : Int32) then (3 : Int32) else (if v1 = (47 : Int32) then (3 : Int32) else (if v1 < (59 : Int32) then (4 : Int32) else (if (61 : Int32) < v1 then (4 : Int32) else (3 : Int32))))) else (3 : Int32))) → (∀ M29 : Mem, M29 = si M27 92 47 x28 → (Q M29)))
set_option maxRecDepth 20000 in
theorem t_X12_next_322 {L : Lay} (hL : LY L)    {v1 : Int32}  {M : Mem} {Q : Mem → Prop} (hw : w_X12_next_322 L   v1 M Q)  : X (FM (QV L Q)) RX12 cX12_next none 2 "next" 2 0 0 (L, M) 322 [.ref 92, .int v1] [] := by
  unfold w_X12_next_322 at hw
  refine X_aload_n 323 dX12_next_322 rfl rfl ?_
  refine X_dup 324 dX12_next_323 rfl rfl ?_
  refine X_getI 327 f_X12_245 (hL.ob (c := 12) (by decide) rfl) rfl dX12_next_324 rfl ?_
  refine X_iconst 328 (v := 1) dX12_next_327 rfl rfl ?_
  refine X_iadd 329 dX12_next_328 rfl ?_
  refine X_putI 332 f_X12_245 (Or.inl rfl) (hL.ob (c := 12) (by decide) rfl) rfl dX12_next_329 rfl ?_
  refine X_nmM (fun M27 eM27 => ?_)
  have hw := hw M27 eM27
  refine X_aload_n 333 dX12_next_332 rfl rfl ?_
  refine X_iload_n 334 dX12_next_333 rfl rfl ?_
  refine X_bipush 336 (v := 40) dX12_next_334 rfl rfl ?_
  obtain ⟨x28, ex28⟩ : ∃ x28 : Int32, x28 = (if v1 < (40 : Int32) then (if v1 = (45 : Int32) then (3 : Int32) else (if v1 = (47 : Int32) then (3 : Int32) else (if v1 < (59 : Int32) then (4 : Int32) else (if (61 : Int32) < v1 then (4 : Int32) else (3 : Int32))))) else (if (43 : Int32) < v1 then (if v1 = (45 : Int32) then (3 : Int32) else (if v1 = (47 : Int32) then (3 : Int32) else (if v1 < (59 : Int32) then (4 : Int32) else (if (61 : Int32) < v1 then (4 : Int32) else (3 : Int32))))) else (3 : Int32))) := ⟨_, rfl⟩
  have hw := hw x28 ex28
  have hJ : X (FM (QV L Q)) RX12 cX12_next none 2 "next" 2 0 0 (L, M27) 374 [.ref 92, .int v1] [.int x28, .ref 92] := by
    refine X_putI 377 f_X12_258 (Or.inl rfl) (hL.ob (c := 12) (by decide) rfl) rfl dX12_next_374 rfl ?_
    refine X_nmM (fun M29 eM29 => ?_)
    have hw := hw M29 eM29
    exact X_retV rfl dX12_next_377 ⟨_, rfl, rfl, hw⟩
  refine X_icmp_lt 345 339 dX12_next_336 rfl rfl (fun c30 => ?_) (fun c30 => ?_)
  · refine X_iload_n 346 dX12_next_345 rfl rfl ?_
    refine X_bipush 348 (v := 45) dX12_next_346 rfl rfl ?_
    refine X_icmp_eq 369 351 dX12_next_348 rfl rfl (fun c31 => ?_) (fun c31 => ?_)
    · refine X_iconst 370 (v := 3) dX12_next_369 rfl rfl ?_
      refine X_goto 374 dX12_next_370 rfl ?_
      rw [if_pos c30, if_pos c31] at ex28
      rw [ex28] at hJ
      exact hJ
    · refine X_iload_n 352 dX12_next_351 rfl rfl ?_
      refine X_bipush 354 (v := 47) dX12_next_352 rfl rfl ?_
      refine X_icmp_eq 369 357 dX12_next_354 rfl rfl (fun c32 => ?_) (fun c32 => ?_)
      · refine X_iconst 370 (v := 3) dX12_next_369 rfl rfl ?_
        refine X_goto 374 dX12_next_370 rfl ?_
        rw [if_pos c30, if_neg c31, if_pos c32] at ex28
        rw [ex28] at hJ
        exact hJ
      · refine X_iload_n 358 dX12_next_357 rfl rfl ?_
        refine X_bipush 360 (v := 59) dX12_next_358 rfl rfl ?_
        refine X_icmp_lt 373 363 dX12_next_360 rfl rfl (fun c33 => ?_) (fun c33 => ?_)
        · refine X_iconst 374 (v := 4) dX12_next_373 rfl rfl ?_
          rw [if_pos c30, if_neg c31, if_neg c32, if_pos c33] at ex28
          rw [ex28] at hJ
          exact hJ
        · refine X_iload_n 364 dX12_next_363 rfl rfl ?_
          refine X_bipush 366 (v := 61) dX12_next_364 rfl rfl ?_
          refine X_icmp_gt 373 369 dX12_next_366 rfl rfl (fun c34 => ?_) (fun c34 => ?_)
          · refine X_iconst 374 (v := 4) dX12_next_373 rfl rfl ?_
            rw [if_pos c30, if_neg c31, if_neg c32, if_neg c33, if_pos c34] at ex28
            rw [ex28] at hJ
            exact hJ
          · refine X_iconst 370 (v := 3) dX12_next_369 rfl rfl ?_
            refine X_goto 374 dX12_next_370 rfl ?_
            rw [if_pos c30, if_neg c31, if_neg c32, if_neg c33, if_neg c34] at ex28
            rw [ex28] at hJ
            exact hJ
  · refine X_iload_n 340 dX12_next_339 rfl rfl ?_
    refine X_bipush 342 (v := 43) dX12_next_340 rfl rfl ?_
    refine X_icmp_le 369 345 dX12_next_342 rfl rfl (fun c35 => ?_) (fun c35 => ?_)
    · refine X_iconst 370 (v := 3) dX12_next_369 rfl rfl ?_
      refine X_goto 374 dX12_next_370 rfl ?_
      rw [if_neg c30, if_neg c35] at ex28
      rw [ex28] at hJ
      exact hJ
    · refine X_iload_n 346 dX12_next_345 rfl rfl ?_
      refine X_bipush 348 (v := 45) dX12_next_346 rfl rfl ?_
      refine X_icmp_eq 369 351 dX12_next_348 rfl rfl (fun c36 => ?_) (fun c36 => ?_)
      · refine X_iconst 370 (v := 3) dX12_next_369 rfl rfl ?_
        refine X_goto 374 dX12_next_370 rfl ?_
        rw [if_neg c30, if_pos c35, if_pos c36] at ex28
        rw [ex28] at hJ
        exact hJ
      · refine X_iload_n 352 dX12_next_351 rfl rfl ?_
        refine X_bipush 354 (v := 47) dX12_next_352 rfl rfl ?_
        refine X_icmp_eq 369 357 dX12_next_354 rfl rfl (fun c37 => ?_) (fun c37 => ?_)
        · refine X_iconst 370 (v := 3) dX12_next_369 rfl rfl ?_
          refine X_goto 374 dX12_next_370 rfl ?_
          rw [if_neg c30, if_pos c35, if_neg c36, if_pos c37] at ex28
          rw [ex28] at hJ
          exact hJ
        · refine X_iload_n 358 dX12_next_357 rfl rfl ?_
          refine X_bipush 360 (v := 59) dX12_next_358 rfl rfl ?_
          refine X_icmp_lt 373 363 dX12_next_360 rfl rfl (fun c38 => ?_) (fun c38 => ?_)
          · refine X_iconst 374 (v := 4) dX12_next_373 rfl rfl ?_
            rw [if_neg c30, if_pos c35, if_neg c36, if_neg c37, if_pos c38] at ex28
            rw [ex28] at hJ
            exact hJ
          · refine X_iload_n 364 dX12_next_363 rfl rfl ?_
            refine X_bipush 366 (v := 61) dX12_next_364 rfl rfl ?_
            refine X_icmp_gt 373 369 dX12_next_366 rfl rfl (fun c39 => ?_) (fun c39 => ?_)
            · refine X_iconst 374 (v := 4) dX12_next_373 rfl rfl ?_
              rw [if_neg c30, if_pos c35, if_neg c36, if_neg c37, if_neg c38, if_pos c39] at ex28
              rw [ex28] at hJ
              exact hJ
            · refine X_iconst 370 (v := 3) dX12_next_369 rfl rfl ?_
              refine X_goto 374 dX12_next_370 rfl ?_
              rw [if_neg c30, if_pos c35, if_neg c36, if_neg c37, if_neg c38, if_neg c39] at ex28
              rw [ex28] at hJ
              exact hJ
def w_X12_next_212 (L : Lay)   (v1 : Int32) (M : Mem) (Q : Mem → Prop) : Prop := ((v1 < (48 : Int32) → (w_X12_next_322 L   v1 M Q)) ∧ (¬ v1 < (48 : Int32) → ((((57 : Int32) < v1 → (w_X12_next_322 L   v1 M Q)) ∧ (¬ (57 : Int32) < v1 → (LP1 (fun K224  M => w_X12_next_224 L   K224  M Q)  M))))))
set_option maxRecDepth 20000 in
theorem t_X12_next_212 {L : Lay} (hL : LY L)    {v1 : Int32}  {M : Mem} {Q : Mem → Prop} (hw : w_X12_next_212 L   v1 M Q)  : X (FM (QV L Q)) RX12 cX12_next none 2 "next" 2 0 0 (L, M) 212 [.ref 92, .int v1] [] := by
  unfold w_X12_next_212 at hw
  refine X_iload_n 213 dX12_next_212 rfl rfl ?_
  refine X_bipush 215 (v := 48) dX12_next_213 rfl rfl ?_
  refine X_icmp_lt 322 218 dX12_next_215 rfl rfl (fun c15 => ?_) (fun c15 => ?_)
  · have hw := hw.1 c15
    exact t_X12_next_322 hL   hw 
  · have hw := hw.2 c15
    refine X_iload_n 219 dX12_next_218 rfl rfl ?_
    refine X_bipush 221 (v := 57) dX12_next_219 rfl rfl ?_
    refine X_icmp_gt 322 224 dX12_next_221 rfl rfl (fun c16 => ?_) (fun c16 => ?_)
    · have hw := hw.1 c16
      exact t_X12_next_322 hL   hw 
    · have hw := hw.2 c16
      refine X_weak (ls' := [.ref 92, junk]) (WK.s (WK.j WK.n)) (Nat.le_of_ble_eq_true rfl) ?_
      exact LP1_s hw (G := fun  M => X (FM (QV L Q)) RX12 cX12_next none 2 "next" 2 0 0 (L, M) 224 [.ref 92, junk] []) (fun K224  M hb hK => t_X12_next_224 hL  hb  hK)
def w_X12_next_52 (L : Lay)    (M : Mem) (Q : Mem → Prop) : Prop := ∀ M5 : Mem, M5 = si M 92 46 (mi M 92 45) → (∀ M6 : Mem, M6 = sl M5 92 48 (0 : Int64) → (∀ M7 : Mem, M7 = si M6 92 49 (0 : Int32) → ((((mi M7 92 45) = (mi M7 92 44) → (∀ M13 : Mem, M13 = si M7 92 47 (0 : Int32) → (Q M13))) ∧ (¬ (mi M7 92 45) = (mi M7 92 44) → (vp_in (mi M7 92 45) 1000 ∧ (∀ x10 : Int32, x10 = (mi M7 129 (tn (mi M7 92 45))) → (((x10 < (97 : Int32) → (w_X12_next_212 L   x10 M7 Q)) ∧ (¬ x10 < (97 : Int32) → ((((122 : Int32) < x10 → (w_X12_next_212 L   x10 M7 Q)) ∧ (¬ (122 : Int32) < x10 → (LP1 (fun K109  M => w_X12_next_109 L   K109  M Q)  M7))))))))))))))
set_option maxRecDepth 20000 in
theorem t_X12_next_52 {L : Lay} (hL : LY L)      {M : Mem} {Q : Mem → Prop} (hw : w_X12_next_52 L    M Q)  : X (FM (QV L Q)) RX12 cX12_next none 2 "next" 2 0 0 (L, M) 52 [.ref 92, junk] [] := by
  unfold w_X12_next_52 at hw
  refine X_aload_n 53 dX12_next_52 rfl rfl ?_
  refine X_aload_n 54 dX12_next_53 rfl rfl ?_
  refine X_getI 57 f_X12_245 (hL.ob (c := 12) (by decide) rfl) rfl dX12_next_54 rfl ?_
  refine X_putI 60 f_X12_248 (Or.inl rfl) (hL.ob (c := 12) (by decide) rfl) rfl dX12_next_57 rfl ?_
  refine X_nmM (fun M5 eM5 => ?_)
  have hw := hw M5 eM5
  refine X_aload_n 61 dX12_next_60 rfl rfl ?_
  refine X_lconst 62 (v := 0) dX12_next_61 rfl rfl ?_
  refine X_putL 65 f_X12_251 (Or.inl rfl) (hL.ob (c := 12) (by decide) rfl) rfl dX12_next_62 rfl ?_
  refine X_nmM (fun M6 eM6 => ?_)
  have hw := hw M6 eM6
  refine X_aload_n 66 dX12_next_65 rfl rfl ?_
  refine X_iconst 67 (v := 0) dX12_next_66 rfl rfl ?_
  refine X_putI 70 f_X12_255 (Or.inl rfl) (hL.ob (c := 12) (by decide) rfl) rfl dX12_next_67 rfl ?_
  refine X_nmM (fun M7 eM7 => ?_)
  have hw := hw M7 eM7
  refine X_aload_n 71 dX12_next_70 rfl rfl ?_
  refine X_getI 74 f_X12_245 (hL.ob (c := 12) (by decide) rfl) rfl dX12_next_71 rfl ?_
  refine X_aload_n 75 dX12_next_74 rfl rfl ?_
  refine X_getI 78 f_X12_242 (hL.ob (c := 12) (by decide) rfl) rfl dX12_next_75 rfl ?_
  refine X_icmp_ne 87 81 dX12_next_78 rfl rfl (fun c8 => ?_) (fun c8 => ?_)
  · have hw := hw.2 c8
    refine X_aload_n 88 dX12_next_87 rfl rfl ?_
    refine X_getR 91 f_X12_119 (hL.ob (c := 12) (by decide) rfl) rfl (hL.rr (by decide) rfl) dX12_next_88 rfl ?_
    refine X_aload_n 92 dX12_next_91 rfl rfl ?_
    refine X_getI 95 f_X12_245 (hL.ob (c := 12) (by decide) rfl) rfl dX12_next_92 rfl ?_
    obtain ⟨c9, hw⟩ := hw
    refine Y_iald 96 (k := (tn (mi M7 92 45))) (hL.ar (t := 0) (n := 1000) (by decide) rfl) c9 rfl dX12_next_95 rfl ?_
    refine X_nmI (fun x10 ex10 => ?_)
    have hw := hw x10 ex10
    refine X_istore_n 97 (ls' := [.ref 92, .int x10]) dX12_next_96 rfl rfl (Nat.le_of_ble_eq_true rfl) rfl (Or.inr (Or.inr ⟨_, rfl, rfl⟩)) ?_
    refine X_iload_n 98 dX12_next_97 rfl rfl ?_
    refine X_bipush 100 (v := 97) dX12_next_98 rfl rfl ?_
    refine X_icmp_lt 212 103 dX12_next_100 rfl rfl (fun c11 => ?_) (fun c11 => ?_)
    · have hw := hw.1 c11
      exact t_X12_next_212 hL   hw 
    · have hw := hw.2 c11
      refine X_iload_n 104 dX12_next_103 rfl rfl ?_
      refine X_bipush 106 (v := 122) dX12_next_104 rfl rfl ?_
      refine X_icmp_gt 212 109 dX12_next_106 rfl rfl (fun c12 => ?_) (fun c12 => ?_)
      · have hw := hw.1 c12
        exact t_X12_next_212 hL   hw 
      · have hw := hw.2 c12
        refine X_weak (ls' := [.ref 92, junk]) (WK.s (WK.j WK.n)) (Nat.le_of_ble_eq_true rfl) ?_
        exact LP1_s hw (G := fun  M => X (FM (QV L Q)) RX12 cX12_next none 2 "next" 2 0 0 (L, M) 109 [.ref 92, junk] []) (fun K109  M hb hK => t_X12_next_109 hL  hb  hK)
  · have hw := hw.1 c8
    refine X_aload_n 82 dX12_next_81 rfl rfl ?_
    refine X_iconst 83 (v := 0) dX12_next_82 rfl rfl ?_
    refine X_putI 86 f_X12_258 (Or.inl rfl) (hL.ob (c := 12) (by decide) rfl) rfl dX12_next_83 rfl ?_
    refine X_nmM (fun M13 eM13 => ?_)
    have hw := hw M13 eM13
    exact X_retV rfl dX12_next_86 ⟨_, rfl, rfl, hw⟩
def w_X12_next_0 (L : Lay)  (K0 : Mem → Prop)  (M : Mem) (Q : Mem → Prop) : Prop := (((mi M 92 45) < (mi M 92 44) → (vp_in (mi M 92 45) 1000 ∧ ((((mi M 129 (tn (mi M 92 45))) = (32 : Int32) → (w_X12_next_39 L  K0  M Q)) ∧ (¬ (mi M 129 (tn (mi M 92 45))) = (32 : Int32) → ((((mi M 129 (tn (mi M 92 45))) = (10 : Int32) → (w_X12_next_39 L  K0  M Q)) ∧ (¬ (mi M 129 (tn (mi M 92 45))) = (10 : Int32) → (w_X12_next_52 L    M Q))))))))) ∧ (¬ (mi M 92 45) < (mi M 92 44) → (w_X12_next_52 L    M Q)))
set_option maxRecDepth 20000 in
theorem t_X12_next_0 {L : Lay} (hL : LY L)   {K0 : Mem → Prop}   {M : Mem} {Q : Mem → Prop} (hw : w_X12_next_0 L  K0  M Q) (hK0 : ∀  (M : Mem), K0  M → X (FM (QV L Q)) RX12 cX12_next none 2 "next" 2 0 0 (L, M) 0 [.ref 92, junk] []) : X (FM (QV L Q)) RX12 cX12_next none 2 "next" 2 0 0 (L, M) 0 [.ref 92, junk] [] := by
  unfold w_X12_next_0 at hw
  refine X_aload_n 1 dX12_next_0 rfl rfl ?_
  refine X_getI 4 f_X12_245 (hL.ob (c := 12) (by decide) rfl) rfl dX12_next_1 rfl ?_
  refine X_aload_n 5 dX12_next_4 rfl rfl ?_
  refine X_getI 8 f_X12_242 (hL.ob (c := 12) (by decide) rfl) rfl dX12_next_5 rfl ?_
  refine X_icmp_ge 52 11 dX12_next_8 rfl rfl (fun c1 => ?_) (fun c1 => ?_)
  · have hw := hw.2 c1
    exact t_X12_next_52 hL   hw 
  · have hw := hw.1 c1
    refine X_aload_n 12 dX12_next_11 rfl rfl ?_
    refine X_getR 15 f_X12_119 (hL.ob (c := 12) (by decide) rfl) rfl (hL.rr (by decide) rfl) dX12_next_12 rfl ?_
    refine X_aload_n 16 dX12_next_15 rfl rfl ?_
    refine X_getI 19 f_X12_245 (hL.ob (c := 12) (by decide) rfl) rfl dX12_next_16 rfl ?_
    obtain ⟨c2, hw⟩ := hw
    refine Y_iald 20 (k := (tn (mi M 92 45))) (hL.ar (t := 0) (n := 1000) (by decide) rfl) c2 rfl dX12_next_19 rfl ?_
    refine X_bipush 22 (v := 32) dX12_next_20 rfl rfl ?_
    refine X_icmp_eq 39 25 dX12_next_22 rfl rfl (fun c3 => ?_) (fun c3 => ?_)
    · have hw := hw.1 c3
      exact t_X12_next_39 hL   hw hK0
    · have hw := hw.2 c3
      refine X_aload_n 26 dX12_next_25 rfl rfl ?_
      refine X_getR 29 f_X12_119 (hL.ob (c := 12) (by decide) rfl) rfl (hL.rr (by decide) rfl) dX12_next_26 rfl ?_
      refine X_aload_n 30 dX12_next_29 rfl rfl ?_
      refine X_getI 33 f_X12_245 (hL.ob (c := 12) (by decide) rfl) rfl dX12_next_30 rfl ?_
      refine Y_iald 34 (k := (tn (mi M 92 45))) (hL.ar (t := 0) (n := 1000) (by decide) rfl) c2 rfl dX12_next_33 rfl ?_
      refine X_bipush 36 (v := 10) dX12_next_34 rfl rfl ?_
      refine X_icmp_ne 52 39 dX12_next_36 rfl rfl (fun c4 => ?_) (fun c4 => ?_)
      · have hw := hw.2 c4
        exact t_X12_next_52 hL   hw 
      · have hw := hw.1 c4
        exact t_X12_next_39 hL   hw hK0
def w_X12_next (L : Lay)  (M : Mem) (Q : Mem → Prop) : Prop := LP1 (fun K0  M => w_X12_next_0 L   K0  M Q)  M
set_option maxRecDepth 20000 in
theorem s_X12_next {L : Lay} (hL : LY L)   {M : Mem} {Q : Mem → Prop} (hw : w_X12_next L  M Q) : MX yX12_next cX12_next none 2 2 0 0 [.ref 92] (L, M) (QV L Q) := by
  unfold w_X12_next at hw
  refine MX_of (by decide) [.ref 92, junk] (by rfl) (by exact Nat.le_of_ble_eq_true rfl) ?_
  show X (FM (QV L Q)) RX12 cX12_next none 2 "next" 2 0 0 (L, M) 0 [.ref 92, junk] []
  exact LP1_s hw (G := fun  M => X (FM (QV L Q)) RX12 cX12_next none 2 "next" 2 0 0 (L, M) 0 [.ref 92, junk] []) (fun K0  M hb hK => t_X12_next_0 hL  hb  hK)
def w_X12_isWord (L : Lay) (p0 : Int64) (M : Mem) (Q : Int32 → Mem → Prop) : Prop := (((mi M 92 47) = (1 : Int32) → (∀ x2 : Int32, x2 = (if (lg_cmp (ml M 92 48) p0) = 0 then (1 : Int32) else (0 : Int32)) → (Q x2 M))) ∧ (¬ (mi M 92 47) = (1 : Int32) → (Q (0 : Int32) M)))
set_option maxRecDepth 20000 in
theorem s_X12_isWord {L : Lay} (hL : LY L) {p0 : Int64}  {M : Mem} {Q : Int32 → Mem → Prop} (hw : w_X12_isWord L p0 M Q) : MX yX12_isWord cX12_isWord (some .boolean) 3 1 0 0 [.ref 92, .long p0] (L, M) (QZ L Q) := by
  unfold w_X12_isWord at hw
  refine MX_of (by decide) [.ref 92, .long p0, junk] (by rfl) (by exact Nat.le_of_ble_eq_true rfl) ?_
  show X (FM (QZ L Q)) RX12 cX12_isWord (some .boolean) 3 "isWord" 1 0 0 (L, M) 0 [.ref 92, .long p0, junk] []
  refine X_aload_n 1 dX12_isWord_0 rfl rfl ?_
  refine X_getI 4 f_X12_258 (hL.ob (c := 12) (by decide) rfl) rfl dX12_isWord_1 rfl ?_
  refine X_iconst 5 (v := 1) dX12_isWord_4 rfl rfl ?_
  refine X_icmp_ne 21 8 dX12_isWord_5 rfl rfl (fun c1 => ?_) (fun c1 => ?_)
  · have hw := hw.2 c1
    refine X_iconst 22 (v := 0) dX12_isWord_21 rfl rfl ?_
    exact X_ret rfl (nar_bool (Or.inl rfl)) dX12_isWord_22 ⟨_, _, rfl, Or.inl rfl, rfl, hw⟩
  · have hw := hw.1 c1
    refine X_aload_n 9 dX12_isWord_8 rfl rfl ?_
    refine X_getL 12 f_X12_251 (hL.ob (c := 12) (by decide) rfl) rfl dX12_isWord_9 rfl ?_
    refine X_lload_n 13 dX12_isWord_12 rfl rfl ?_
    refine X_lcmp 14 dX12_isWord_13 rfl ?_
    obtain ⟨x2, ex2⟩ : ∃ x2 : Int32, x2 = (if (lg_cmp (ml M 92 48) p0) = 0 then (1 : Int32) else (0 : Int32)) := ⟨_, rfl⟩
    have hw := hw x2 ex2
    have bx2 : BZ x2 := by rw [ex2]; (repeat' split) <;> first | exact Or.inl rfl | exact Or.inr rfl
    have hJ : X (FM (QZ L Q)) RX12 cX12_isWord (some .boolean) 3 "isWord" 1 0 0 (L, M) 22 [.ref 92, .long p0, junk] [.int x2] := by
      exact X_ret rfl (nar_bool (bx2)) dX12_isWord_22 ⟨_, _, rfl, bx2, rfl, hw⟩
    refine X_if_ne 21 17 (y := 0) dX12_isWord_14 rfl rfl (fun c3 => ?_) (fun c3 => ?_)
    · refine X_iconst 22 (v := 0) dX12_isWord_21 rfl rfl ?_
      rw [if_neg c3] at ex2
      rw [ex2] at hJ
      exact hJ
    · refine X_iconst 18 (v := 1) dX12_isWord_17 rfl rfl ?_
      refine X_goto 22 dX12_isWord_18 rfl ?_
      rw [if_pos c3] at ex2
      rw [ex2] at hJ
      exact hJ
def w_X12_isSign (L : Lay) (p0 : Int32) (M : Mem) (Q : Int32 → Mem → Prop) : Prop := (((mi M 92 47) = (3 : Int32) → (vp_in (mi M 92 46) 1000 ∧ (∀ x3 : Int32, x3 = (if (mi M 129 (tn (mi M 92 46))) = p0 then (1 : Int32) else (0 : Int32)) → (Q x3 M)))) ∧ (¬ (mi M 92 47) = (3 : Int32) → (Q (0 : Int32) M)))
set_option maxRecDepth 20000 in
theorem s_X12_isSign {L : Lay} (hL : LY L) {p0 : Int32}  {M : Mem} {Q : Int32 → Mem → Prop} (hw : w_X12_isSign L p0 M Q) : MX yX12_isSign cX12_isSign (some .boolean) 2 1 0 0 [.ref 92, .int p0] (L, M) (QZ L Q) := by
  unfold w_X12_isSign at hw
  refine MX_of (by decide) [.ref 92, .int p0] (by rfl) (by exact Nat.le_of_ble_eq_true rfl) ?_
  show X (FM (QZ L Q)) RX12 cX12_isSign (some .boolean) 2 "isSign" 1 0 0 (L, M) 0 [.ref 92, .int p0] []
  refine X_aload_n 1 dX12_isSign_0 rfl rfl ?_
  refine X_getI 4 f_X12_258 (hL.ob (c := 12) (by decide) rfl) rfl dX12_isSign_1 rfl ?_
  refine X_iconst 5 (v := 3) dX12_isSign_4 rfl rfl ?_
  refine X_icmp_ne 25 8 dX12_isSign_5 rfl rfl (fun c1 => ?_) (fun c1 => ?_)
  · have hw := hw.2 c1
    refine X_iconst 26 (v := 0) dX12_isSign_25 rfl rfl ?_
    exact X_ret rfl (nar_bool (Or.inl rfl)) dX12_isSign_26 ⟨_, _, rfl, Or.inl rfl, rfl, hw⟩
  · have hw := hw.1 c1
    refine X_aload_n 9 dX12_isSign_8 rfl rfl ?_
    refine X_getR 12 f_X12_119 (hL.ob (c := 12) (by decide) rfl) rfl (hL.rr (by decide) rfl) dX12_isSign_9 rfl ?_
    refine X_aload_n 13 dX12_isSign_12 rfl rfl ?_
    refine X_getI 16 f_X12_248 (hL.ob (c := 12) (by decide) rfl) rfl dX12_isSign_13 rfl ?_
    obtain ⟨c2, hw⟩ := hw
    refine Y_iald 17 (k := (tn (mi M 92 46))) (hL.ar (t := 0) (n := 1000) (by decide) rfl) c2 rfl dX12_isSign_16 rfl ?_
    refine X_iload_n 18 dX12_isSign_17 rfl rfl ?_
    obtain ⟨x3, ex3⟩ : ∃ x3 : Int32, x3 = (if (mi M 129 (tn (mi M 92 46))) = p0 then (1 : Int32) else (0 : Int32)) := ⟨_, rfl⟩
    have hw := hw x3 ex3
    have bx3 : BZ x3 := by rw [ex3]; (repeat' split) <;> first | exact Or.inl rfl | exact Or.inr rfl
    have hJ : X (FM (QZ L Q)) RX12 cX12_isSign (some .boolean) 2 "isSign" 1 0 0 (L, M) 26 [.ref 92, .int p0] [.int x3] := by
      exact X_ret rfl (nar_bool (bx3)) dX12_isSign_26 ⟨_, _, rfl, bx3, rfl, hw⟩
    refine X_icmp_ne 25 21 dX12_isSign_18 rfl rfl (fun c4 => ?_) (fun c4 => ?_)
    · refine X_iconst 26 (v := 0) dX12_isSign_25 rfl rfl ?_
      rw [if_neg c4] at ex3
      rw [ex3] at hJ
      exact hJ
    · refine X_iconst 22 (v := 1) dX12_isSign_21 rfl rfl ?_
      refine X_goto 26 dX12_isSign_22 rfl ?_
      rw [if_pos c4] at ex3
      rw [ex3] at hJ
      exact hJ
def w_X12_fails (L : Lay) (p0 : Int32) (M : Mem) (Q : Int32 → Mem → Prop) : Prop := ∀ M1 : Mem, M1 = si M 92 50 (p0 + ((16 : Int32) * (mi M 92 46))) → (Q (0 : Int32) M1)
set_option maxRecDepth 20000 in
theorem s_X12_fails {L : Lay} (hL : LY L) {p0 : Int32}  {M : Mem} {Q : Int32 → Mem → Prop} (hw : w_X12_fails L p0 M Q) : MX yX12_fails cX12_fails (some .boolean) 2 1 0 0 [.ref 92, .int p0] (L, M) (QZ L Q) := by
  unfold w_X12_fails at hw
  refine MX_of (by decide) [.ref 92, .int p0] (by rfl) (by exact Nat.le_of_ble_eq_true rfl) ?_
  show X (FM (QZ L Q)) RX12 cX12_fails (some .boolean) 2 "fails" 1 0 0 (L, M) 0 [.ref 92, .int p0] []
  refine X_aload_n 1 dX12_fails_0 rfl rfl ?_
  refine X_iload_n 2 dX12_fails_1 rfl rfl ?_
  refine X_bipush 4 (v := 16) dX12_fails_2 rfl rfl ?_
  refine X_aload_n 5 dX12_fails_4 rfl rfl ?_
  refine X_getI 8 f_X12_248 (hL.ob (c := 12) (by decide) rfl) rfl dX12_fails_5 rfl ?_
  refine X_imul 9 dX12_fails_8 rfl ?_
  refine X_iadd 10 dX12_fails_9 rfl ?_
  refine X_putI 13 f_X12_269 (Or.inl rfl) (hL.ob (c := 12) (by decide) rfl) rfl dX12_fails_10 rfl ?_
  refine X_nmM (fun M1 eM1 => ?_)
  have hw := hw M1 eM1
  refine X_iconst 14 (v := 0) dX12_fails_13 rfl rfl ?_
  exact X_ret rfl (nar_bool (Or.inl rfl)) dX12_fails_14 ⟨_, _, rfl, Or.inl rfl, rfl, hw⟩
def w_X12_ends (L : Lay)  (M : Mem) (Q : Int32 → Mem → Prop) : Prop := w_X12_isSign L (59 : Int32) M (fun x2 M1 => (((x2 = 0 → (w_X12_fails L (1 : Int32) M1 (fun x6 M5 => (Q x6 M5)))) ∧ (¬ x2 = 0 → (w_X12_next L  M1 (fun M4 => (Q (1 : Int32) M4)))))))
set_option maxRecDepth 20000 in
theorem s_X12_ends {L : Lay} (hL : LY L)   {M : Mem} {Q : Int32 → Mem → Prop} (hw : w_X12_ends L  M Q) : MX yX12_ends cX12_ends (some .boolean) 1 3 0 0 [.ref 92] (L, M) (QZ L Q) := by
  unfold w_X12_ends at hw
  refine MX_of (by decide) [.ref 92] (by rfl) (by exact Nat.le_of_ble_eq_true rfl) ?_
  show X (FM (QZ L Q)) RX12 cX12_ends (some .boolean) 1 "ends" 3 0 0 (L, M) 0 [.ref 92] []
  refine X_aload_n 1 dX12_ends_0 rfl rfl ?_
  refine X_bipush 3 (v := 59) dX12_ends_1 rfl rfl ?_
  refine Y_cVZ 6 (as := [.int (59 : Int32)]) m_X12_272 (s_X12_isSign hL  hw) (hL.ob (c := 12) (by decide) rfl) rfl (by decide) (Nat.le_of_ble_eq_true rfl) dX12_ends_3 rfl rfl (fun x2 M1 bx2 hw => ?_)
  refine X_if_ne 15 9 (y := 0) dX12_ends_6 rfl rfl (fun c3 => ?_) (fun c3 => ?_)
  · have hw := hw.2 c3
    refine X_aload_n 16 dX12_ends_15 rfl rfl ?_
    refine Y_cVV 19 (as := []) m_X12_278 (s_X12_next hL  hw) (hL.ob (c := 12) (by decide) rfl) rfl (by decide) (Nat.le_of_ble_eq_true rfl) dX12_ends_16 rfl rfl (fun M4 hw => ?_)
    refine X_iconst 20 (v := 1) dX12_ends_19 rfl rfl ?_
    exact X_ret rfl (nar_bool (Or.inr rfl)) dX12_ends_20 ⟨_, _, rfl, Or.inr rfl, rfl, hw⟩
  · have hw := hw.1 c3
    refine X_aload_n 10 dX12_ends_9 rfl rfl ?_
    refine X_iconst 11 (v := 1) dX12_ends_10 rfl rfl ?_
    refine Y_cVZ 14 (as := [.int (1 : Int32)]) m_X12_275 (s_X12_fails hL  hw) (hL.ob (c := 12) (by decide) rfl) rfl (by decide) (Nat.le_of_ble_eq_true rfl) dX12_ends_11 rfl rfl (fun x6 M5 bx6 hw => ?_)
    exact X_ret rfl (nar_bool (bx6)) dX12_ends_14 ⟨_, _, rfl, bx6, rfl, hw⟩
def w_X12_puts (L : Lay) (p0 : Int32) (M : Mem) (Q : Mem → Prop) : Prop := vp_in (mi M 92 57) 26000 ∧ (∀ M2 : Mem, M2 = si M 135 (tn (mi M 92 57)) p0 → (∀ M3 : Mem, M3 = si M2 92 57 ((mi M2 92 57) + (1 : Int32)) → (Q M3)))
set_option maxRecDepth 20000 in
theorem s_X12_puts {L : Lay} (hL : LY L) {p0 : Int32}  {M : Mem} {Q : Mem → Prop} (hw : w_X12_puts L p0 M Q) : MX yX12_puts cX12_puts none 2 1 0 0 [.ref 92, .int p0] (L, M) (QV L Q) := by
  unfold w_X12_puts at hw
  refine MX_of (by decide) [.ref 92, .int p0] (by rfl) (by exact Nat.le_of_ble_eq_true rfl) ?_
  show X (FM (QV L Q)) RX12 cX12_puts none 2 "puts" 1 0 0 (L, M) 0 [.ref 92, .int p0] []
  refine X_aload_n 1 dX12_puts_0 rfl rfl ?_
  refine X_getR 4 f_X12_137 (hL.ob (c := 12) (by decide) rfl) rfl (hL.rr (by decide) rfl) dX12_puts_1 rfl ?_
  refine X_aload_n 5 dX12_puts_4 rfl rfl ?_
  refine X_getI 8 f_X12_281 (hL.ob (c := 12) (by decide) rfl) rfl dX12_puts_5 rfl ?_
  refine X_iload_n 9 dX12_puts_8 rfl rfl ?_
  obtain ⟨c1, hw⟩ := hw
  refine Y_iast 10 (k := (tn (mi M 92 57))) (hL.ar (t := 0) (n := 26000) (by decide) rfl) c1 rfl dX12_puts_9 rfl ?_
  refine X_nmM (fun M2 eM2 => ?_)
  have hw := hw M2 eM2
  refine X_aload_n 11 dX12_puts_10 rfl rfl ?_
  refine X_dup 12 dX12_puts_11 rfl rfl ?_
  refine X_getI 15 f_X12_281 (hL.ob (c := 12) (by decide) rfl) rfl dX12_puts_12 rfl ?_
  refine X_iconst 16 (v := 1) dX12_puts_15 rfl rfl ?_
  refine X_iadd 17 dX12_puts_16 rfl ?_
  refine X_putI 20 f_X12_281 (Or.inl rfl) (hL.ob (c := 12) (by decide) rfl) rfl dX12_puts_17 rfl ?_
  refine X_nmM (fun M3 eM3 => ?_)
  have hw := hw M3 eM3
  exact X_retV rfl dX12_puts_20 ⟨_, rfl, rfl, hw⟩
def w_X12_factAtHand (L : Lay)  (M : Mem) (Q : Int32 → Mem → Prop) : Prop := (((mi M 92 47) = (1 : Int32) → ((((lg_cmp (ml M 92 48) (7091219 : Int64)) = 0 → (Q (1 : Int32) M)) ∧ (¬ (lg_cmp (ml M 92 48) (7091219 : Int64)) = 0 → ((((lg_cmp (ml M 92 48) (6888250123 : Int64)) = 0 → (Q (2 : Int32) M)) ∧ (¬ (lg_cmp (ml M 92 48) (6888250123 : Int64)) = 0 → ((((lg_cmp (ml M 92 48) (85501 : Int64)) = 0 → (Q (3 : Int32) M)) ∧ (¬ (lg_cmp (ml M 92 48) (85501 : Int64)) = 0 → ((((lg_cmp (ml M 92 48) (10502066 : Int64)) = 0 → (Q (4 : Int32) M)) ∧ (¬ (lg_cmp (ml M 92 48) (10502066 : Int64)) = 0 → ((((lg_cmp (ml M 92 48) (318611776 : Int64)) = 0 → (Q (5 : Int32) M)) ∧ (¬ (lg_cmp (ml M 92 48) (318611776 : Int64)) = 0 → ((((lg_cmp (ml M 92 48) (15289965949 : Int64)) = 0 → (Q (6 : Int32) M)) ∧ (¬ (lg_cmp (ml M 92 48) (15289965949 : Int64)) = 0 → ((((lg_cmp (ml M 92 48) (311436 : Int64)) = 0 → (Q (7 : Int32) M)) ∧ (¬ (lg_cmp (ml M 92 48) (311436 : Int64)) = 0 → ((((lg_cmp (ml M 92 48) (8863997 : Int64)) = 0 → (Q (8 : Int32) M)) ∧ (¬ (lg_cmp (ml M 92 48) (8863997 : Int64)) = 0 → ((((lg_cmp (ml M 92 48) (66175 : Int64)) = 0 → (Q (9 : Int32) M)) ∧ (¬ (lg_cmp (ml M 92 48) (66175 : Int64)) = 0 → ((((lg_cmp (ml M 92 48) (453836 : Int64)) = 0 → (Q (10 : Int32) M)) ∧ (¬ (lg_cmp (ml M 92 48) (453836 : Int64)) = 0 → ((((lg_cmp (ml M 92 48) (10261855 : Int64)) = 0 → (Q (11 : Int32) M)) ∧ (¬ (lg_cmp (ml M 92 48) (10261855 : Int64)) = 0 → ((((lg_cmp (ml M 92 48) (126232693 : Int64)) = 0 → (Q (12 : Int32) M)) ∧ (¬ (lg_cmp (ml M 92 48) (126232693 : Int64)) = 0 → ((((lg_cmp (ml M 92 48) (7214732 : Int64)) = 0 → (Q (13 : Int32) M)) ∧ (¬ (lg_cmp (ml M 92 48) (7214732 : Int64)) = 0 → (∀ x15 : Int32, x15 = (if (lg_cmp (ml M 92 48) (27966771847 : Int64)) = 0 then (14 : Int32) else (0 : Int32)) → (Q x15 M)))))))))))))))))))))))))))))))))))))))))) ∧ (¬ (mi M 92 47) = (1 : Int32) → (Q (0 : Int32) M)))
set_option maxRecDepth 20000 in
theorem s_X12_factAtHand {L : Lay} (hL : LY L)   {M : Mem} {Q : Int32 → Mem → Prop} (hw : w_X12_factAtHand L  M Q) : MX yX12_factAtHand cX12_factAtHand (some .int) 1 1 0 0 [.ref 92] (L, M) (QI L Q) := by
  unfold w_X12_factAtHand at hw
  refine MX_of (by decide) [.ref 92] (by rfl) (by exact Nat.le_of_ble_eq_true rfl) ?_
  show X (FM (QI L Q)) RX12 cX12_factAtHand (some .int) 1 "factAtHand" 1 0 0 (L, M) 0 [.ref 92] []
  refine X_aload_n 1 dX12_factAtHand_0 rfl rfl ?_
  refine X_getI 4 f_X12_258 (hL.ob (c := 12) (by decide) rfl) rfl dX12_factAtHand_1 rfl ?_
  refine X_iconst 5 (v := 1) dX12_factAtHand_4 rfl rfl ?_
  refine X_icmp_eq 10 8 dX12_factAtHand_5 rfl rfl (fun c1 => ?_) (fun c1 => ?_)
  · have hw := hw.1 c1
    refine X_aload_n 11 dX12_factAtHand_10 rfl rfl ?_
    refine X_getL 14 f_X12_251 (hL.ob (c := 12) (by decide) rfl) rfl dX12_factAtHand_11 rfl ?_
    refine X_ldc2 17 dX12_factAtHand_14 rfl k_X12_284 ?_
    refine X_lcmp 18 dX12_factAtHand_17 rfl ?_
    refine X_if_ne 25 21 (y := 0) dX12_factAtHand_18 rfl rfl (fun c2 => ?_) (fun c2 => ?_)
    · have hw := hw.2 c2
      refine X_aload_n 26 dX12_factAtHand_25 rfl rfl ?_
      refine X_getL 29 f_X12_251 (hL.ob (c := 12) (by decide) rfl) rfl dX12_factAtHand_26 rfl ?_
      refine X_ldc2 32 dX12_factAtHand_29 rfl k_X12_286 ?_
      refine X_lcmp 33 dX12_factAtHand_32 rfl ?_
      refine X_if_ne 40 36 (y := 0) dX12_factAtHand_33 rfl rfl (fun c3 => ?_) (fun c3 => ?_)
      · have hw := hw.2 c3
        refine X_aload_n 41 dX12_factAtHand_40 rfl rfl ?_
        refine X_getL 44 f_X12_251 (hL.ob (c := 12) (by decide) rfl) rfl dX12_factAtHand_41 rfl ?_
        refine X_ldc2 47 dX12_factAtHand_44 rfl k_X12_288 ?_
        refine X_lcmp 48 dX12_factAtHand_47 rfl ?_
        refine X_if_ne 55 51 (y := 0) dX12_factAtHand_48 rfl rfl (fun c4 => ?_) (fun c4 => ?_)
        · have hw := hw.2 c4
          refine X_aload_n 56 dX12_factAtHand_55 rfl rfl ?_
          refine X_getL 59 f_X12_251 (hL.ob (c := 12) (by decide) rfl) rfl dX12_factAtHand_56 rfl ?_
          refine X_ldc2 62 dX12_factAtHand_59 rfl k_X12_290 ?_
          refine X_lcmp 63 dX12_factAtHand_62 rfl ?_
          refine X_if_ne 70 66 (y := 0) dX12_factAtHand_63 rfl rfl (fun c5 => ?_) (fun c5 => ?_)
          · have hw := hw.2 c5
            refine X_aload_n 71 dX12_factAtHand_70 rfl rfl ?_
            refine X_getL 74 f_X12_251 (hL.ob (c := 12) (by decide) rfl) rfl dX12_factAtHand_71 rfl ?_
            refine X_ldc2 77 dX12_factAtHand_74 rfl k_X12_292 ?_
            refine X_lcmp 78 dX12_factAtHand_77 rfl ?_
            refine X_if_ne 85 81 (y := 0) dX12_factAtHand_78 rfl rfl (fun c6 => ?_) (fun c6 => ?_)
            · have hw := hw.2 c6
              refine X_aload_n 86 dX12_factAtHand_85 rfl rfl ?_
              refine X_getL 89 f_X12_251 (hL.ob (c := 12) (by decide) rfl) rfl dX12_factAtHand_86 rfl ?_
              refine X_ldc2 92 dX12_factAtHand_89 rfl k_X12_294 ?_
              refine X_lcmp 93 dX12_factAtHand_92 rfl ?_
              refine X_if_ne 101 96 (y := 0) dX12_factAtHand_93 rfl rfl (fun c7 => ?_) (fun c7 => ?_)
              · have hw := hw.2 c7
                refine X_aload_n 102 dX12_factAtHand_101 rfl rfl ?_
                refine X_getL 105 f_X12_251 (hL.ob (c := 12) (by decide) rfl) rfl dX12_factAtHand_102 rfl ?_
                refine X_ldc2 108 dX12_factAtHand_105 rfl k_X12_296 ?_
                refine X_lcmp 109 dX12_factAtHand_108 rfl ?_
                refine X_if_ne 117 112 (y := 0) dX12_factAtHand_109 rfl rfl (fun c8 => ?_) (fun c8 => ?_)
                · have hw := hw.2 c8
                  refine X_aload_n 118 dX12_factAtHand_117 rfl rfl ?_
                  refine X_getL 121 f_X12_251 (hL.ob (c := 12) (by decide) rfl) rfl dX12_factAtHand_118 rfl ?_
                  refine X_ldc2 124 dX12_factAtHand_121 rfl k_X12_298 ?_
                  refine X_lcmp 125 dX12_factAtHand_124 rfl ?_
                  refine X_if_ne 133 128 (y := 0) dX12_factAtHand_125 rfl rfl (fun c9 => ?_) (fun c9 => ?_)
                  · have hw := hw.2 c9
                    refine X_aload_n 134 dX12_factAtHand_133 rfl rfl ?_
                    refine X_getL 137 f_X12_251 (hL.ob (c := 12) (by decide) rfl) rfl dX12_factAtHand_134 rfl ?_
                    refine X_ldc2 140 dX12_factAtHand_137 rfl k_X12_300 ?_
                    refine X_lcmp 141 dX12_factAtHand_140 rfl ?_
                    refine X_if_ne 149 144 (y := 0) dX12_factAtHand_141 rfl rfl (fun c10 => ?_) (fun c10 => ?_)
                    · have hw := hw.2 c10
                      refine X_aload_n 150 dX12_factAtHand_149 rfl rfl ?_
                      refine X_getL 153 f_X12_251 (hL.ob (c := 12) (by decide) rfl) rfl dX12_factAtHand_150 rfl ?_
                      refine X_ldc2 156 dX12_factAtHand_153 rfl k_X12_302 ?_
                      refine X_lcmp 157 dX12_factAtHand_156 rfl ?_
                      refine X_if_ne 165 160 (y := 0) dX12_factAtHand_157 rfl rfl (fun c11 => ?_) (fun c11 => ?_)
                      · have hw := hw.2 c11
                        refine X_aload_n 166 dX12_factAtHand_165 rfl rfl ?_
                        refine X_getL 169 f_X12_251 (hL.ob (c := 12) (by decide) rfl) rfl dX12_factAtHand_166 rfl ?_
                        refine X_ldc2 172 dX12_factAtHand_169 rfl k_X12_304 ?_
                        refine X_lcmp 173 dX12_factAtHand_172 rfl ?_
                        refine X_if_ne 181 176 (y := 0) dX12_factAtHand_173 rfl rfl (fun c12 => ?_) (fun c12 => ?_)
                        · have hw := hw.2 c12
                          refine X_aload_n 182 dX12_factAtHand_181 rfl rfl ?_
                          refine X_getL 185 f_X12_251 (hL.ob (c := 12) (by decide) rfl) rfl dX12_factAtHand_182 rfl ?_
                          refine X_ldc2 188 dX12_factAtHand_185 rfl k_X12_306 ?_
                          refine X_lcmp 189 dX12_factAtHand_188 rfl ?_
                          refine X_if_ne 197 192 (y := 0) dX12_factAtHand_189 rfl rfl (fun c13 => ?_) (fun c13 => ?_)
                          · have hw := hw.2 c13
                            refine X_aload_n 198 dX12_factAtHand_197 rfl rfl ?_
                            refine X_getL 201 f_X12_251 (hL.ob (c := 12) (by decide) rfl) rfl dX12_factAtHand_198 rfl ?_
                            refine X_ldc2 204 dX12_factAtHand_201 rfl k_X12_308 ?_
                            refine X_lcmp 205 dX12_factAtHand_204 rfl ?_
                            refine X_if_ne 213 208 (y := 0) dX12_factAtHand_205 rfl rfl (fun c14 => ?_) (fun c14 => ?_)
                            · have hw := hw.2 c14
                              refine X_aload_n 214 dX12_factAtHand_213 rfl rfl ?_
                              refine X_getL 217 f_X12_251 (hL.ob (c := 12) (by decide) rfl) rfl dX12_factAtHand_214 rfl ?_
                              refine X_ldc2 220 dX12_factAtHand_217 rfl k_X12_310 ?_
                              refine X_lcmp 221 dX12_factAtHand_220 rfl ?_
                              obtain ⟨x15, ex15⟩ : ∃ x15 : Int32, x15 = (if (lg_cmp (ml M 92 48) (27966771847 : Int64)) = 0 then (14 : Int32) else (0 : Int32)) := ⟨_, rfl⟩
                              have hw := hw x15 ex15
                              have hJ : X (FM (QI L Q)) RX12 cX12_factAtHand (some .int) 1 "factAtHand" 1 0 0 (L, M) 230 [.ref 92] [.int x15] := by
                                exact X_ret rfl rfl dX12_factAtHand_230 ⟨_, _, rfl, rfl, hw⟩
                              refine X_if_ne 229 224 (y := 0) dX12_factAtHand_221 rfl rfl (fun c16 => ?_) (fun c16 => ?_)
                              · refine X_iconst 230 (v := 0) dX12_factAtHand_229 rfl rfl ?_
                                rw [if_neg c16] at ex15
                                rw [ex15] at hJ
                                exact hJ
                              · refine X_bipush 226 (v := 14) dX12_factAtHand_224 rfl rfl ?_
                                refine X_goto 230 dX12_factAtHand_226 rfl ?_
                                rw [if_pos c16] at ex15
                                rw [ex15] at hJ
                                exact hJ
                            · have hw := hw.1 c14
                              refine X_bipush 210 (v := 13) dX12_factAtHand_208 rfl rfl ?_
                              refine X_goto 230 dX12_factAtHand_210 rfl ?_
                              exact X_ret rfl rfl dX12_factAtHand_230 ⟨_, _, rfl, rfl, hw⟩
                          · have hw := hw.1 c13
                            refine X_bipush 194 (v := 12) dX12_factAtHand_192 rfl rfl ?_
                            refine X_goto 230 dX12_factAtHand_194 rfl ?_
                            exact X_ret rfl rfl dX12_factAtHand_230 ⟨_, _, rfl, rfl, hw⟩
                        · have hw := hw.1 c12
                          refine X_bipush 178 (v := 11) dX12_factAtHand_176 rfl rfl ?_
                          refine X_goto 230 dX12_factAtHand_178 rfl ?_
                          exact X_ret rfl rfl dX12_factAtHand_230 ⟨_, _, rfl, rfl, hw⟩
                      · have hw := hw.1 c11
                        refine X_bipush 162 (v := 10) dX12_factAtHand_160 rfl rfl ?_
                        refine X_goto 230 dX12_factAtHand_162 rfl ?_
                        exact X_ret rfl rfl dX12_factAtHand_230 ⟨_, _, rfl, rfl, hw⟩
                    · have hw := hw.1 c10
                      refine X_bipush 146 (v := 9) dX12_factAtHand_144 rfl rfl ?_
                      refine X_goto 230 dX12_factAtHand_146 rfl ?_
                      exact X_ret rfl rfl dX12_factAtHand_230 ⟨_, _, rfl, rfl, hw⟩
                  · have hw := hw.1 c9
                    refine X_bipush 130 (v := 8) dX12_factAtHand_128 rfl rfl ?_
                    refine X_goto 230 dX12_factAtHand_130 rfl ?_
                    exact X_ret rfl rfl dX12_factAtHand_230 ⟨_, _, rfl, rfl, hw⟩
                · have hw := hw.1 c8
                  refine X_bipush 114 (v := 7) dX12_factAtHand_112 rfl rfl ?_
                  refine X_goto 230 dX12_factAtHand_114 rfl ?_
                  exact X_ret rfl rfl dX12_factAtHand_230 ⟨_, _, rfl, rfl, hw⟩
              · have hw := hw.1 c7
                refine X_bipush 98 (v := 6) dX12_factAtHand_96 rfl rfl ?_
                refine X_goto 230 dX12_factAtHand_98 rfl ?_
                exact X_ret rfl rfl dX12_factAtHand_230 ⟨_, _, rfl, rfl, hw⟩
            · have hw := hw.1 c6
              refine X_iconst 82 (v := 5) dX12_factAtHand_81 rfl rfl ?_
              refine X_goto 230 dX12_factAtHand_82 rfl ?_
              exact X_ret rfl rfl dX12_factAtHand_230 ⟨_, _, rfl, rfl, hw⟩
          · have hw := hw.1 c5
            refine X_iconst 67 (v := 4) dX12_factAtHand_66 rfl rfl ?_
            refine X_goto 230 dX12_factAtHand_67 rfl ?_
            exact X_ret rfl rfl dX12_factAtHand_230 ⟨_, _, rfl, rfl, hw⟩
        · have hw := hw.1 c4
          refine X_iconst 52 (v := 3) dX12_factAtHand_51 rfl rfl ?_
          refine X_goto 230 dX12_factAtHand_52 rfl ?_
          exact X_ret rfl rfl dX12_factAtHand_230 ⟨_, _, rfl, rfl, hw⟩
      · have hw := hw.1 c3
        refine X_iconst 37 (v := 2) dX12_factAtHand_36 rfl rfl ?_
        refine X_goto 230 dX12_factAtHand_37 rfl ?_
        exact X_ret rfl rfl dX12_factAtHand_230 ⟨_, _, rfl, rfl, hw⟩
    · have hw := hw.1 c2
      refine X_iconst 22 (v := 1) dX12_factAtHand_21 rfl rfl ?_
      refine X_goto 230 dX12_factAtHand_22 rfl ?_
      exact X_ret rfl rfl dX12_factAtHand_230 ⟨_, _, rfl, rfl, hw⟩
  · have hw := hw.2 c1
    refine X_iconst 9 (v := 0) dX12_factAtHand_8 rfl rfl ?_
    exact X_ret rfl rfl dX12_factAtHand_9 ⟨_, _, rfl, rfl, hw⟩
def w_X12_reads_190 (L : Lay) (p0 : Int32) (K25 : Int32 → Int32 → Mem → Prop) (v2 : Int32) (v3 : Int32) (M : Mem) (Q : Int32 → Mem → Prop) : Prop := w_X12_next L  M (fun M109 => (K25 v2 v3 M109))
set_option maxRecDepth 20000 in
theorem t_X12_reads_190 {L : Lay} (hL : LY L) {p0 : Int32}  {K25 : Int32 → Int32 → Mem → Prop} {v2 : Int32} {v3 : Int32}  {M : Mem} {Q : Int32 → Mem → Prop} (hw : w_X12_reads_190 L p0 K25 v2 v3 M Q) (hK25 : ∀ (v2 : Int32) (v3 : Int32) (M : Mem), K25 v2 v3 M → X (FM (QZ L Q)) RX12 cX12_reads (some .boolean) 7 "reads" 3 0 0 (L, M) 25 [.ref 92, .int p0, .int v2, .int v3, junk, junk, junk] []) : X (FM (QZ L Q)) RX12 cX12_reads (some .boolean) 7 "reads" 3 0 0 (L, M) 190 [.ref 92, .int p0, .int v2, .int v3, junk, junk, junk] [] := by
  unfold w_X12_reads_190 at hw
  refine X_aload_n 191 dX12_reads_190 rfl rfl ?_
  refine Y_cVV 194 (as := []) m_X12_278 (s_X12_next hL  hw) (hL.ob (c := 12) (by decide) rfl) rfl (by decide) (Nat.le_of_ble_eq_true rfl) dX12_reads_191 rfl rfl (fun M109 hw => ?_)
  refine X_goto 25 dX12_reads_194 rfl ?_
  exact hK25 v2 v3 M109 hw
def w_X12_reads_102 (L : Lay) (p0 : Int32) (K25 : Int32 → Int32 → Mem → Prop) (v2 : Int32) (v3 : Int32) (v5 : Int32) (M : Mem) (Q : Int32 → Mem → Prop) : Prop := ∀ x94 : Int32, x94 = (if v5 = 0 then (28 : Int32) else (30 : Int32)) → (w_X12_puts L x94 M (fun M95 => (∀ x96 : Int32, x96 = v2 + (1 : Int32) → (∀ x97 : Int32, x97 = (if v5 = 0 then (2 : Int32) else (1 : Int32)) → (vp_in x96 6 ∧ (∀ M99 : Mem, M99 = si M95 136 (tn x96) x97 → (∀ M100 : Mem, M100 = si M99 137 (tn x96) (narZ (0 : Int32)) → (w_X12_reads_190 L p0 K25 x96 v3 M100 Q))))))))
set_option maxRecDepth 20000 in
theorem t_X12_reads_102 {L : Lay} (hL : LY L) {p0 : Int32}  {K25 : Int32 → Int32 → Mem → Prop} {v2 : Int32} {v3 : Int32} {v5 : Int32}  {M : Mem} {Q : Int32 → Mem → Prop} (hw : w_X12_reads_102 L p0 K25 v2 v3 v5 M Q) (hK25 : ∀ (v2 : Int32) (v3 : Int32) (M : Mem), K25 v2 v3 M → X (FM (QZ L Q)) RX12 cX12_reads (some .boolean) 7 "reads" 3 0 0 (L, M) 25 [.ref 92, .int p0, .int v2, .int v3, junk, junk, junk] []) : X (FM (QZ L Q)) RX12 cX12_reads (some .boolean) 7 "reads" 3 0 0 (L, M) 102 [.ref 92, .int p0, .int v2, .int v3, junk, .int v5, junk] [] := by
  unfold w_X12_reads_102 at hw
  refine X_aload_n 103 dX12_reads_102 rfl rfl ?_
  refine X_iload 105 dX12_reads_103 rfl rfl ?_
  obtain ⟨x94, ex94⟩ : ∃ x94 : Int32, x94 = (if v5 = 0 then (28 : Int32) else (30 : Int32)) := ⟨_, rfl⟩
  have hw := hw x94 ex94
  have hJ : X (FM (QZ L Q)) RX12 cX12_reads (some .boolean) 7 "reads" 3 0 0 (L, M) 115 [.ref 92, .int p0, .int v2, .int v3, junk, .int v5, junk] [.int x94, .ref 92] := by
    refine Y_cVV 118 (as := [.int x94]) m_X12_322 (s_X12_puts hL  hw) (hL.ob (c := 12) (by decide) rfl) rfl (by decide) (Nat.le_of_ble_eq_true rfl) dX12_reads_115 rfl rfl (fun M95 hw => ?_)
    obtain ⟨x96, ex96⟩ : ∃ x96 : Int32, x96 = v2 + (1 : Int32) := ⟨_, rfl⟩
    have hw := hw x96 ex96
    refine X_iinc 121 (v := x96) (ls' := [.ref 92, .int p0, .int x96, .int v3, junk, .int v5, junk]) dX12_reads_118 rfl rfl (by rw [ex96]; rfl) rfl (Or.inr (Or.inr ⟨_, rfl, rfl⟩)) ?_
    refine X_aload_n 122 dX12_reads_121 rfl rfl ?_
    refine X_getR 125 f_X12_140 (hL.ob (c := 12) (by decide) rfl) rfl (hL.rr (by decide) rfl) dX12_reads_122 rfl ?_
    refine X_iload_n 126 dX12_reads_125 rfl rfl ?_
    refine X_iload 128 dX12_reads_126 rfl rfl ?_
    obtain ⟨x97, ex97⟩ : ∃ x97 : Int32, x97 = (if v5 = 0 then (2 : Int32) else (1 : Int32)) := ⟨_, rfl⟩
    have hw := hw x97 ex97
    have hJ : X (FM (QZ L Q)) RX12 cX12_reads (some .boolean) 7 "reads" 3 0 0 (L, M95) 136 [.ref 92, .int p0, .int x96, .int v3, junk, .int v5, junk] [.int x97, .int x96, .ref 136] := by
      obtain ⟨c98, hw⟩ := hw
      refine Y_iast 137 (k := (tn x96)) (hL.ar (t := 0) (n := 6) (by decide) rfl) c98 rfl dX12_reads_136 rfl ?_
      refine X_nmM (fun M99 eM99 => ?_)
      have hw := hw M99 eM99
      refine X_aload_n 138 dX12_reads_137 rfl rfl ?_
      refine X_getR 141 f_X12_143 (hL.ob (c := 12) (by decide) rfl) rfl (hL.rr (by decide) rfl) dX12_reads_138 rfl ?_
      refine X_iload_n 142 dX12_reads_141 rfl rfl ?_
      refine X_iconst 143 (v := 0) dX12_reads_142 rfl rfl ?_
      refine Y_zast 144 (k := (tn x96)) (hL.ar (t := 1) (n := 6) (by decide) rfl) c98 rfl dX12_reads_143 rfl ?_
      refine X_nmM (fun M100 eM100 => ?_)
      have hw := hw M100 eM100
      refine X_goto 190 dX12_reads_144 rfl ?_
      refine X_weak (ls' := [.ref 92, .int p0, .int x96, .int v3, junk, junk, junk]) (WK.s (WK.s (WK.s (WK.s (WK.s (WK.j (WK.s WK.n))))))) (Nat.le_of_ble_eq_true rfl) ?_
      exact t_X12_reads_190 hL   hw hK25
    refine X_if_eq 135 131 (y := 0) dX12_reads_128 rfl rfl (fun c101 => ?_) (fun c101 => ?_)
    · refine X_iconst 136 (v := 2) dX12_reads_135 rfl rfl ?_
      rw [if_pos c101] at ex97
      rw [ex97] at hJ
      exact hJ
    · refine X_iconst 132 (v := 1) dX12_reads_131 rfl rfl ?_
      refine X_goto 136 dX12_reads_132 rfl ?_
      rw [if_neg c101] at ex97
      rw [ex97] at hJ
      exact hJ
  refine X_if_eq 113 108 (y := 0) dX12_reads_105 rfl rfl (fun c102 => ?_) (fun c102 => ?_)
  · refine X_bipush 115 (v := 28) dX12_reads_113 rfl rfl ?_
    rw [if_pos c102] at ex94
    rw [ex94] at hJ
    exact hJ
  · refine X_bipush 110 (v := 30) dX12_reads_108 rfl rfl ?_
    refine X_goto 115 dX12_reads_110 rfl ?_
    rw [if_neg c102] at ex94
    rw [ex94] at hJ
    exact hJ
def w_X12_reads_170 (L : Lay) (p0 : Int32) (K25 : Int32 → Int32 → Mem → Prop) (K170 : Int32 → Int32 → Mem → Prop) (v2 : Int32) (v3 : Int32) (M : Mem) (Q : Int32 → Mem → Prop) : Prop := ((0 < v2 → (vp_in v2 6 ∧ ((((mi M 136 (tn v2)) = (1 : Int32) → (∀ x106 : Int32, x106 = v2 + (-1 : Int32) → (K170 x106 v3 M))) ∧ (¬ (mi M 136 (tn v2)) = (1 : Int32) → (w_X12_reads_190 L p0 K25 v2 v3 M Q)))))) ∧ (¬ 0 < v2 → (w_X12_reads_190 L p0 K25 v2 v3 M Q)))
set_option maxRecDepth 20000 in
theorem t_X12_reads_170 {L : Lay} (hL : LY L) {p0 : Int32}  {K25 : Int32 → Int32 → Mem → Prop} {K170 : Int32 → Int32 → Mem → Prop} {v2 : Int32} {v3 : Int32}  {M : Mem} {Q : Int32 → Mem → Prop} (hw : w_X12_reads_170 L p0 K25 K170 v2 v3 M Q) (hK25 : ∀ (v2 : Int32) (v3 : Int32) (M : Mem), K25 v2 v3 M → X (FM (QZ L Q)) RX12 cX12_reads (some .boolean) 7 "reads" 3 0 0 (L, M) 25 [.ref 92, .int p0, .int v2, .int v3, junk, junk, junk] []) (hK170 : ∀ (v2 : Int32) (v3 : Int32) (M : Mem), K170 v2 v3 M → X (FM (QZ L Q)) RX12 cX12_reads (some .boolean) 7 "reads" 3 0 0 (L, M) 170 [.ref 92, .int p0, .int v2, .int v3, junk, junk, junk] []) : X (FM (QZ L Q)) RX12 cX12_reads (some .boolean) 7 "reads" 3 0 0 (L, M) 170 [.ref 92, .int p0, .int v2, .int v3, junk, junk, junk] [] := by
  unfold w_X12_reads_170 at hw
  refine X_iload_n 171 dX12_reads_170 rfl rfl ?_
  refine X_if_le 190 174 (y := 0) dX12_reads_171 rfl rfl (fun c103 => ?_) (fun c103 => ?_)
  · have hw := hw.2 c103
    exact t_X12_reads_190 hL   hw hK25
  · have hw := hw.1 c103
    refine X_aload_n 175 dX12_reads_174 rfl rfl ?_
    refine X_getR 178 f_X12_140 (hL.ob (c := 12) (by decide) rfl) rfl (hL.rr (by decide) rfl) dX12_reads_175 rfl ?_
    refine X_iload_n 179 dX12_reads_178 rfl rfl ?_
    obtain ⟨c104, hw⟩ := hw
    refine Y_iald 180 (k := (tn v2)) (hL.ar (t := 0) (n := 6) (by decide) rfl) c104 rfl dX12_reads_179 rfl ?_
    refine X_iconst 181 (v := 1) dX12_reads_180 rfl rfl ?_
    refine X_icmp_ne 190 184 dX12_reads_181 rfl rfl (fun c105 => ?_) (fun c105 => ?_)
    · have hw := hw.2 c105
      exact t_X12_reads_190 hL   hw hK25
    · have hw := hw.1 c105
      obtain ⟨x106, ex106⟩ : ∃ x106 : Int32, x106 = v2 + (-1 : Int32) := ⟨_, rfl⟩
      have hw := hw x106 ex106
      refine X_iinc 187 (v := x106) (ls' := [.ref 92, .int p0, .int x106, .int v3, junk, junk, junk]) dX12_reads_184 rfl rfl (by rw [ex106]; rfl) rfl (Or.inr (Or.inr ⟨_, rfl, rfl⟩)) ?_
      refine X_goto 170 dX12_reads_187 rfl ?_
      exact hK170 x106 v3 M hw
def w_X12_reads_81 (L : Lay) (p0 : Int32) (K25 : Int32 → Int32 → Mem → Prop) (v2 : Int32) (v3 : Int32) (v4 : Int32) (v5 : Int32) (v6 : Int32) (M : Mem) (Q : Int32 → Mem → Prop) : Prop := ((v2 = (5 : Int32) → (w_X12_fails L (5 : Int32) M (fun x73 M72 => (Q x73 M72)))) ∧ (¬ v2 = (5 : Int32) → (((v5 = 0 → (((v6 = 0 → (∀ x69 : Int32, x69 = (if 0 < v4 then v4 else ((100 : Int32) + (mi M 92 49))) → (w_X12_puts L x69 M (fun M70 => (LP3 (fun K170 v2 v3 M => w_X12_reads_170 L p0 K25 K170 v2 v3 M Q) v2 (0 : Int32) M70))))) ∧ (¬ v6 = 0 → (w_X12_reads_102 L p0 K25 v2 v3 v5 M Q))))) ∧ (¬ v5 = 0 → (w_X12_reads_102 L p0 K25 v2 v3 v5 M Q))))))
set_option maxRecDepth 20000 in
theorem t_X12_reads_81 {L : Lay} (hL : LY L) {p0 : Int32}  {K25 : Int32 → Int32 → Mem → Prop} {v2 : Int32} {v3 : Int32} {v4 : Int32} {v5 : Int32} {v6 : Int32}  {M : Mem} {Q : Int32 → Mem → Prop} (hw : w_X12_reads_81 L p0 K25 v2 v3 v4 v5 v6 M Q) (hK25 : ∀ (v2 : Int32) (v3 : Int32) (M : Mem), K25 v2 v3 M → X (FM (QZ L Q)) RX12 cX12_reads (some .boolean) 7 "reads" 3 0 0 (L, M) 25 [.ref 92, .int p0, .int v2, .int v3, junk, junk, junk] []) : X (FM (QZ L Q)) RX12 cX12_reads (some .boolean) 7 "reads" 3 0 0 (L, M) 81 [.ref 92, .int p0, .int v2, .int v3, .int v4, .int v5, .int v6] [] := by
  unfold w_X12_reads_81 at hw
  refine X_iload_n 82 dX12_reads_81 rfl rfl ?_
  refine X_iconst 83 (v := 5) dX12_reads_82 rfl rfl ?_
  refine X_icmp_ne 92 86 dX12_reads_83 rfl rfl (fun c66 => ?_) (fun c66 => ?_)
  · have hw := hw.2 c66
    refine X_iload 94 dX12_reads_92 rfl rfl ?_
    refine X_if_ne 102 97 (y := 0) dX12_reads_94 rfl rfl (fun c67 => ?_) (fun c67 => ?_)
    · have hw := hw.2 c67
      refine X_weak (ls' := [.ref 92, .int p0, .int v2, .int v3, junk, .int v5, junk]) (WK.s (WK.s (WK.s (WK.s (WK.j (WK.s (WK.j WK.n))))))) (Nat.le_of_ble_eq_true rfl) ?_
      exact t_X12_reads_102 hL   hw hK25
    · have hw := hw.1 c67
      refine X_iload 99 dX12_reads_97 rfl rfl ?_
      refine X_if_eq 147 102 (y := 0) dX12_reads_99 rfl rfl (fun c68 => ?_) (fun c68 => ?_)
      · have hw := hw.1 c68
        refine X_aload_n 148 dX12_reads_147 rfl rfl ?_
        refine X_iload 150 dX12_reads_148 rfl rfl ?_
        obtain ⟨x69, ex69⟩ : ∃ x69 : Int32, x69 = (if 0 < v4 then v4 else ((100 : Int32) + (mi M 92 49))) := ⟨_, rfl⟩
        have hw := hw x69 ex69
        have hJ : X (FM (QZ L Q)) RX12 cX12_reads (some .boolean) 7 "reads" 3 0 0 (L, M) 165 [.ref 92, .int p0, .int v2, .int v3, .int v4, .int v5, .int v6] [.int x69, .ref 92] := by
          refine Y_cVV 168 (as := [.int x69]) m_X12_322 (s_X12_puts hL  hw) (hL.ob (c := 12) (by decide) rfl) rfl (by decide) (Nat.le_of_ble_eq_true rfl) dX12_reads_165 rfl rfl (fun M70 hw => ?_)
          refine X_iconst 169 (v := 0) dX12_reads_168 rfl rfl ?_
          refine X_istore_n 170 (ls' := [.ref 92, .int p0, .int v2, .int (0 : Int32), .int v4, .int v5, .int v6]) dX12_reads_169 rfl rfl (Nat.le_of_ble_eq_true rfl) rfl (Or.inr (Or.inr ⟨_, rfl, rfl⟩)) ?_
          refine X_weak (ls' := [.ref 92, .int p0, .int v2, .int (0 : Int32), junk, junk, junk]) (WK.s (WK.s (WK.s (WK.s (WK.j (WK.j (WK.j WK.n))))))) (Nat.le_of_ble_eq_true rfl) ?_
          exact LP3_s hw (G := fun v2 v3 M => X (FM (QZ L Q)) RX12 cX12_reads (some .boolean) 7 "reads" 3 0 0 (L, M) 170 [.ref 92, .int p0, .int v2, .int v3, junk, junk, junk] []) (fun K170 v2 v3 M hb hK => t_X12_reads_170 hL  hb hK25 hK)
        refine X_if_le 158 153 (y := 0) dX12_reads_150 rfl rfl (fun c71 => ?_) (fun c71 => ?_)
        · refine X_bipush 160 (v := 100) dX12_reads_158 rfl rfl ?_
          refine X_aload_n 161 dX12_reads_160 rfl rfl ?_
          refine X_getI 164 f_X12_255 (hL.ob (c := 12) (by decide) rfl) rfl dX12_reads_161 rfl ?_
          refine X_iadd 165 dX12_reads_164 rfl ?_
          rw [if_neg c71] at ex69
          rw [ex69] at hJ
          exact hJ
        · refine X_iload 155 dX12_reads_153 rfl rfl ?_
          refine X_goto 165 dX12_reads_155 rfl ?_
          rw [if_pos c71] at ex69
          rw [ex69] at hJ
          exact hJ
      · have hw := hw.2 c68
        refine X_weak (ls' := [.ref 92, .int p0, .int v2, .int v3, junk, .int v5, junk]) (WK.s (WK.s (WK.s (WK.s (WK.j (WK.s (WK.j WK.n))))))) (Nat.le_of_ble_eq_true rfl) ?_
        exact t_X12_reads_102 hL   hw hK25
  · have hw := hw.1 c66
    refine X_aload_n 87 dX12_reads_86 rfl rfl ?_
    refine X_iconst 88 (v := 5) dX12_reads_87 rfl rfl ?_
    refine Y_cVZ 91 (as := [.int (5 : Int32)]) m_X12_275 (s_X12_fails hL  hw) (hL.ob (c := 12) (by decide) rfl) rfl (by decide) (Nat.le_of_ble_eq_true rfl) dX12_reads_88 rfl rfl (fun x73 M72 bx73 hw => ?_)
    exact X_ret rfl (nar_bool (bx73)) dX12_reads_91 ⟨_, _, rfl, bx73, rfl, hw⟩
def w_X12_reads_479 (L : Lay) (p0 : Int32) (K25 : Int32 → Int32 → Mem → Prop) (v2 : Int32) (v3 : Int32) (M : Mem) (Q : Int32 → Mem → Prop) : Prop := w_X12_next L  M (fun M74 => (K25 v2 v3 M74))
set_option maxRecDepth 20000 in
theorem t_X12_reads_479 {L : Lay} (hL : LY L) {p0 : Int32}  {K25 : Int32 → Int32 → Mem → Prop} {v2 : Int32} {v3 : Int32}  {M : Mem} {Q : Int32 → Mem → Prop} (hw : w_X12_reads_479 L p0 K25 v2 v3 M Q) (hK25 : ∀ (v2 : Int32) (v3 : Int32) (M : Mem), K25 v2 v3 M → X (FM (QZ L Q)) RX12 cX12_reads (some .boolean) 7 "reads" 3 0 0 (L, M) 25 [.ref 92, .int p0, .int v2, .int v3, junk, junk, junk] []) : X (FM (QZ L Q)) RX12 cX12_reads (some .boolean) 7 "reads" 3 0 0 (L, M) 479 [.ref 92, .int p0, .int v2, .int v3, junk, junk, junk] [] := by
  unfold w_X12_reads_479 at hw
  refine X_aload_n 480 dX12_reads_479 rfl rfl ?_
  refine Y_cVV 483 (as := []) m_X12_278 (s_X12_next hL  hw) (hL.ob (c := 12) (by decide) rfl) rfl (by decide) (Nat.le_of_ble_eq_true rfl) dX12_reads_480 rfl rfl (fun M74 hw => ?_)
  refine X_goto 25 dX12_reads_483 rfl ?_
  exact hK25 v2 v3 M74 hw
def w_X12_reads_278 (L : Lay) (p0 : Int32) (K25 : Int32 → Int32 → Mem → Prop) (v2 : Int32) (y0 : Int32) (M : Mem) (Q : Int32 → Mem → Prop) : Prop := w_X12_puts L y0 M (fun M75 => (w_X12_reads_479 L p0 K25 v2 (1 : Int32) M75 Q))
set_option maxRecDepth 20000 in
theorem t_X12_reads_278 {L : Lay} (hL : LY L) {p0 : Int32}  {K25 : Int32 → Int32 → Mem → Prop} {v2 : Int32} {y0 : Int32}  {M : Mem} {Q : Int32 → Mem → Prop} (hw : w_X12_reads_278 L p0 K25 v2 y0 M Q) (hK25 : ∀ (v2 : Int32) (v3 : Int32) (M : Mem), K25 v2 v3 M → X (FM (QZ L Q)) RX12 cX12_reads (some .boolean) 7 "reads" 3 0 0 (L, M) 25 [.ref 92, .int p0, .int v2, .int v3, junk, junk, junk] []) : X (FM (QZ L Q)) RX12 cX12_reads (some .boolean) 7 "reads" 3 0 0 (L, M) 278 [.ref 92, .int p0, .int v2, junk, junk, junk, junk] [.int y0, .ref 92] := by
  unfold w_X12_reads_278 at hw
  refine Y_cVV 281 (as := [.int y0]) m_X12_322 (s_X12_puts hL  hw) (hL.ob (c := 12) (by decide) rfl) rfl (by decide) (Nat.le_of_ble_eq_true rfl) dX12_reads_278 rfl rfl (fun M75 hw => ?_)
  refine X_iconst 282 (v := 1) dX12_reads_281 rfl rfl ?_
  refine X_istore_n 283 (ls' := [.ref 92, .int p0, .int v2, .int (1 : Int32), junk, junk, junk]) dX12_reads_282 rfl rfl (Nat.le_of_ble_eq_true rfl) rfl (Or.inr (Or.inr ⟨_, rfl, rfl⟩)) ?_
  refine X_goto 479 dX12_reads_283 rfl ?_
  exact t_X12_reads_479 hL   hw hK25
def w_X12_reads_233 (L : Lay) (p0 : Int32) (K25 : Int32 → Int32 → Mem → Prop) (v2 : Int32) (M : Mem) (Q : Int32 → Mem → Prop) : Prop := w_X12_isSign L (43 : Int32) M (fun x36 M35 => (((x36 = 0 → (w_X12_isSign L (45 : Int32) M35 (fun x39 M38 => (((x39 = 0 → (w_X12_isSign L (42 : Int32) M38 (fun x42 M41 => (∀ x43 : Int32, x43 = (if x42 = 0 then (23 : Int32) else (22 : Int32)) → (w_X12_puts L x43 M41 (fun M44 => (w_X12_reads_479 L p0 K25 v2 (1 : Int32) M44 Q))))))) ∧ (¬ x39 = 0 → (w_X12_reads_278 L p0 K25 v2 (21 : Int32) M38 Q))))))) ∧ (¬ x36 = 0 → (w_X12_reads_278 L p0 K25 v2 (20 : Int32) M35 Q)))))
set_option maxRecDepth 20000 in
theorem t_X12_reads_233 {L : Lay} (hL : LY L) {p0 : Int32}  {K25 : Int32 → Int32 → Mem → Prop} {v2 : Int32}  {M : Mem} {Q : Int32 → Mem → Prop} (hw : w_X12_reads_233 L p0 K25 v2 M Q) (hK25 : ∀ (v2 : Int32) (v3 : Int32) (M : Mem), K25 v2 v3 M → X (FM (QZ L Q)) RX12 cX12_reads (some .boolean) 7 "reads" 3 0 0 (L, M) 25 [.ref 92, .int p0, .int v2, .int v3, junk, junk, junk] []) : X (FM (QZ L Q)) RX12 cX12_reads (some .boolean) 7 "reads" 3 0 0 (L, M) 233 [.ref 92, .int p0, .int v2, junk, junk, junk, junk] [] := by
  unfold w_X12_reads_233 at hw
  refine X_aload_n 234 dX12_reads_233 rfl rfl ?_
  refine X_aload_n 235 dX12_reads_234 rfl rfl ?_
  refine X_bipush 237 (v := 43) dX12_reads_235 rfl rfl ?_
  refine Y_cVZ 240 (as := [.int (43 : Int32)]) m_X12_272 (s_X12_isSign hL  hw) (hL.ob (c := 12) (by decide) rfl) rfl (by decide) (Nat.le_of_ble_eq_true rfl) dX12_reads_237 rfl rfl (fun x36 M35 bx36 hw => ?_)
  refine X_if_eq 248 243 (y := 0) dX12_reads_240 rfl rfl (fun c37 => ?_) (fun c37 => ?_)
  · have hw := hw.1 c37
    refine X_aload_n 249 dX12_reads_248 rfl rfl ?_
    refine X_bipush 251 (v := 45) dX12_reads_249 rfl rfl ?_
    refine Y_cVZ 254 (as := [.int (45 : Int32)]) m_X12_272 (s_X12_isSign hL  hw) (hL.ob (c := 12) (by decide) rfl) rfl (by decide) (Nat.le_of_ble_eq_true rfl) dX12_reads_251 rfl rfl (fun x39 M38 bx39 hw => ?_)
    refine X_if_eq 262 257 (y := 0) dX12_reads_254 rfl rfl (fun c40 => ?_) (fun c40 => ?_)
    · have hw := hw.1 c40
      refine X_aload_n 263 dX12_reads_262 rfl rfl ?_
      refine X_bipush 265 (v := 42) dX12_reads_263 rfl rfl ?_
      refine Y_cVZ 268 (as := [.int (42 : Int32)]) m_X12_272 (s_X12_isSign hL  hw) (hL.ob (c := 12) (by decide) rfl) rfl (by decide) (Nat.le_of_ble_eq_true rfl) dX12_reads_265 rfl rfl (fun x42 M41 bx42 hw => ?_)
      obtain ⟨x43, ex43⟩ : ∃ x43 : Int32, x43 = (if x42 = 0 then (23 : Int32) else (22 : Int32)) := ⟨_, rfl⟩
      have hw := hw x43 ex43
      have hJ : X (FM (QZ L Q)) RX12 cX12_reads (some .boolean) 7 "reads" 3 0 0 (L, M41) 278 [.ref 92, .int p0, .int v2, junk, junk, junk, junk] [.int x43, .ref 92] := by
        refine Y_cVV 281 (as := [.int x43]) m_X12_322 (s_X12_puts hL  hw) (hL.ob (c := 12) (by decide) rfl) rfl (by decide) (Nat.le_of_ble_eq_true rfl) dX12_reads_278 rfl rfl (fun M44 hw => ?_)
        refine X_iconst 282 (v := 1) dX12_reads_281 rfl rfl ?_
        refine X_istore_n 283 (ls' := [.ref 92, .int p0, .int v2, .int (1 : Int32), junk, junk, junk]) dX12_reads_282 rfl rfl (Nat.le_of_ble_eq_true rfl) rfl (Or.inr (Or.inr ⟨_, rfl, rfl⟩)) ?_
        refine X_goto 479 dX12_reads_283 rfl ?_
        exact t_X12_reads_479 hL   hw hK25
      refine X_if_eq 276 271 (y := 0) dX12_reads_268 rfl rfl (fun c45 => ?_) (fun c45 => ?_)
      · refine X_bipush 278 (v := 23) dX12_reads_276 rfl rfl ?_
        rw [if_pos c45] at ex43
        rw [ex43] at hJ
        exact hJ
      · refine X_bipush 273 (v := 22) dX12_reads_271 rfl rfl ?_
        refine X_goto 278 dX12_reads_273 rfl ?_
        rw [if_neg c45] at ex43
        rw [ex43] at hJ
        exact hJ
    · have hw := hw.2 c40
      refine X_bipush 259 (v := 21) dX12_reads_257 rfl rfl ?_
      refine X_goto 278 dX12_reads_259 rfl ?_
      exact t_X12_reads_278 hL   hw hK25
  · have hw := hw.2 c37
    refine X_bipush 245 (v := 20) dX12_reads_243 rfl rfl ?_
    refine X_goto 278 dX12_reads_245 rfl ?_
    exact t_X12_reads_278 hL   hw hK25
def w_X12_reads_365 (L : Lay) (p0 : Int32) (K25 : Int32 → Int32 → Mem → Prop) (v2 : Int32) (M : Mem) (Q : Int32 → Mem → Prop) : Prop := w_X12_isWord L (1111 : Int64) M (fun x77 M76 => (∀ x78 : Int32, x78 = (if x77 = 0 then (27 : Int32) else (26 : Int32)) → (w_X12_puts L x78 M76 (fun M79 => (vp_in v2 6 ∧ (∀ M81 : Mem, M81 = si M79 137 (tn v2) (narZ (0 : Int32)) → (w_X12_reads_479 L p0 K25 v2 (1 : Int32) M81 Q)))))))
set_option maxRecDepth 20000 in
theorem t_X12_reads_365 {L : Lay} (hL : LY L) {p0 : Int32}  {K25 : Int32 → Int32 → Mem → Prop} {v2 : Int32}  {M : Mem} {Q : Int32 → Mem → Prop} (hw : w_X12_reads_365 L p0 K25 v2 M Q) (hK25 : ∀ (v2 : Int32) (v3 : Int32) (M : Mem), K25 v2 v3 M → X (FM (QZ L Q)) RX12 cX12_reads (some .boolean) 7 "reads" 3 0 0 (L, M) 25 [.ref 92, .int p0, .int v2, .int v3, junk, junk, junk] []) : X (FM (QZ L Q)) RX12 cX12_reads (some .boolean) 7 "reads" 3 0 0 (L, M) 365 [.ref 92, .int p0, .int v2, junk, junk, junk, junk] [] := by
  unfold w_X12_reads_365 at hw
  refine X_aload_n 366 dX12_reads_365 rfl rfl ?_
  refine X_aload_n 367 dX12_reads_366 rfl rfl ?_
  refine X_ldc2 370 dX12_reads_367 rfl k_X12_326 ?_
  refine Y_cVZ 373 (as := [.long (1111 : Int64)]) m_X12_318 (s_X12_isWord hL  hw) (hL.ob (c := 12) (by decide) rfl) rfl (by decide) (Nat.le_of_ble_eq_true rfl) dX12_reads_370 rfl rfl (fun x77 M76 bx77 hw => ?_)
  obtain ⟨x78, ex78⟩ : ∃ x78 : Int32, x78 = (if x77 = 0 then (27 : Int32) else (26 : Int32)) := ⟨_, rfl⟩
  have hw := hw x78 ex78
  have hJ : X (FM (QZ L Q)) RX12 cX12_reads (some .boolean) 7 "reads" 3 0 0 (L, M76) 383 [.ref 92, .int p0, .int v2, junk, junk, junk, junk] [.int x78, .ref 92] := by
    refine Y_cVV 386 (as := [.int x78]) m_X12_322 (s_X12_puts hL  hw) (hL.ob (c := 12) (by decide) rfl) rfl (by decide) (Nat.le_of_ble_eq_true rfl) dX12_reads_383 rfl rfl (fun M79 hw => ?_)
    refine X_aload_n 387 dX12_reads_386 rfl rfl ?_
    refine X_getR 390 f_X12_143 (hL.ob (c := 12) (by decide) rfl) rfl (hL.rr (by decide) rfl) dX12_reads_387 rfl ?_
    refine X_iload_n 391 dX12_reads_390 rfl rfl ?_
    refine X_iconst 392 (v := 0) dX12_reads_391 rfl rfl ?_
    obtain ⟨c80, hw⟩ := hw
    refine Y_zast 393 (k := (tn v2)) (hL.ar (t := 1) (n := 6) (by decide) rfl) c80 rfl dX12_reads_392 rfl ?_
    refine X_nmM (fun M81 eM81 => ?_)
    have hw := hw M81 eM81
    refine X_iconst 394 (v := 1) dX12_reads_393 rfl rfl ?_
    refine X_istore_n 395 (ls' := [.ref 92, .int p0, .int v2, .int (1 : Int32), junk, junk, junk]) dX12_reads_394 rfl rfl (Nat.le_of_ble_eq_true rfl) rfl (Or.inr (Or.inr ⟨_, rfl, rfl⟩)) ?_
    refine X_goto 479 dX12_reads_395 rfl ?_
    exact t_X12_reads_479 hL   hw hK25
  refine X_if_eq 381 376 (y := 0) dX12_reads_373 rfl rfl (fun c82 => ?_) (fun c82 => ?_)
  · refine X_bipush 383 (v := 27) dX12_reads_381 rfl rfl ?_
    rw [if_pos c82] at ex78
    rw [ex78] at hJ
    exact hJ
  · refine X_bipush 378 (v := 26) dX12_reads_376 rfl rfl ?_
    refine X_goto 383 dX12_reads_378 rfl ?_
    rw [if_neg c82] at ex78
    rw [ex78] at hJ
    exact hJ
def w_X12_reads_420 (L : Lay) (p0 : Int32) (K25 : Int32 → Int32 → Mem → Prop) (K420 : Int32 → Int32 → Mem → Prop) (v2 : Int32) (v3 : Int32) (M : Mem) (Q : Int32 → Mem → Prop) : Prop := ((0 < v2 → (vp_in v2 6 ∧ ((((mi M 136 (tn v2)) = (1 : Int32) → (∀ x93 : Int32, x93 = v2 + (-1 : Int32) → (K420 x93 v3 M))) ∧ (¬ (mi M 136 (tn v2)) = (1 : Int32) → (w_X12_reads_479 L p0 K25 v2 v3 M Q)))))) ∧ (¬ 0 < v2 → (w_X12_reads_479 L p0 K25 v2 v3 M Q)))
set_option maxRecDepth 20000 in
theorem t_X12_reads_420 {L : Lay} (hL : LY L) {p0 : Int32}  {K25 : Int32 → Int32 → Mem → Prop} {K420 : Int32 → Int32 → Mem → Prop} {v2 : Int32} {v3 : Int32}  {M : Mem} {Q : Int32 → Mem → Prop} (hw : w_X12_reads_420 L p0 K25 K420 v2 v3 M Q) (hK25 : ∀ (v2 : Int32) (v3 : Int32) (M : Mem), K25 v2 v3 M → X (FM (QZ L Q)) RX12 cX12_reads (some .boolean) 7 "reads" 3 0 0 (L, M) 25 [.ref 92, .int p0, .int v2, .int v3, junk, junk, junk] []) (hK420 : ∀ (v2 : Int32) (v3 : Int32) (M : Mem), K420 v2 v3 M → X (FM (QZ L Q)) RX12 cX12_reads (some .boolean) 7 "reads" 3 0 0 (L, M) 420 [.ref 92, .int p0, .int v2, .int v3, junk, junk, junk] []) : X (FM (QZ L Q)) RX12 cX12_reads (some .boolean) 7 "reads" 3 0 0 (L, M) 420 [.ref 92, .int p0, .int v2, .int v3, junk, junk, junk] [] := by
  unfold w_X12_reads_420 at hw
  refine X_iload_n 421 dX12_reads_420 rfl rfl ?_
  refine X_if_le 479 424 (y := 0) dX12_reads_421 rfl rfl (fun c90 => ?_) (fun c90 => ?_)
  · have hw := hw.2 c90
    exact t_X12_reads_479 hL   hw hK25
  · have hw := hw.1 c90
    refine X_aload_n 425 dX12_reads_424 rfl rfl ?_
    refine X_getR 428 f_X12_140 (hL.ob (c := 12) (by decide) rfl) rfl (hL.rr (by decide) rfl) dX12_reads_425 rfl ?_
    refine X_iload_n 429 dX12_reads_428 rfl rfl ?_
    obtain ⟨c91, hw⟩ := hw
    refine Y_iald 430 (k := (tn v2)) (hL.ar (t := 0) (n := 6) (by decide) rfl) c91 rfl dX12_reads_429 rfl ?_
    refine X_iconst 431 (v := 1) dX12_reads_430 rfl rfl ?_
    refine X_icmp_ne 479 434 dX12_reads_431 rfl rfl (fun c92 => ?_) (fun c92 => ?_)
    · have hw := hw.2 c92
      exact t_X12_reads_479 hL   hw hK25
    · have hw := hw.1 c92
      obtain ⟨x93, ex93⟩ : ∃ x93 : Int32, x93 = v2 + (-1 : Int32) := ⟨_, rfl⟩
      have hw := hw x93 ex93
      refine X_iinc 437 (v := x93) (ls' := [.ref 92, .int p0, .int x93, .int v3, junk, junk, junk]) dX12_reads_434 rfl rfl (by rw [ex93]; rfl) rfl (Or.inr (Or.inr ⟨_, rfl, rfl⟩)) ?_
      refine X_goto 420 dX12_reads_437 rfl ?_
      exact hK420 x93 v3 M hw
def w_X12_reads_473 (L : Lay) (p0 : Int32)   (M : Mem) (Q : Int32 → Mem → Prop) : Prop := w_X12_fails L (1 : Int32) M (fun x108 M107 => (Q x108 M107))
set_option maxRecDepth 20000 in
theorem t_X12_reads_473 {L : Lay} (hL : LY L) {p0 : Int32}     {M : Mem} {Q : Int32 → Mem → Prop} (hw : w_X12_reads_473 L p0   M Q)  : X (FM (QZ L Q)) RX12 cX12_reads (some .boolean) 7 "reads" 3 0 0 (L, M) 473 [.ref 92, junk, junk, junk, junk, junk, junk] [] := by
  unfold w_X12_reads_473 at hw
  refine X_aload_n 474 dX12_reads_473 rfl rfl ?_
  refine X_iconst 475 (v := 1) dX12_reads_474 rfl rfl ?_
  refine Y_cVZ 478 (as := [.int (1 : Int32)]) m_X12_275 (s_X12_fails hL  hw) (hL.ob (c := 12) (by decide) rfl) rfl (by decide) (Nat.le_of_ble_eq_true rfl) dX12_reads_475 rfl rfl (fun x108 M107 bx108 hw => ?_)
  exact X_ret rfl (nar_bool (bx108)) dX12_reads_478 ⟨_, _, rfl, bx108, rfl, hw⟩
def w_X12_reads_440 (L : Lay) (p0 : Int32)  (v2 : Int32) (M : Mem) (Q : Int32 → Mem → Prop) : Prop := w_X12_isSign L (59 : Int32) M (fun x84 M83 => (((x84 = 0 → (w_X12_reads_473 L p0   M83 Q)) ∧ (¬ x84 = 0 → (((v2 = 0 → (vp_in ((275 : Int32) + p0) 286 ∧ (∀ M88 : Mem, M88 = si M83 131 (tn ((275 : Int32) + p0)) (mi M83 92 57) → (w_X12_next L  M88 (fun M89 => (Q (1 : Int32) M89)))))) ∧ (¬ v2 = 0 → (w_X12_reads_473 L p0   M83 Q))))))))
set_option maxRecDepth 20000 in
theorem t_X12_reads_440 {L : Lay} (hL : LY L) {p0 : Int32}   {v2 : Int32}  {M : Mem} {Q : Int32 → Mem → Prop} (hw : w_X12_reads_440 L p0  v2 M Q)  : X (FM (QZ L Q)) RX12 cX12_reads (some .boolean) 7 "reads" 3 0 0 (L, M) 440 [.ref 92, .int p0, .int v2, junk, junk, junk, junk] [] := by
  unfold w_X12_reads_440 at hw
  refine X_aload_n 441 dX12_reads_440 rfl rfl ?_
  refine X_bipush 443 (v := 59) dX12_reads_441 rfl rfl ?_
  refine Y_cVZ 446 (as := [.int (59 : Int32)]) m_X12_272 (s_X12_isSign hL  hw) (hL.ob (c := 12) (by decide) rfl) rfl (by decide) (Nat.le_of_ble_eq_true rfl) dX12_reads_443 rfl rfl (fun x84 M83 bx84 hw => ?_)
  refine X_if_eq 473 449 (y := 0) dX12_reads_446 rfl rfl (fun c85 => ?_) (fun c85 => ?_)
  · have hw := hw.1 c85
    refine X_weak (ls' := [.ref 92, junk, junk, junk, junk, junk, junk]) (WK.s (WK.j (WK.j (WK.s (WK.s (WK.s (WK.s WK.n))))))) (Nat.le_of_ble_eq_true rfl) ?_
    exact t_X12_reads_473 hL   hw 
  · have hw := hw.2 c85
    refine X_iload_n 450 dX12_reads_449 rfl rfl ?_
    refine X_if_ne 473 453 (y := 0) dX12_reads_450 rfl rfl (fun c86 => ?_) (fun c86 => ?_)
    · have hw := hw.2 c86
      refine X_weak (ls' := [.ref 92, junk, junk, junk, junk, junk, junk]) (WK.s (WK.j (WK.j (WK.s (WK.s (WK.s (WK.s WK.n))))))) (Nat.le_of_ble_eq_true rfl) ?_
      exact t_X12_reads_473 hL   hw 
    · have hw := hw.1 c86
      refine X_aload_n 454 dX12_reads_453 rfl rfl ?_
      refine X_getR 457 f_X12_125 (hL.ob (c := 12) (by decide) rfl) rfl (hL.rr (by decide) rfl) dX12_reads_454 rfl ?_
      refine X_sipush 460 (v := 275) dX12_reads_457 rfl rfl ?_
      refine X_iload_n 461 dX12_reads_460 rfl rfl ?_
      refine X_iadd 462 dX12_reads_461 rfl ?_
      refine X_aload_n 463 dX12_reads_462 rfl rfl ?_
      refine X_getI 466 f_X12_281 (hL.ob (c := 12) (by decide) rfl) rfl dX12_reads_463 rfl ?_
      obtain ⟨c87, hw⟩ := hw
      refine Y_iast 467 (k := (tn ((275 : Int32) + p0))) (hL.ar (t := 0) (n := 286) (by decide) rfl) c87 rfl dX12_reads_466 rfl ?_
      refine X_nmM (fun M88 eM88 => ?_)
      have hw := hw M88 eM88
      refine X_aload_n 468 dX12_reads_467 rfl rfl ?_
      refine Y_cVV 471 (as := []) m_X12_278 (s_X12_next hL  hw) (hL.ob (c := 12) (by decide) rfl) rfl (by decide) (Nat.le_of_ble_eq_true rfl) dX12_reads_468 rfl rfl (fun M89 hw => ?_)
      refine X_iconst 472 (v := 1) dX12_reads_471 rfl rfl ?_
      exact X_ret rfl (nar_bool (Or.inr rfl)) dX12_reads_472 ⟨_, _, rfl, Or.inr rfl, rfl, hw⟩
def w_X12_reads_345 (L : Lay) (p0 : Int32) (K25 : Int32 → Int32 → Mem → Prop) (v2 : Int32) (v3 : Int32) (M : Mem) (Q : Int32 → Mem → Prop) : Prop := w_X12_isWord L (1111 : Int64) M (fun x55 M54 => (((x55 = 0 → (w_X12_isWord L (423 : Int64) M54 (fun x58 M57 => (((x58 = 0 → (w_X12_isSign L (41 : Int32) M57 (fun x61 M60 => (((x61 = 0 → (w_X12_reads_440 L p0  v2 M60 Q)) ∧ (¬ x61 = 0 → (((0 < v2 → (w_X12_puts L (29 : Int32) M60 (fun M64 => (∀ x65 : Int32, x65 = v2 + (-1 : Int32) → (LP3 (fun K420 v2 v3 M => w_X12_reads_420 L p0 K25 K420 v2 v3 M Q) x65 v3 M64))))) ∧ (¬ 0 < v2 → (w_X12_reads_440 L p0  v2 M60 Q)))))))))) ∧ (¬ x58 = 0 → (w_X12_reads_365 L p0 K25 v2 M57 Q))))))) ∧ (¬ x55 = 0 → (w_X12_reads_365 L p0 K25 v2 M54 Q)))))
set_option maxRecDepth 20000 in
theorem t_X12_reads_345 {L : Lay} (hL : LY L) {p0 : Int32}  {K25 : Int32 → Int32 → Mem → Prop} {v2 : Int32} {v3 : Int32}  {M : Mem} {Q : Int32 → Mem → Prop} (hw : w_X12_reads_345 L p0 K25 v2 v3 M Q) (hK25 : ∀ (v2 : Int32) (v3 : Int32) (M : Mem), K25 v2 v3 M → X (FM (QZ L Q)) RX12 cX12_reads (some .boolean) 7 "reads" 3 0 0 (L, M) 25 [.ref 92, .int p0, .int v2, .int v3, junk, junk, junk] []) : X (FM (QZ L Q)) RX12 cX12_reads (some .boolean) 7 "reads" 3 0 0 (L, M) 345 [.ref 92, .int p0, .int v2, .int v3, junk, junk, junk] [] := by
  unfold w_X12_reads_345 at hw
  refine X_aload_n 346 dX12_reads_345 rfl rfl ?_
  refine X_ldc2 349 dX12_reads_346 rfl k_X12_326 ?_
  refine Y_cVZ 352 (as := [.long (1111 : Int64)]) m_X12_318 (s_X12_isWord hL  hw) (hL.ob (c := 12) (by decide) rfl) rfl (by decide) (Nat.le_of_ble_eq_true rfl) dX12_reads_349 rfl rfl (fun x55 M54 bx55 hw => ?_)
  refine X_if_ne 365 355 (y := 0) dX12_reads_352 rfl rfl (fun c56 => ?_) (fun c56 => ?_)
  · have hw := hw.2 c56
    refine X_weak (ls' := [.ref 92, .int p0, .int v2, junk, junk, junk, junk]) (WK.s (WK.s (WK.s (WK.j (WK.s (WK.s (WK.s WK.n))))))) (Nat.le_of_ble_eq_true rfl) ?_
    exact t_X12_reads_365 hL   hw hK25
  · have hw := hw.1 c56
    refine X_aload_n 356 dX12_reads_355 rfl rfl ?_
    refine X_ldc2 359 dX12_reads_356 rfl k_X12_328 ?_
    refine Y_cVZ 362 (as := [.long (423 : Int64)]) m_X12_318 (s_X12_isWord hL  hw) (hL.ob (c := 12) (by decide) rfl) rfl (by decide) (Nat.le_of_ble_eq_true rfl) dX12_reads_359 rfl rfl (fun x58 M57 bx58 hw => ?_)
    refine X_if_eq 398 365 (y := 0) dX12_reads_362 rfl rfl (fun c59 => ?_) (fun c59 => ?_)
    · have hw := hw.1 c59
      refine X_aload_n 399 dX12_reads_398 rfl rfl ?_
      refine X_bipush 401 (v := 41) dX12_reads_399 rfl rfl ?_
      refine Y_cVZ 404 (as := [.int (41 : Int32)]) m_X12_272 (s_X12_isSign hL  hw) (hL.ob (c := 12) (by decide) rfl) rfl (by decide) (Nat.le_of_ble_eq_true rfl) dX12_reads_401 rfl rfl (fun x61 M60 bx61 hw => ?_)
      refine X_if_eq 440 407 (y := 0) dX12_reads_404 rfl rfl (fun c62 => ?_) (fun c62 => ?_)
      · have hw := hw.1 c62
        refine X_weak (ls' := [.ref 92, .int p0, .int v2, junk, junk, junk, junk]) (WK.s (WK.s (WK.s (WK.j (WK.s (WK.s (WK.s WK.n))))))) (Nat.le_of_ble_eq_true rfl) ?_
        exact t_X12_reads_440 hL   hw 
      · have hw := hw.2 c62
        refine X_iload_n 408 dX12_reads_407 rfl rfl ?_
        refine X_if_le 440 411 (y := 0) dX12_reads_408 rfl rfl (fun c63 => ?_) (fun c63 => ?_)
        · have hw := hw.2 c63
          refine X_weak (ls' := [.ref 92, .int p0, .int v2, junk, junk, junk, junk]) (WK.s (WK.s (WK.s (WK.j (WK.s (WK.s (WK.s WK.n))))))) (Nat.le_of_ble_eq_true rfl) ?_
          exact t_X12_reads_440 hL   hw 
        · have hw := hw.1 c63
          refine X_aload_n 412 dX12_reads_411 rfl rfl ?_
          refine X_bipush 414 (v := 29) dX12_reads_412 rfl rfl ?_
          refine Y_cVV 417 (as := [.int (29 : Int32)]) m_X12_322 (s_X12_puts hL  hw) (hL.ob (c := 12) (by decide) rfl) rfl (by decide) (Nat.le_of_ble_eq_true rfl) dX12_reads_414 rfl rfl (fun M64 hw => ?_)
          obtain ⟨x65, ex65⟩ : ∃ x65 : Int32, x65 = v2 + (-1 : Int32) := ⟨_, rfl⟩
          have hw := hw x65 ex65
          refine X_iinc 420 (v := x65) (ls' := [.ref 92, .int p0, .int x65, .int v3, junk, junk, junk]) dX12_reads_417 rfl rfl (by rw [ex65]; rfl) rfl (Or.inr (Or.inr ⟨_, rfl, rfl⟩)) ?_
          exact LP3_s hw (G := fun v2 v3 M => X (FM (QZ L Q)) RX12 cX12_reads (some .boolean) 7 "reads" 3 0 0 (L, M) 420 [.ref 92, .int p0, .int v2, .int v3, junk, junk, junk] []) (fun K420 v2 v3 M hb hK => t_X12_reads_420 hL  hb hK25 hK)
    · have hw := hw.2 c59
      refine X_weak (ls' := [.ref 92, .int p0, .int v2, junk, junk, junk, junk]) (WK.s (WK.s (WK.s (WK.j (WK.s (WK.s (WK.s WK.n))))))) (Nat.le_of_ble_eq_true rfl) ?_
      exact t_X12_reads_365 hL   hw hK25
def w_X12_reads_304 (L : Lay) (p0 : Int32) (K25 : Int32 → Int32 → Mem → Prop) (v2 : Int32) (v3 : Int32) (M : Mem) (Q : Int32 → Mem → Prop) : Prop := vp_in v2 6 ∧ ((((mi M 137 (tn v2)) = 0 → (w_X12_isSign L (60 : Int32) M (fun x49 M48 => (∀ x50 : Int32, x50 = (if x49 = 0 then (25 : Int32) else (24 : Int32)) → (w_X12_puts L x50 M48 (fun M51 => (∀ M52 : Mem, M52 = si M51 137 (tn v2) (narZ (1 : Int32)) → (w_X12_reads_479 L p0 K25 v2 (1 : Int32) M52 Q)))))))) ∧ (¬ (mi M 137 (tn v2)) = 0 → (w_X12_reads_345 L p0 K25 v2 v3 M Q))))
set_option maxRecDepth 20000 in
theorem t_X12_reads_304 {L : Lay} (hL : LY L) {p0 : Int32}  {K25 : Int32 → Int32 → Mem → Prop} {v2 : Int32} {v3 : Int32}  {M : Mem} {Q : Int32 → Mem → Prop} (hw : w_X12_reads_304 L p0 K25 v2 v3 M Q) (hK25 : ∀ (v2 : Int32) (v3 : Int32) (M : Mem), K25 v2 v3 M → X (FM (QZ L Q)) RX12 cX12_reads (some .boolean) 7 "reads" 3 0 0 (L, M) 25 [.ref 92, .int p0, .int v2, .int v3, junk, junk, junk] []) : X (FM (QZ L Q)) RX12 cX12_reads (some .boolean) 7 "reads" 3 0 0 (L, M) 304 [.ref 92, .int p0, .int v2, .int v3, junk, junk, junk] [] := by
  unfold w_X12_reads_304 at hw
  refine X_aload_n 305 dX12_reads_304 rfl rfl ?_
  refine X_getR 308 f_X12_143 (hL.ob (c := 12) (by decide) rfl) rfl (hL.rr (by decide) rfl) dX12_reads_305 rfl ?_
  refine X_iload_n 309 dX12_reads_308 rfl rfl ?_
  obtain ⟨c46, hw⟩ := hw
  refine Y_zald 310 (k := (tn v2)) (hL.ar (t := 1) (n := 6) (by decide) rfl) c46 rfl dX12_reads_309 rfl ?_
  refine X_if_ne 345 313 (y := 0) dX12_reads_310 rfl rfl (fun c47 => ?_) (fun c47 => ?_)
  · have hw := hw.2 c47
    exact t_X12_reads_345 hL   hw hK25
  · have hw := hw.1 c47
    refine X_aload_n 314 dX12_reads_313 rfl rfl ?_
    refine X_aload_n 315 dX12_reads_314 rfl rfl ?_
    refine X_bipush 317 (v := 60) dX12_reads_315 rfl rfl ?_
    refine Y_cVZ 320 (as := [.int (60 : Int32)]) m_X12_272 (s_X12_isSign hL  hw) (hL.ob (c := 12) (by decide) rfl) rfl (by decide) (Nat.le_of_ble_eq_true rfl) dX12_reads_317 rfl rfl (fun x49 M48 bx49 hw => ?_)
    obtain ⟨x50, ex50⟩ : ∃ x50 : Int32, x50 = (if x49 = 0 then (25 : Int32) else (24 : Int32)) := ⟨_, rfl⟩
    have hw := hw x50 ex50
    have hJ : X (FM (QZ L Q)) RX12 cX12_reads (some .boolean) 7 "reads" 3 0 0 (L, M48) 330 [.ref 92, .int p0, .int v2, .int v3, junk, junk, junk] [.int x50, .ref 92] := by
      refine Y_cVV 333 (as := [.int x50]) m_X12_322 (s_X12_puts hL  hw) (hL.ob (c := 12) (by decide) rfl) rfl (by decide) (Nat.le_of_ble_eq_true rfl) dX12_reads_330 rfl rfl (fun M51 hw => ?_)
      refine X_aload_n 334 dX12_reads_333 rfl rfl ?_
      refine X_getR 337 f_X12_143 (hL.ob (c := 12) (by decide) rfl) rfl (hL.rr (by decide) rfl) dX12_reads_334 rfl ?_
      refine X_iload_n 338 dX12_reads_337 rfl rfl ?_
      refine X_iconst 339 (v := 1) dX12_reads_338 rfl rfl ?_
      refine Y_zast 340 (k := (tn v2)) (hL.ar (t := 1) (n := 6) (by decide) rfl) c46 rfl dX12_reads_339 rfl ?_
      refine X_nmM (fun M52 eM52 => ?_)
      have hw := hw M52 eM52
      refine X_iconst 341 (v := 1) dX12_reads_340 rfl rfl ?_
      refine X_istore_n 342 (ls' := [.ref 92, .int p0, .int v2, .int (1 : Int32), junk, junk, junk]) dX12_reads_341 rfl rfl (Nat.le_of_ble_eq_true rfl) rfl (Or.inr (Or.inr ⟨_, rfl, rfl⟩)) ?_
      refine X_goto 479 dX12_reads_342 rfl ?_
      exact t_X12_reads_479 hL   hw hK25
    refine X_if_eq 328 323 (y := 0) dX12_reads_320 rfl rfl (fun c53 => ?_) (fun c53 => ?_)
    · refine X_bipush 330 (v := 25) dX12_reads_328 rfl rfl ?_
      rw [if_pos c53] at ex50
      rw [ex50] at hJ
      exact hJ
    · refine X_bipush 325 (v := 24) dX12_reads_323 rfl rfl ?_
      refine X_goto 330 dX12_reads_325 rfl ?_
      rw [if_neg c53] at ex50
      rw [ex50] at hJ
      exact hJ
def w_X12_reads_25 (L : Lay) (p0 : Int32) (K25 : Int32 → Int32 → Mem → Prop) (v2 : Int32) (v3 : Int32) (M : Mem) (Q : Int32 → Mem → Prop) : Prop := ((v3 = 0 → (w_X12_isSign L (43 : Int32) M (fun x6 M5 => (((x6 = 0 → (w_X12_isSign L (45 : Int32) M5 (fun x9 M8 => (((x9 = 0 → (w_X12_isSign L (42 : Int32) M8 (fun x12 M11 => (((x12 = 0 → (w_X12_isSign L (47 : Int32) M11 (fun x15 M14 => (((x15 = 0 → (w_X12_isSign L (60 : Int32) M14 (fun x18 M17 => (((x18 = 0 → (w_X12_isSign L (61 : Int32) M17 (fun x21 M20 => (((x21 = 0 → (w_X12_reads_345 L p0 K25 v2 v3 M20 Q)) ∧ (¬ x21 = 0 → (w_X12_reads_304 L p0 K25 v2 v3 M20 Q))))))) ∧ (¬ x18 = 0 → (w_X12_reads_304 L p0 K25 v2 v3 M17 Q))))))) ∧ (¬ x15 = 0 → (w_X12_reads_233 L p0 K25 v2 M14 Q))))))) ∧ (¬ x12 = 0 → (w_X12_reads_233 L p0 K25 v2 M11 Q))))))) ∧ (¬ x9 = 0 → (w_X12_reads_233 L p0 K25 v2 M8 Q))))))) ∧ (¬ x6 = 0 → (w_X12_reads_233 L p0 K25 v2 M5 Q))))))) ∧ (¬ v3 = 0 → (w_X12_factAtHand L  M (fun x24 M23 => (w_X12_isWord L (10631 : Int64) M23 (fun x26 M25 => (w_X12_isSign L (40 : Int32) M25 (fun x28 M27 => (((x24 = 0 → (((x26 = 0 → (((x28 = 0 → ((((mi M27 92 47) = (2 : Int32) → (w_X12_reads_81 L p0 K25 v2 v3 x24 x26 x28 M27 Q)) ∧ (¬ (mi M27 92 47) = (2 : Int32) → (w_X12_fails L (1 : Int32) M27 (fun x34 M33 => (Q x34 M33))))))) ∧ (¬ x28 = 0 → (w_X12_reads_81 L p0 K25 v2 v3 x24 x26 x28 M27 Q))))) ∧ (¬ x26 = 0 → (w_X12_reads_81 L p0 K25 v2 v3 x24 x26 x28 M27 Q))))) ∧ (¬ x24 = 0 → (w_X12_reads_81 L p0 K25 v2 v3 x24 x26 x28 M27 Q))))))))))))
set_option maxRecDepth 20000 in
theorem t_X12_reads_25 {L : Lay} (hL : LY L) {p0 : Int32}  {K25 : Int32 → Int32 → Mem → Prop} {v2 : Int32} {v3 : Int32}  {M : Mem} {Q : Int32 → Mem → Prop} (hw : w_X12_reads_25 L p0 K25 v2 v3 M Q) (hK25 : ∀ (v2 : Int32) (v3 : Int32) (M : Mem), K25 v2 v3 M → X (FM (QZ L Q)) RX12 cX12_reads (some .boolean) 7 "reads" 3 0 0 (L, M) 25 [.ref 92, .int p0, .int v2, .int v3, junk, junk, junk] []) : X (FM (QZ L Q)) RX12 cX12_reads (some .boolean) 7 "reads" 3 0 0 (L, M) 25 [.ref 92, .int p0, .int v2, .int v3, junk, junk, junk] [] := by
  unfold w_X12_reads_25 at hw
  refine X_iload_n 26 dX12_reads_25 rfl rfl ?_
  refine X_if_eq 197 29 (y := 0) dX12_reads_26 rfl rfl (fun c4 => ?_) (fun c4 => ?_)
  · have hw := hw.1 c4
    refine X_aload_n 198 dX12_reads_197 rfl rfl ?_
    refine X_bipush 200 (v := 43) dX12_reads_198 rfl rfl ?_
    refine Y_cVZ 203 (as := [.int (43 : Int32)]) m_X12_272 (s_X12_isSign hL  hw) (hL.ob (c := 12) (by decide) rfl) rfl (by decide) (Nat.le_of_ble_eq_true rfl) dX12_reads_200 rfl rfl (fun x6 M5 bx6 hw => ?_)
    refine X_if_ne 233 206 (y := 0) dX12_reads_203 rfl rfl (fun c7 => ?_) (fun c7 => ?_)
    · have hw := hw.2 c7
      refine X_weak (ls' := [.ref 92, .int p0, .int v2, junk, junk, junk, junk]) (WK.s (WK.s (WK.s (WK.j (WK.s (WK.s (WK.s WK.n))))))) (Nat.le_of_ble_eq_true rfl) ?_
      exact t_X12_reads_233 hL   hw hK25
    · have hw := hw.1 c7
      refine X_aload_n 207 dX12_reads_206 rfl rfl ?_
      refine X_bipush 209 (v := 45) dX12_reads_207 rfl rfl ?_
      refine Y_cVZ 212 (as := [.int (45 : Int32)]) m_X12_272 (s_X12_isSign hL  hw) (hL.ob (c := 12) (by decide) rfl) rfl (by decide) (Nat.le_of_ble_eq_true rfl) dX12_reads_209 rfl rfl (fun x9 M8 bx9 hw => ?_)
      refine X_if_ne 233 215 (y := 0) dX12_reads_212 rfl rfl (fun c10 => ?_) (fun c10 => ?_)
      · have hw := hw.2 c10
        refine X_weak (ls' := [.ref 92, .int p0, .int v2, junk, junk, junk, junk]) (WK.s (WK.s (WK.s (WK.j (WK.s (WK.s (WK.s WK.n))))))) (Nat.le_of_ble_eq_true rfl) ?_
        exact t_X12_reads_233 hL   hw hK25
      · have hw := hw.1 c10
        refine X_aload_n 216 dX12_reads_215 rfl rfl ?_
        refine X_bipush 218 (v := 42) dX12_reads_216 rfl rfl ?_
        refine Y_cVZ 221 (as := [.int (42 : Int32)]) m_X12_272 (s_X12_isSign hL  hw) (hL.ob (c := 12) (by decide) rfl) rfl (by decide) (Nat.le_of_ble_eq_true rfl) dX12_reads_218 rfl rfl (fun x12 M11 bx12 hw => ?_)
        refine X_if_ne 233 224 (y := 0) dX12_reads_221 rfl rfl (fun c13 => ?_) (fun c13 => ?_)
        · have hw := hw.2 c13
          refine X_weak (ls' := [.ref 92, .int p0, .int v2, junk, junk, junk, junk]) (WK.s (WK.s (WK.s (WK.j (WK.s (WK.s (WK.s WK.n))))))) (Nat.le_of_ble_eq_true rfl) ?_
          exact t_X12_reads_233 hL   hw hK25
        · have hw := hw.1 c13
          refine X_aload_n 225 dX12_reads_224 rfl rfl ?_
          refine X_bipush 227 (v := 47) dX12_reads_225 rfl rfl ?_
          refine Y_cVZ 230 (as := [.int (47 : Int32)]) m_X12_272 (s_X12_isSign hL  hw) (hL.ob (c := 12) (by decide) rfl) rfl (by decide) (Nat.le_of_ble_eq_true rfl) dX12_reads_227 rfl rfl (fun x15 M14 bx15 hw => ?_)
          refine X_if_eq 286 233 (y := 0) dX12_reads_230 rfl rfl (fun c16 => ?_) (fun c16 => ?_)
          · have hw := hw.1 c16
            refine X_aload_n 287 dX12_reads_286 rfl rfl ?_
            refine X_bipush 289 (v := 60) dX12_reads_287 rfl rfl ?_
            refine Y_cVZ 292 (as := [.int (60 : Int32)]) m_X12_272 (s_X12_isSign hL  hw) (hL.ob (c := 12) (by decide) rfl) rfl (by decide) (Nat.le_of_ble_eq_true rfl) dX12_reads_289 rfl rfl (fun x18 M17 bx18 hw => ?_)
            refine X_if_ne 304 295 (y := 0) dX12_reads_292 rfl rfl (fun c19 => ?_) (fun c19 => ?_)
            · have hw := hw.2 c19
              exact t_X12_reads_304 hL   hw hK25
            · have hw := hw.1 c19
              refine X_aload_n 296 dX12_reads_295 rfl rfl ?_
              refine X_bipush 298 (v := 61) dX12_reads_296 rfl rfl ?_
              refine Y_cVZ 301 (as := [.int (61 : Int32)]) m_X12_272 (s_X12_isSign hL  hw) (hL.ob (c := 12) (by decide) rfl) rfl (by decide) (Nat.le_of_ble_eq_true rfl) dX12_reads_298 rfl rfl (fun x21 M20 bx21 hw => ?_)
              refine X_if_eq 345 304 (y := 0) dX12_reads_301 rfl rfl (fun c22 => ?_) (fun c22 => ?_)
              · have hw := hw.1 c22
                exact t_X12_reads_345 hL   hw hK25
              · have hw := hw.2 c22
                exact t_X12_reads_304 hL   hw hK25
          · have hw := hw.2 c16
            refine X_weak (ls' := [.ref 92, .int p0, .int v2, junk, junk, junk, junk]) (WK.s (WK.s (WK.s (WK.j (WK.s (WK.s (WK.s WK.n))))))) (Nat.le_of_ble_eq_true rfl) ?_
            exact t_X12_reads_233 hL   hw hK25
  · have hw := hw.2 c4
    refine X_aload_n 30 dX12_reads_29 rfl rfl ?_
    refine Y_cVI 33 (as := []) m_X12_312 (s_X12_factAtHand hL  hw) (hL.ob (c := 12) (by decide) rfl) rfl (by decide) (Nat.le_of_ble_eq_true rfl) dX12_reads_30 rfl rfl (fun x24 M23 hw => ?_)
    refine X_istore 35 (ls' := [.ref 92, .int p0, .int v2, .int v3, .int x24, junk, junk]) dX12_reads_33 rfl (Nat.le_of_ble_eq_true rfl) rfl (Or.inr (Or.inr ⟨_, rfl, rfl⟩)) ?_
    refine X_aload_n 36 dX12_reads_35 rfl rfl ?_
    refine X_ldc2 39 dX12_reads_36 rfl k_X12_316 ?_
    refine Y_cVZ 42 (as := [.long (10631 : Int64)]) m_X12_318 (s_X12_isWord hL  hw) (hL.ob (c := 12) (by decide) rfl) rfl (by decide) (Nat.le_of_ble_eq_true rfl) dX12_reads_39 rfl rfl (fun x26 M25 bx26 hw => ?_)
    refine X_istore 44 (ls' := [.ref 92, .int p0, .int v2, .int v3, .int x24, .int x26, junk]) dX12_reads_42 rfl (Nat.le_of_ble_eq_true rfl) rfl (Or.inr (Or.inr ⟨_, rfl, rfl⟩)) ?_
    refine X_aload_n 45 dX12_reads_44 rfl rfl ?_
    refine X_bipush 47 (v := 40) dX12_reads_45 rfl rfl ?_
    refine Y_cVZ 50 (as := [.int (40 : Int32)]) m_X12_272 (s_X12_isSign hL  hw) (hL.ob (c := 12) (by decide) rfl) rfl (by decide) (Nat.le_of_ble_eq_true rfl) dX12_reads_47 rfl rfl (fun x28 M27 bx28 hw => ?_)
    refine X_istore 52 (ls' := [.ref 92, .int p0, .int v2, .int v3, .int x24, .int x26, .int x28]) dX12_reads_50 rfl (Nat.le_of_ble_eq_true rfl) rfl (Or.inr (Or.inr ⟨_, rfl, rfl⟩)) ?_
    refine X_iload 54 dX12_reads_52 rfl rfl ?_
    refine X_if_ne 81 57 (y := 0) dX12_reads_54 rfl rfl (fun c29 => ?_) (fun c29 => ?_)
    · have hw := hw.2 c29
      exact t_X12_reads_81 hL   hw hK25
    · have hw := hw.1 c29
      refine X_iload 59 dX12_reads_57 rfl rfl ?_
      refine X_if_ne 81 62 (y := 0) dX12_reads_59 rfl rfl (fun c30 => ?_) (fun c30 => ?_)
      · have hw := hw.2 c30
        exact t_X12_reads_81 hL   hw hK25
      · have hw := hw.1 c30
        refine X_iload 64 dX12_reads_62 rfl rfl ?_
        refine X_if_ne 81 67 (y := 0) dX12_reads_64 rfl rfl (fun c31 => ?_) (fun c31 => ?_)
        · have hw := hw.2 c31
          exact t_X12_reads_81 hL   hw hK25
        · have hw := hw.1 c31
          refine X_aload_n 68 dX12_reads_67 rfl rfl ?_
          refine X_getI 71 f_X12_258 (hL.ob (c := 12) (by decide) rfl) rfl dX12_reads_68 rfl ?_
          refine X_iconst 72 (v := 2) dX12_reads_71 rfl rfl ?_
          refine X_icmp_eq 81 75 dX12_reads_72 rfl rfl (fun c32 => ?_) (fun c32 => ?_)
          · have hw := hw.1 c32
            exact t_X12_reads_81 hL   hw hK25
          · have hw := hw.2 c32
            refine X_aload_n 76 dX12_reads_75 rfl rfl ?_
            refine X_iconst 77 (v := 1) dX12_reads_76 rfl rfl ?_
            refine Y_cVZ 80 (as := [.int (1 : Int32)]) m_X12_275 (s_X12_fails hL  hw) (hL.ob (c := 12) (by decide) rfl) rfl (by decide) (Nat.le_of_ble_eq_true rfl) dX12_reads_77 rfl rfl (fun x34 M33 bx34 hw => ?_)
            exact X_ret rfl (nar_bool (bx34)) dX12_reads_80 ⟨_, _, rfl, bx34, rfl, hw⟩
def w_X12_reads (L : Lay) (p0 : Int32) (M : Mem) (Q : Int32 → Mem → Prop) : Prop := ∀ M1 : Mem, M1 = si M 137 0 (narZ (0 : Int32)) → (vp_in ((275 : Int32) + p0) 286 ∧ (∀ M3 : Mem, M3 = si M1 130 (tn ((275 : Int32) + p0)) (mi M1 92 57) → (LP3 (fun K25 v2 v3 M => w_X12_reads_25 L p0  K25 v2 v3 M Q) (0 : Int32) (1 : Int32) M3)))
set_option maxRecDepth 20000 in
theorem s_X12_reads {L : Lay} (hL : LY L) {p0 : Int32}  {M : Mem} {Q : Int32 → Mem → Prop} (hw : w_X12_reads L p0 M Q) : MX yX12_reads cX12_reads (some .boolean) 7 3 0 0 [.ref 92, .int p0] (L, M) (QZ L Q) := by
  unfold w_X12_reads at hw
  refine MX_of (by decide) [.ref 92, .int p0, junk, junk, junk, junk, junk] (by rfl) (by exact Nat.le_of_ble_eq_true rfl) ?_
  show X (FM (QZ L Q)) RX12 cX12_reads (some .boolean) 7 "reads" 3 0 0 (L, M) 0 [.ref 92, .int p0, junk, junk, junk, junk, junk] []
  refine X_iconst 1 (v := 0) dX12_reads_0 rfl rfl ?_
  refine X_istore_n 2 (ls' := [.ref 92, .int p0, .int (0 : Int32), junk, junk, junk, junk]) dX12_reads_1 rfl rfl (Nat.le_of_ble_eq_true rfl) rfl (Or.inr (Or.inr ⟨_, rfl, rfl⟩)) ?_
  refine X_iconst 3 (v := 1) dX12_reads_2 rfl rfl ?_
  refine X_istore_n 4 (ls' := [.ref 92, .int p0, .int (0 : Int32), .int (1 : Int32), junk, junk, junk]) dX12_reads_3 rfl rfl (Nat.le_of_ble_eq_true rfl) rfl (Or.inr (Or.inr ⟨_, rfl, rfl⟩)) ?_
  refine X_aload_n 5 dX12_reads_4 rfl rfl ?_
  refine X_getR 8 f_X12_143 (hL.ob (c := 12) (by decide) rfl) rfl (hL.rr (by decide) rfl) dX12_reads_5 rfl ?_
  refine X_iconst 9 (v := 0) dX12_reads_8 rfl rfl ?_
  refine X_iconst 10 (v := 0) dX12_reads_9 rfl rfl ?_
  refine Y_zast 11 (k := 0) (hL.ar (t := 1) (n := 6) (by decide) rfl) (vlit (by decide)) (by decide) dX12_reads_10 rfl ?_
  refine X_nmM (fun M1 eM1 => ?_)
  have hw := hw M1 eM1
  refine X_aload_n 12 dX12_reads_11 rfl rfl ?_
  refine X_getR 15 f_X12_122 (hL.ob (c := 12) (by decide) rfl) rfl (hL.rr (by decide) rfl) dX12_reads_12 rfl ?_
  refine X_sipush 18 (v := 275) dX12_reads_15 rfl rfl ?_
  refine X_iload_n 19 dX12_reads_18 rfl rfl ?_
  refine X_iadd 20 dX12_reads_19 rfl ?_
  refine X_aload_n 21 dX12_reads_20 rfl rfl ?_
  refine X_getI 24 f_X12_281 (hL.ob (c := 12) (by decide) rfl) rfl dX12_reads_21 rfl ?_
  obtain ⟨c2, hw⟩ := hw
  refine Y_iast 25 (k := (tn ((275 : Int32) + p0))) (hL.ar (t := 0) (n := 286) (by decide) rfl) c2 rfl dX12_reads_24 rfl ?_
  refine X_nmM (fun M3 eM3 => ?_)
  have hw := hw M3 eM3
  exact LP3_s hw (G := fun v2 v3 M => X (FM (QZ L Q)) RX12 cX12_reads (some .boolean) 7 "reads" 3 0 0 (L, M) 25 [.ref 92, .int p0, .int v2, .int v3, junk, junk, junk] []) (fun K25 v2 v3 M hb hK => t_X12_reads_25 hL  hb  hK)
def w_X12_readsLine_144 (L : Lay)    (M : Mem) (Q : Int32 → Mem → Prop) : Prop := w_X12_fails L (3 : Int32) M (fun x29 M28 => (Q x29 M28))
set_option maxRecDepth 20000 in
theorem t_X12_readsLine_144 {L : Lay} (hL : LY L)      {M : Mem} {Q : Int32 → Mem → Prop} (hw : w_X12_readsLine_144 L    M Q)  : X (FM (QZ L Q)) RX12 cX12_readsLine (some .boolean) 3 "readsLine" 4 0 0 (L, M) 144 [.ref 92, junk, junk] [] := by
  unfold w_X12_readsLine_144 at hw
  refine X_aload_n 145 dX12_readsLine_144 rfl rfl ?_
  refine X_iconst 146 (v := 3) dX12_readsLine_145 rfl rfl ?_
  refine Y_cVZ 149 (as := [.int (3 : Int32)]) m_X12_275 (s_X12_fails hL  hw) (hL.ob (c := 12) (by decide) rfl) rfl (by decide) (Nat.le_of_ble_eq_true rfl) dX12_readsLine_146 rfl rfl (fun x29 M28 bx29 hw => ?_)
  exact X_ret rfl (nar_bool (bx29)) dX12_readsLine_149 ⟨_, _, rfl, bx29, rfl, hw⟩
def w_X12_readsLine_354 (L : Lay)    (M : Mem) (Q : Int32 → Mem → Prop) : Prop := w_X12_next L  M (fun M79 => (w_X12_ends L  M79 (fun x81 M80 => (Q x81 M80))))
set_option maxRecDepth 20000 in
theorem t_X12_readsLine_354 {L : Lay} (hL : LY L)      {M : Mem} {Q : Int32 → Mem → Prop} (hw : w_X12_readsLine_354 L    M Q)  : X (FM (QZ L Q)) RX12 cX12_readsLine (some .boolean) 3 "readsLine" 4 0 0 (L, M) 354 [.ref 92, junk, junk] [] := by
  unfold w_X12_readsLine_354 at hw
  refine X_aload_n 355 dX12_readsLine_354 rfl rfl ?_
  refine Y_cVV 358 (as := []) m_X12_278 (s_X12_next hL  hw) (hL.ob (c := 12) (by decide) rfl) rfl (by decide) (Nat.le_of_ble_eq_true rfl) dX12_readsLine_355 rfl rfl (fun M79 hw => ?_)
  refine X_aload_n 359 dX12_readsLine_358 rfl rfl ?_
  refine Y_cVZ 362 (as := []) m_X12_349 (s_X12_ends hL  hw) (hL.ob (c := 12) (by decide) rfl) rfl (by decide) (Nat.le_of_ble_eq_true rfl) dX12_readsLine_359 rfl rfl (fun x81 M80 bx81 hw => ?_)
  exact X_ret rfl (nar_bool (bx81)) dX12_readsLine_362 ⟨_, _, rfl, bx81, rfl, hw⟩
def w_X12_readsLine_292 (L : Lay)   (y0 : Int32) (M : Mem) (Q : Int32 → Mem → Prop) : Prop := ((y0 < 0 → (w_X12_fails L (1 : Int32) M (fun x85 M84 => (Q x85 M84)))) ∧ (¬ y0 < 0 → (∀ M83 : Mem, M83 = si M 133 25 y0 → (w_X12_readsLine_354 L    M83 Q))))
set_option maxRecDepth 20000 in
theorem t_X12_readsLine_292 {L : Lay} (hL : LY L)    {y0 : Int32}  {M : Mem} {Q : Int32 → Mem → Prop} (hw : w_X12_readsLine_292 L   y0 M Q)  : X (FM (QZ L Q)) RX12 cX12_readsLine (some .boolean) 3 "readsLine" 4 0 0 (L, M) 292 [.ref 92, junk, junk] [.int y0] := by
  unfold w_X12_readsLine_292 at hw
  refine X_istore_n 293 (ls' := [.ref 92, junk, .int y0]) dX12_readsLine_292 rfl rfl (Nat.le_of_ble_eq_true rfl) rfl (Or.inr (Or.inl rfl)) ?_
  refine X_iload_n 294 dX12_readsLine_293 rfl rfl ?_
  refine X_if_ge 303 297 (y := 0) dX12_readsLine_294 rfl rfl (fun c82 => ?_) (fun c82 => ?_)
  · have hw := hw.2 c82
    refine X_aload_n 304 dX12_readsLine_303 rfl rfl ?_
    refine X_getR 307 f_X12_131 (hL.ob (c := 12) (by decide) rfl) rfl (hL.rr (by decide) rfl) dX12_readsLine_304 rfl ?_
    refine X_bipush 309 (v := 25) dX12_readsLine_307 rfl rfl ?_
    refine X_iload_n 310 dX12_readsLine_309 rfl rfl ?_
    refine Y_iast 311 (k := 25) (hL.ar (t := 0) (n := 26) (by decide) rfl) (vlit (by decide)) (by decide) dX12_readsLine_310 rfl ?_
    refine X_nmM (fun M83 eM83 => ?_)
    have hw := hw M83 eM83
    refine X_goto 354 dX12_readsLine_311 rfl ?_
    refine X_weak (ls' := [.ref 92, junk, junk]) (WK.s (WK.s (WK.j WK.n))) (Nat.le_of_ble_eq_true rfl) ?_
    exact t_X12_readsLine_354 hL   hw 
  · have hw := hw.1 c82
    refine X_aload_n 298 dX12_readsLine_297 rfl rfl ?_
    refine X_iconst 299 (v := 1) dX12_readsLine_298 rfl rfl ?_
    refine Y_cVZ 302 (as := [.int (1 : Int32)]) m_X12_275 (s_X12_fails hL  hw) (hL.ob (c := 12) (by decide) rfl) rfl (by decide) (Nat.le_of_ble_eq_true rfl) dX12_readsLine_299 rfl rfl (fun x85 M84 bx85 hw => ?_)
    exact X_ret rfl (nar_bool (bx85)) dX12_readsLine_302 ⟨_, _, rfl, bx85, rfl, hw⟩
def w_X12_readsLine_173 (L : Lay)   (v1 : Int32) (M : Mem) (Q : Int32 → Mem → Prop) : Prop := w_X12_next L  M (fun M42 => (((v1 < (3 : Int32) → (w_X12_reads L v1 M42 (fun x78 M77 => (Q x78 M77)))) ∧ (¬ v1 < (3 : Int32) → (((v1 = (3 : Int32) → (w_X12_isWord L (458690 : Int64) M42 (fun x68 M67 => (((x68 = 0 → (w_X12_fails L (1 : Int32) M67 (fun x76 M75 => (Q x76 M75)))) ∧ (¬ x68 = 0 → (w_X12_next L  M67 (fun M70 => (w_X12_reads L ((3 : Int32) + (mi M70 132 25)) M70 (fun x72 M71 => (((x72 = 0 → (Q (0 : Int32) M71)) ∧ (¬ x72 = 0 → (∀ M74 : Mem, M74 = si M71 132 25 ((mi M71 132 25) + (1 : Int32)) → (Q (1 : Int32) M74))))))))))))))) ∧ (¬ v1 = (3 : Int32) → (((v1 = (4 : Int32) → (w_X12_isWord L (7091219 : Int64) M42 (fun x54 M53 => (((x54 = 0 → (w_X12_isWord L (6888250123 : Int64) M53 (fun x57 M56 => (((x57 = 0 → (w_X12_isWord L (8434683 : Int64) M56 (fun x60 M59 => (∀ x61 : Int32, x61 = (if x60 = 0 then (-1 : Int32) else (2 : Int32)) → (((x61 < 0 → (w_X12_fails L (1 : Int32) M59 (fun x65 M64 => (Q x65 M64)))) ∧ (¬ x61 < 0 → (∀ M63 : Mem, M63 = si M59 133 25 x61 → (w_X12_readsLine_354 L    M63 Q))))))))) ∧ (¬ x57 = 0 → (w_X12_readsLine_292 L   (1 : Int32) M56 Q))))))) ∧ (¬ x54 = 0 → (w_X12_readsLine_292 L   (0 : Int32) M53 Q))))))) ∧ (¬ v1 = (4 : Int32) → ((((mi M42 92 47) = (2 : Int32) → ((((50 : Int32) < (mi M42 92 49) → (w_X12_fails L (4 : Int32) M42 (fun x50 M49 => (Q x50 M49)))) ∧ (¬ (50 : Int32) < (mi M42 92 49) → (∀ M48 : Mem, M48 = si M42 134 25 (mi M42 92 49) → (w_X12_readsLine_354 L    M48 Q)))))) ∧ (¬ (mi M42 92 47) = (2 : Int32) → (w_X12_fails L (1 : Int32) M42 (fun x52 M51 => (Q x52 M51))))))))))))))))
set_option maxRecDepth 20000 in
theorem t_X12_readsLine_173 {L : Lay} (hL : LY L)    {v1 : Int32}  {M : Mem} {Q : Int32 → Mem → Prop} (hw : w_X12_readsLine_173 L   v1 M Q)  : X (FM (QZ L Q)) RX12 cX12_readsLine (some .boolean) 3 "readsLine" 4 0 0 (L, M) 173 [.ref 92, .int v1, junk] [] := by
  unfold w_X12_readsLine_173 at hw
  refine X_aload_n 174 dX12_readsLine_173 rfl rfl ?_
  refine Y_cVV 177 (as := []) m_X12_278 (s_X12_next hL  hw) (hL.ob (c := 12) (by decide) rfl) rfl (by decide) (Nat.le_of_ble_eq_true rfl) dX12_readsLine_174 rfl rfl (fun M42 hw => ?_)
  refine X_iload_n 178 dX12_readsLine_177 rfl rfl ?_
  refine X_iconst 179 (v := 3) dX12_readsLine_178 rfl rfl ?_
  refine X_icmp_ge 188 182 dX12_readsLine_179 rfl rfl (fun c43 => ?_) (fun c43 => ?_)
  · have hw := hw.2 c43
    refine X_iload_n 189 dX12_readsLine_188 rfl rfl ?_
    refine X_iconst 190 (v := 3) dX12_readsLine_189 rfl rfl ?_
    refine X_icmp_ne 244 193 dX12_readsLine_190 rfl rfl (fun c44 => ?_) (fun c44 => ?_)
    · have hw := hw.2 c44
      refine X_iload_n 245 dX12_readsLine_244 rfl rfl ?_
      refine X_iconst 246 (v := 4) dX12_readsLine_245 rfl rfl ?_
      refine X_icmp_ne 314 249 dX12_readsLine_246 rfl rfl (fun c45 => ?_) (fun c45 => ?_)
      · have hw := hw.2 c45
        refine X_aload_n 315 dX12_readsLine_314 rfl rfl ?_
        refine X_getI 318 f_X12_258 (hL.ob (c := 12) (by decide) rfl) rfl dX12_readsLine_315 rfl ?_
        refine X_iconst 319 (v := 2) dX12_readsLine_318 rfl rfl ?_
        refine X_icmp_eq 328 322 dX12_readsLine_319 rfl rfl (fun c46 => ?_) (fun c46 => ?_)
        · have hw := hw.1 c46
          refine X_aload_n 329 dX12_readsLine_328 rfl rfl ?_
          refine X_getI 332 f_X12_255 (hL.ob (c := 12) (by decide) rfl) rfl dX12_readsLine_329 rfl ?_
          refine X_bipush 334 (v := 50) dX12_readsLine_332 rfl rfl ?_
          refine X_icmp_le 343 337 dX12_readsLine_334 rfl rfl (fun c47 => ?_) (fun c47 => ?_)
          · have hw := hw.2 c47
            refine X_aload_n 344 dX12_readsLine_343 rfl rfl ?_
            refine X_getR 347 f_X12_134 (hL.ob (c := 12) (by decide) rfl) rfl (hL.rr (by decide) rfl) dX12_readsLine_344 rfl ?_
            refine X_bipush 349 (v := 25) dX12_readsLine_347 rfl rfl ?_
            refine X_aload_n 350 dX12_readsLine_349 rfl rfl ?_
            refine X_getI 353 f_X12_255 (hL.ob (c := 12) (by decide) rfl) rfl dX12_readsLine_350 rfl ?_
            refine Y_iast 354 (k := 25) (hL.ar (t := 0) (n := 26) (by decide) rfl) (vlit (by decide)) (by decide) dX12_readsLine_353 rfl ?_
            refine X_nmM (fun M48 eM48 => ?_)
            have hw := hw M48 eM48
            refine X_weak (ls' := [.ref 92, junk, junk]) (WK.s (WK.j (WK.s WK.n))) (Nat.le_of_ble_eq_true rfl) ?_
            exact t_X12_readsLine_354 hL   hw 
          · have hw := hw.1 c47
            refine X_aload_n 338 dX12_readsLine_337 rfl rfl ?_
            refine X_iconst 339 (v := 4) dX12_readsLine_338 rfl rfl ?_
            refine Y_cVZ 342 (as := [.int (4 : Int32)]) m_X12_275 (s_X12_fails hL  hw) (hL.ob (c := 12) (by decide) rfl) rfl (by decide) (Nat.le_of_ble_eq_true rfl) dX12_readsLine_339 rfl rfl (fun x50 M49 bx50 hw => ?_)
            exact X_ret rfl (nar_bool (bx50)) dX12_readsLine_342 ⟨_, _, rfl, bx50, rfl, hw⟩
        · have hw := hw.2 c46
          refine X_aload_n 323 dX12_readsLine_322 rfl rfl ?_
          refine X_iconst 324 (v := 1) dX12_readsLine_323 rfl rfl ?_
          refine Y_cVZ 327 (as := [.int (1 : Int32)]) m_X12_275 (s_X12_fails hL  hw) (hL.ob (c := 12) (by decide) rfl) rfl (by decide) (Nat.le_of_ble_eq_true rfl) dX12_readsLine_324 rfl rfl (fun x52 M51 bx52 hw => ?_)
          exact X_ret rfl (nar_bool (bx52)) dX12_readsLine_327 ⟨_, _, rfl, bx52, rfl, hw⟩
      · have hw := hw.1 c45
        refine X_aload_n 250 dX12_readsLine_249 rfl rfl ?_
        refine X_ldc2 253 dX12_readsLine_250 rfl k_X12_284 ?_
        refine Y_cVZ 256 (as := [.long (7091219 : Int64)]) m_X12_318 (s_X12_isWord hL  hw) (hL.ob (c := 12) (by decide) rfl) rfl (by decide) (Nat.le_of_ble_eq_true rfl) dX12_readsLine_253 rfl rfl (fun x54 M53 bx54 hw => ?_)
        refine X_if_eq 263 259 (y := 0) dX12_readsLine_256 rfl rfl (fun c55 => ?_) (fun c55 => ?_)
        · have hw := hw.1 c55
          refine X_aload_n 264 dX12_readsLine_263 rfl rfl ?_
          refine X_ldc2 267 dX12_readsLine_264 rfl k_X12_286 ?_
          refine Y_cVZ 270 (as := [.long (6888250123 : Int64)]) m_X12_318 (s_X12_isWord hL  hw) (hL.ob (c := 12) (by decide) rfl) rfl (by decide) (Nat.le_of_ble_eq_true rfl) dX12_readsLine_267 rfl rfl (fun x57 M56 bx57 hw => ?_)
          refine X_if_eq 277 273 (y := 0) dX12_readsLine_270 rfl rfl (fun c58 => ?_) (fun c58 => ?_)
          · have hw := hw.1 c58
            refine X_aload_n 278 dX12_readsLine_277 rfl rfl ?_
            refine X_ldc2 281 dX12_readsLine_278 rfl k_X12_347 ?_
            refine Y_cVZ 284 (as := [.long (8434683 : Int64)]) m_X12_318 (s_X12_isWord hL  hw) (hL.ob (c := 12) (by decide) rfl) rfl (by decide) (Nat.le_of_ble_eq_true rfl) dX12_readsLine_281 rfl rfl (fun x60 M59 bx60 hw => ?_)
            obtain ⟨x61, ex61⟩ : ∃ x61 : Int32, x61 = (if x60 = 0 then (-1 : Int32) else (2 : Int32)) := ⟨_, rfl⟩
            have hw := hw x61 ex61
            have hJ : X (FM (QZ L Q)) RX12 cX12_readsLine (some .boolean) 3 "readsLine" 4 0 0 (L, M59) 292 [.ref 92, .int v1, junk] [.int x61] := by
              refine X_istore_n 293 (ls' := [.ref 92, .int v1, .int x61]) dX12_readsLine_292 rfl rfl (Nat.le_of_ble_eq_true rfl) rfl (Or.inr (Or.inr ⟨_, rfl, rfl⟩)) ?_
              refine X_iload_n 294 dX12_readsLine_293 rfl rfl ?_
              refine X_if_ge 303 297 (y := 0) dX12_readsLine_294 rfl rfl (fun c62 => ?_) (fun c62 => ?_)
              · have hw := hw.2 c62
                refine X_aload_n 304 dX12_readsLine_303 rfl rfl ?_
                refine X_getR 307 f_X12_131 (hL.ob (c := 12) (by decide) rfl) rfl (hL.rr (by decide) rfl) dX12_readsLine_304 rfl ?_
                refine X_bipush 309 (v := 25) dX12_readsLine_307 rfl rfl ?_
                refine X_iload_n 310 dX12_readsLine_309 rfl rfl ?_
                refine Y_iast 311 (k := 25) (hL.ar (t := 0) (n := 26) (by decide) rfl) (vlit (by decide)) (by decide) dX12_readsLine_310 rfl ?_
                refine X_nmM (fun M63 eM63 => ?_)
                have hw := hw M63 eM63
                refine X_goto 354 dX12_readsLine_311 rfl ?_
                refine X_weak (ls' := [.ref 92, junk, junk]) (WK.s (WK.j (WK.j WK.n))) (Nat.le_of_ble_eq_true rfl) ?_
                exact t_X12_readsLine_354 hL   hw 
              · have hw := hw.1 c62
                refine X_aload_n 298 dX12_readsLine_297 rfl rfl ?_
                refine X_iconst 299 (v := 1) dX12_readsLine_298 rfl rfl ?_
                refine Y_cVZ 302 (as := [.int (1 : Int32)]) m_X12_275 (s_X12_fails hL  hw) (hL.ob (c := 12) (by decide) rfl) rfl (by decide) (Nat.le_of_ble_eq_true rfl) dX12_readsLine_299 rfl rfl (fun x65 M64 bx65 hw => ?_)
                exact X_ret rfl (nar_bool (bx65)) dX12_readsLine_302 ⟨_, _, rfl, bx65, rfl, hw⟩
            refine X_if_eq 291 287 (y := 0) dX12_readsLine_284 rfl rfl (fun c66 => ?_) (fun c66 => ?_)
            · refine X_iconst 292 (v := -1) dX12_readsLine_291 rfl rfl ?_
              rw [if_pos c66] at ex61
              rw [ex61] at hJ
              exact hJ
            · refine X_iconst 288 (v := 2) dX12_readsLine_287 rfl rfl ?_
              refine X_goto 292 dX12_readsLine_288 rfl ?_
              rw [if_neg c66] at ex61
              rw [ex61] at hJ
              exact hJ
          · have hw := hw.2 c58
            refine X_iconst 274 (v := 1) dX12_readsLine_273 rfl rfl ?_
            refine X_goto 292 dX12_readsLine_274 rfl ?_
            refine X_weak (ls' := [.ref 92, junk, junk]) (WK.s (WK.j (WK.s WK.n))) (Nat.le_of_ble_eq_true rfl) ?_
            exact t_X12_readsLine_292 hL   hw 
        · have hw := hw.2 c55
          refine X_iconst 260 (v := 0) dX12_readsLine_259 rfl rfl ?_
          refine X_goto 292 dX12_readsLine_260 rfl ?_
          refine X_weak (ls' := [.ref 92, junk, junk]) (WK.s (WK.j (WK.s WK.n))) (Nat.le_of_ble_eq_true rfl) ?_
          exact t_X12_readsLine_292 hL   hw 
    · have hw := hw.1 c44
      refine X_aload_n 194 dX12_readsLine_193 rfl rfl ?_
      refine X_ldc2 197 dX12_readsLine_194 rfl k_X12_345 ?_
      refine Y_cVZ 200 (as := [.long (458690 : Int64)]) m_X12_318 (s_X12_isWord hL  hw) (hL.ob (c := 12) (by decide) rfl) rfl (by decide) (Nat.le_of_ble_eq_true rfl) dX12_readsLine_197 rfl rfl (fun x68 M67 bx68 hw => ?_)
      refine X_if_ne 209 203 (y := 0) dX12_readsLine_200 rfl rfl (fun c69 => ?_) (fun c69 => ?_)
      · have hw := hw.2 c69
        refine X_aload_n 210 dX12_readsLine_209 rfl rfl ?_
        refine Y_cVV 213 (as := []) m_X12_278 (s_X12_next hL  hw) (hL.ob (c := 12) (by decide) rfl) rfl (by decide) (Nat.le_of_ble_eq_true rfl) dX12_readsLine_210 rfl rfl (fun M70 hw => ?_)
        refine X_aload_n 214 dX12_readsLine_213 rfl rfl ?_
        refine X_iconst 215 (v := 3) dX12_readsLine_214 rfl rfl ?_
        refine X_aload_n 216 dX12_readsLine_215 rfl rfl ?_
        refine X_getR 219 f_X12_128 (hL.ob (c := 12) (by decide) rfl) rfl (hL.rr (by decide) rfl) dX12_readsLine_216 rfl ?_
        refine X_bipush 221 (v := 25) dX12_readsLine_219 rfl rfl ?_
        refine Y_iald 222 (k := 25) (hL.ar (t := 0) (n := 26) (by decide) rfl) (vlit (by decide)) (by decide) dX12_readsLine_221 rfl ?_
        refine X_iadd 223 dX12_readsLine_222 rfl ?_
        refine Y_cVZ 226 (as := [.int (((3 : Int32) + (mi M70 132 25)))]) m_X12_342 (s_X12_reads hL  hw) (hL.ob (c := 12) (by decide) rfl) rfl (by decide) (Nat.le_of_ble_eq_true rfl) dX12_readsLine_223 rfl rfl (fun x72 M71 bx72 hw => ?_)
        refine X_if_ne 231 229 (y := 0) dX12_readsLine_226 rfl rfl (fun c73 => ?_) (fun c73 => ?_)
        · have hw := hw.2 c73
          refine X_aload_n 232 dX12_readsLine_231 rfl rfl ?_
          refine X_getR 235 f_X12_128 (hL.ob (c := 12) (by decide) rfl) rfl (hL.rr (by decide) rfl) dX12_readsLine_232 rfl ?_
          refine X_bipush 237 (v := 25) dX12_readsLine_235 rfl rfl ?_
          refine X_dup2 238 dX12_readsLine_237 rfl rfl rfl ?_
          refine Y_iald 239 (k := 25) (hL.ar (t := 0) (n := 26) (by decide) rfl) (vlit (by decide)) (by decide) dX12_readsLine_238 rfl ?_
          refine X_iconst 240 (v := 1) dX12_readsLine_239 rfl rfl ?_
          refine X_iadd 241 dX12_readsLine_240 rfl ?_
          refine Y_iast 242 (k := 25) (hL.ar (t := 0) (n := 26) (by decide) rfl) (vlit (by decide)) (by decide) dX12_readsLine_241 rfl ?_
          refine X_nmM (fun M74 eM74 => ?_)
          have hw := hw M74 eM74
          refine X_iconst 243 (v := 1) dX12_readsLine_242 rfl rfl ?_
          exact X_ret rfl (nar_bool (Or.inr rfl)) dX12_readsLine_243 ⟨_, _, rfl, Or.inr rfl, rfl, hw⟩
        · have hw := hw.1 c73
          refine X_iconst 230 (v := 0) dX12_readsLine_229 rfl rfl ?_
          exact X_ret rfl (nar_bool (Or.inl rfl)) dX12_readsLine_230 ⟨_, _, rfl, Or.inl rfl, rfl, hw⟩
      · have hw := hw.1 c69
        refine X_aload_n 204 dX12_readsLine_203 rfl rfl ?_
        refine X_iconst 205 (v := 1) dX12_readsLine_204 rfl rfl ?_
        refine Y_cVZ 208 (as := [.int (1 : Int32)]) m_X12_275 (s_X12_fails hL  hw) (hL.ob (c := 12) (by decide) rfl) rfl (by decide) (Nat.le_of_ble_eq_true rfl) dX12_readsLine_205 rfl rfl (fun x76 M75 bx76 hw => ?_)
        exact X_ret rfl (nar_bool (bx76)) dX12_readsLine_208 ⟨_, _, rfl, bx76, rfl, hw⟩
  · have hw := hw.1 c43
    refine X_aload_n 183 dX12_readsLine_182 rfl rfl ?_
    refine X_iload_n 184 dX12_readsLine_183 rfl rfl ?_
    refine Y_cVZ 187 (as := [.int v1]) m_X12_342 (s_X12_reads hL  hw) (hL.ob (c := 12) (by decide) rfl) rfl (by decide) (Nat.le_of_ble_eq_true rfl) dX12_readsLine_184 rfl rfl (fun x78 M77 bx78 hw => ?_)
    exact X_ret rfl (nar_bool (bx78)) dX12_readsLine_187 ⟨_, _, rfl, bx78, rfl, hw⟩
def w_X12_readsLine_150 (L : Lay)   (v1 : Int32) (M : Mem) (Q : Int32 → Mem → Prop) : Prop := ((v1 = (3 : Int32) → ((((mi M 132 25) = (8 : Int32) → (w_X12_fails L (5 : Int32) M (fun x41 M40 => (Q x41 M40)))) ∧ (¬ (mi M 132 25) = (8 : Int32) → (w_X12_readsLine_173 L   v1 M Q))))) ∧ (¬ v1 = (3 : Int32) → (w_X12_readsLine_173 L   v1 M Q)))
set_option maxRecDepth 20000 in
theorem t_X12_readsLine_150 {L : Lay} (hL : LY L)    {v1 : Int32}  {M : Mem} {Q : Int32 → Mem → Prop} (hw : w_X12_readsLine_150 L   v1 M Q)  : X (FM (QZ L Q)) RX12 cX12_readsLine (some .boolean) 3 "readsLine" 4 0 0 (L, M) 150 [.ref 92, .int v1, junk] [] := by
  unfold w_X12_readsLine_150 at hw
  refine X_iload_n 151 dX12_readsLine_150 rfl rfl ?_
  refine X_iconst 152 (v := 3) dX12_readsLine_151 rfl rfl ?_
  refine X_icmp_ne 173 155 dX12_readsLine_152 rfl rfl (fun c38 => ?_) (fun c38 => ?_)
  · have hw := hw.2 c38
    exact t_X12_readsLine_173 hL   hw 
  · have hw := hw.1 c38
    refine X_aload_n 156 dX12_readsLine_155 rfl rfl ?_
    refine X_getR 159 f_X12_128 (hL.ob (c := 12) (by decide) rfl) rfl (hL.rr (by decide) rfl) dX12_readsLine_156 rfl ?_
    refine X_bipush 161 (v := 25) dX12_readsLine_159 rfl rfl ?_
    refine Y_iald 162 (k := 25) (hL.ar (t := 0) (n := 26) (by decide) rfl) (vlit (by decide)) (by decide) dX12_readsLine_161 rfl ?_
    refine X_bipush 164 (v := 8) dX12_readsLine_162 rfl rfl ?_
    refine X_icmp_ne 173 167 dX12_readsLine_164 rfl rfl (fun c39 => ?_) (fun c39 => ?_)
    · have hw := hw.2 c39
      exact t_X12_readsLine_173 hL   hw 
    · have hw := hw.1 c39
      refine X_aload_n 168 dX12_readsLine_167 rfl rfl ?_
      refine X_iconst 169 (v := 5) dX12_readsLine_168 rfl rfl ?_
      refine Y_cVZ 172 (as := [.int (5 : Int32)]) m_X12_275 (s_X12_fails hL  hw) (hL.ob (c := 12) (by decide) rfl) rfl (by decide) (Nat.le_of_ble_eq_true rfl) dX12_readsLine_169 rfl rfl (fun x41 M40 bx41 hw => ?_)
      exact X_ret rfl (nar_bool (bx41)) dX12_readsLine_172 ⟨_, _, rfl, bx41, rfl, hw⟩
def w_X12_readsLine_129 (L : Lay)   (v1 : Int32) (M : Mem) (Q : Int32 → Mem → Prop) : Prop := ((v1 = (5 : Int32) → ((((mi M 134 25) < 0 → (w_X12_readsLine_150 L   v1 M Q)) ∧ (¬ (mi M 134 25) < 0 → (w_X12_readsLine_144 L    M Q))))) ∧ (¬ v1 = (5 : Int32) → (w_X12_readsLine_150 L   v1 M Q)))
set_option maxRecDepth 20000 in
theorem t_X12_readsLine_129 {L : Lay} (hL : LY L)    {v1 : Int32}  {M : Mem} {Q : Int32 → Mem → Prop} (hw : w_X12_readsLine_129 L   v1 M Q)  : X (FM (QZ L Q)) RX12 cX12_readsLine (some .boolean) 3 "readsLine" 4 0 0 (L, M) 129 [.ref 92, .int v1, junk] [] := by
  unfold w_X12_readsLine_129 at hw
  refine X_iload_n 130 dX12_readsLine_129 rfl rfl ?_
  refine X_iconst 131 (v := 5) dX12_readsLine_130 rfl rfl ?_
  refine X_icmp_ne 150 134 dX12_readsLine_131 rfl rfl (fun c36 => ?_) (fun c36 => ?_)
  · have hw := hw.2 c36
    exact t_X12_readsLine_150 hL   hw 
  · have hw := hw.1 c36
    refine X_aload_n 135 dX12_readsLine_134 rfl rfl ?_
    refine X_getR 138 f_X12_134 (hL.ob (c := 12) (by decide) rfl) rfl (hL.rr (by decide) rfl) dX12_readsLine_135 rfl ?_
    refine X_bipush 140 (v := 25) dX12_readsLine_138 rfl rfl ?_
    refine Y_iald 141 (k := 25) (hL.ar (t := 0) (n := 26) (by decide) rfl) (vlit (by decide)) (by decide) dX12_readsLine_140 rfl ?_
    refine X_if_lt 150 144 (y := 0) dX12_readsLine_141 rfl rfl (fun c37 => ?_) (fun c37 => ?_)
    · have hw := hw.1 c37
      exact t_X12_readsLine_150 hL   hw 
    · have hw := hw.2 c37
      refine X_weak (ls' := [.ref 92, junk, junk]) (WK.s (WK.j (WK.s WK.n))) (Nat.le_of_ble_eq_true rfl) ?_
      exact t_X12_readsLine_144 hL   hw 
def w_X12_readsLine_114 (L : Lay)   (v1 : Int32) (M : Mem) (Q : Int32 → Mem → Prop) : Prop := ((v1 = (4 : Int32) → ((((mi M 133 25) < 0 → (w_X12_readsLine_129 L   v1 M Q)) ∧ (¬ (mi M 133 25) < 0 → (w_X12_readsLine_144 L    M Q))))) ∧ (¬ v1 = (4 : Int32) → (w_X12_readsLine_129 L   v1 M Q)))
set_option maxRecDepth 20000 in
theorem t_X12_readsLine_114 {L : Lay} (hL : LY L)    {v1 : Int32}  {M : Mem} {Q : Int32 → Mem → Prop} (hw : w_X12_readsLine_114 L   v1 M Q)  : X (FM (QZ L Q)) RX12 cX12_readsLine (some .boolean) 3 "readsLine" 4 0 0 (L, M) 114 [.ref 92, .int v1, junk] [] := by
  unfold w_X12_readsLine_114 at hw
  refine X_iload_n 115 dX12_readsLine_114 rfl rfl ?_
  refine X_iconst 116 (v := 4) dX12_readsLine_115 rfl rfl ?_
  refine X_icmp_ne 129 119 dX12_readsLine_116 rfl rfl (fun c26 => ?_) (fun c26 => ?_)
  · have hw := hw.2 c26
    exact t_X12_readsLine_129 hL   hw 
  · have hw := hw.1 c26
    refine X_aload_n 120 dX12_readsLine_119 rfl rfl ?_
    refine X_getR 123 f_X12_131 (hL.ob (c := 12) (by decide) rfl) rfl (hL.rr (by decide) rfl) dX12_readsLine_120 rfl ?_
    refine X_bipush 125 (v := 25) dX12_readsLine_123 rfl rfl ?_
    refine Y_iald 126 (k := 25) (hL.ar (t := 0) (n := 26) (by decide) rfl) (vlit (by decide)) (by decide) dX12_readsLine_125 rfl ?_
    refine X_if_ge 144 129 (y := 0) dX12_readsLine_126 rfl rfl (fun c27 => ?_) (fun c27 => ?_)
    · have hw := hw.2 c27
      refine X_weak (ls' := [.ref 92, junk, junk]) (WK.s (WK.j (WK.s WK.n))) (Nat.le_of_ble_eq_true rfl) ?_
      exact t_X12_readsLine_144 hL   hw 
    · have hw := hw.1 c27
      exact t_X12_readsLine_129 hL   hw 
def w_X12_readsLine_85 (L : Lay)   (y0 : Int32) (M : Mem) (Q : Int32 → Mem → Prop) : Prop := ((y0 < 0 → (w_X12_fails L (1 : Int32) M (fun x35 M34 => (Q x35 M34)))) ∧ (¬ y0 < 0 → (((y0 < (3 : Int32) → (vp_in ((275 : Int32) + y0) 286 ∧ ((((mi M 130 (tn ((275 : Int32) + y0))) < 0 → (w_X12_readsLine_114 L   y0 M Q)) ∧ (¬ (mi M 130 (tn ((275 : Int32) + y0))) < 0 → (w_X12_readsLine_144 L    M Q)))))) ∧ (¬ y0 < (3 : Int32) → (w_X12_readsLine_114 L   y0 M Q))))))
set_option maxRecDepth 20000 in
theorem t_X12_readsLine_85 {L : Lay} (hL : LY L)    {y0 : Int32}  {M : Mem} {Q : Int32 → Mem → Prop} (hw : w_X12_readsLine_85 L   y0 M Q)  : X (FM (QZ L Q)) RX12 cX12_readsLine (some .boolean) 3 "readsLine" 4 0 0 (L, M) 85 [.ref 92, junk, junk] [.int y0] := by
  unfold w_X12_readsLine_85 at hw
  refine X_istore_n 86 (ls' := [.ref 92, .int y0, junk]) dX12_readsLine_85 rfl rfl (Nat.le_of_ble_eq_true rfl) rfl (Or.inr (Or.inr ⟨_, rfl, rfl⟩)) ?_
  refine X_iload_n 87 dX12_readsLine_86 rfl rfl ?_
  refine X_if_ge 96 90 (y := 0) dX12_readsLine_87 rfl rfl (fun c30 => ?_) (fun c30 => ?_)
  · have hw := hw.2 c30
    refine X_iload_n 97 dX12_readsLine_96 rfl rfl ?_
    refine X_iconst 98 (v := 3) dX12_readsLine_97 rfl rfl ?_
    refine X_icmp_ge 114 101 dX12_readsLine_98 rfl rfl (fun c31 => ?_) (fun c31 => ?_)
    · have hw := hw.2 c31
      exact t_X12_readsLine_114 hL   hw 
    · have hw := hw.1 c31
      refine X_aload_n 102 dX12_readsLine_101 rfl rfl ?_
      refine X_getR 105 f_X12_122 (hL.ob (c := 12) (by decide) rfl) rfl (hL.rr (by decide) rfl) dX12_readsLine_102 rfl ?_
      refine X_sipush 108 (v := 275) dX12_readsLine_105 rfl rfl ?_
      refine X_iload_n 109 dX12_readsLine_108 rfl rfl ?_
      refine X_iadd 110 dX12_readsLine_109 rfl ?_
      obtain ⟨c32, hw⟩ := hw
      refine Y_iald 111 (k := (tn ((275 : Int32) + y0))) (hL.ar (t := 0) (n := 286) (by decide) rfl) c32 rfl dX12_readsLine_110 rfl ?_
      refine X_if_ge 144 114 (y := 0) dX12_readsLine_111 rfl rfl (fun c33 => ?_) (fun c33 => ?_)
      · have hw := hw.2 c33
        refine X_weak (ls' := [.ref 92, junk, junk]) (WK.s (WK.j (WK.s WK.n))) (Nat.le_of_ble_eq_true rfl) ?_
        exact t_X12_readsLine_144 hL   hw 
      · have hw := hw.1 c33
        exact t_X12_readsLine_114 hL   hw 
  · have hw := hw.1 c30
    refine X_aload_n 91 dX12_readsLine_90 rfl rfl ?_
    refine X_iconst 92 (v := 1) dX12_readsLine_91 rfl rfl ?_
    refine Y_cVZ 95 (as := [.int (1 : Int32)]) m_X12_275 (s_X12_fails hL  hw) (hL.ob (c := 12) (by decide) rfl) rfl (by decide) (Nat.le_of_ble_eq_true rfl) dX12_readsLine_92 rfl rfl (fun x35 M34 bx35 hw => ?_)
    exact X_ret rfl (nar_bool (bx35)) dX12_readsLine_95 ⟨_, _, rfl, bx35, rfl, hw⟩
def w_X12_readsLine (L : Lay)  (M : Mem) (Q : Int32 → Mem → Prop) : Prop := w_X12_isWord L (332864552 : Int64) M (fun x2 M1 => (((x2 = 0 → (w_X12_isWord L (5171369 : Int64) M1 (fun x5 M4 => (((x5 = 0 → (w_X12_isWord L (125042 : Int64) M4 (fun x8 M7 => (((x8 = 0 → (w_X12_isWord L (119163 : Int64) M7 (fun x11 M10 => (((x11 = 0 → (w_X12_isWord L (9678763 : Int64) M10 (fun x14 M13 => (((x14 = 0 → (w_X12_isWord L (1503 : Int64) M13 (fun x17 M16 => (∀ x18 : Int32, x18 = (if x17 = 0 then (-1 : Int32) else (5 : Int32)) → (((x18 < 0 → (w_X12_fails L (1 : Int32) M16 (fun x24 M23 => (Q x24 M23)))) ∧ (¬ x18 < 0 → (((x18 < (3 : Int32) → (vp_in ((275 : Int32) + x18) 286 ∧ ((((mi M16 130 (tn ((275 : Int32) + x18))) < 0 → (w_X12_readsLine_114 L   x18 M16 Q)) ∧ (¬ (mi M16 130 (tn ((275 : Int32) + x18))) < 0 → (w_X12_readsLine_144 L    M16 Q)))))) ∧ (¬ x18 < (3 : Int32) → (w_X12_readsLine_114 L   x18 M16 Q))))))))))) ∧ (¬ x14 = 0 → (w_X12_readsLine_85 L   (4 : Int32) M13 Q))))))) ∧ (¬ x11 = 0 → (w_X12_readsLine_85 L   (3 : Int32) M10 Q))))))) ∧ (¬ x8 = 0 → (w_X12_readsLine_85 L   (2 : Int32) M7 Q))))))) ∧ (¬ x5 = 0 → (w_X12_readsLine_85 L   (1 : Int32) M4 Q))))))) ∧ (¬ x2 = 0 → (w_X12_readsLine_85 L   (0 : Int32) M1 Q)))))
set_option maxRecDepth 20000 in
theorem s_X12_readsLine {L : Lay} (hL : LY L)   {M : Mem} {Q : Int32 → Mem → Prop} (hw : w_X12_readsLine L  M Q) : MX yX12_readsLine cX12_readsLine (some .boolean) 3 4 0 0 [.ref 92] (L, M) (QZ L Q) := by
  unfold w_X12_readsLine at hw
  refine MX_of (by decide) [.ref 92, junk, junk] (by rfl) (by exact Nat.le_of_ble_eq_true rfl) ?_
  show X (FM (QZ L Q)) RX12 cX12_readsLine (some .boolean) 3 "readsLine" 4 0 0 (L, M) 0 [.ref 92, junk, junk] []
  refine X_aload_n 1 dX12_readsLine_0 rfl rfl ?_
  refine X_ldc2 4 dX12_readsLine_1 rfl k_X12_330 ?_
  refine Y_cVZ 7 (as := [.long (332864552 : Int64)]) m_X12_318 (s_X12_isWord hL  hw) (hL.ob (c := 12) (by decide) rfl) rfl (by decide) (Nat.le_of_ble_eq_true rfl) dX12_readsLine_4 rfl rfl (fun x2 M1 bx2 hw => ?_)
  refine X_if_eq 14 10 (y := 0) dX12_readsLine_7 rfl rfl (fun c3 => ?_) (fun c3 => ?_)
  · have hw := hw.1 c3
    refine X_aload_n 15 dX12_readsLine_14 rfl rfl ?_
    refine X_ldc2 18 dX12_readsLine_15 rfl k_X12_332 ?_
    refine Y_cVZ 21 (as := [.long (5171369 : Int64)]) m_X12_318 (s_X12_isWord hL  hw) (hL.ob (c := 12) (by decide) rfl) rfl (by decide) (Nat.le_of_ble_eq_true rfl) dX12_readsLine_18 rfl rfl (fun x5 M4 bx5 hw => ?_)
    refine X_if_eq 28 24 (y := 0) dX12_readsLine_21 rfl rfl (fun c6 => ?_) (fun c6 => ?_)
    · have hw := hw.1 c6
      refine X_aload_n 29 dX12_readsLine_28 rfl rfl ?_
      refine X_ldc2 32 dX12_readsLine_29 rfl k_X12_334 ?_
      refine Y_cVZ 35 (as := [.long (125042 : Int64)]) m_X12_318 (s_X12_isWord hL  hw) (hL.ob (c := 12) (by decide) rfl) rfl (by decide) (Nat.le_of_ble_eq_true rfl) dX12_readsLine_32 rfl rfl (fun x8 M7 bx8 hw => ?_)
      refine X_if_eq 42 38 (y := 0) dX12_readsLine_35 rfl rfl (fun c9 => ?_) (fun c9 => ?_)
      · have hw := hw.1 c9
        refine X_aload_n 43 dX12_readsLine_42 rfl rfl ?_
        refine X_ldc2 46 dX12_readsLine_43 rfl k_X12_336 ?_
        refine Y_cVZ 49 (as := [.long (119163 : Int64)]) m_X12_318 (s_X12_isWord hL  hw) (hL.ob (c := 12) (by decide) rfl) rfl (by decide) (Nat.le_of_ble_eq_true rfl) dX12_readsLine_46 rfl rfl (fun x11 M10 bx11 hw => ?_)
        refine X_if_eq 56 52 (y := 0) dX12_readsLine_49 rfl rfl (fun c12 => ?_) (fun c12 => ?_)
        · have hw := hw.1 c12
          refine X_aload_n 57 dX12_readsLine_56 rfl rfl ?_
          refine X_ldc2 60 dX12_readsLine_57 rfl k_X12_338 ?_
          refine Y_cVZ 63 (as := [.long (9678763 : Int64)]) m_X12_318 (s_X12_isWord hL  hw) (hL.ob (c := 12) (by decide) rfl) rfl (by decide) (Nat.le_of_ble_eq_true rfl) dX12_readsLine_60 rfl rfl (fun x14 M13 bx14 hw => ?_)
          refine X_if_eq 70 66 (y := 0) dX12_readsLine_63 rfl rfl (fun c15 => ?_) (fun c15 => ?_)
          · have hw := hw.1 c15
            refine X_aload_n 71 dX12_readsLine_70 rfl rfl ?_
            refine X_ldc2 74 dX12_readsLine_71 rfl k_X12_340 ?_
            refine Y_cVZ 77 (as := [.long (1503 : Int64)]) m_X12_318 (s_X12_isWord hL  hw) (hL.ob (c := 12) (by decide) rfl) rfl (by decide) (Nat.le_of_ble_eq_true rfl) dX12_readsLine_74 rfl rfl (fun x17 M16 bx17 hw => ?_)
            obtain ⟨x18, ex18⟩ : ∃ x18 : Int32, x18 = (if x17 = 0 then (-1 : Int32) else (5 : Int32)) := ⟨_, rfl⟩
            have hw := hw x18 ex18
            have hJ : X (FM (QZ L Q)) RX12 cX12_readsLine (some .boolean) 3 "readsLine" 4 0 0 (L, M16) 85 [.ref 92, junk, junk] [.int x18] := by
              refine X_istore_n 86 (ls' := [.ref 92, .int x18, junk]) dX12_readsLine_85 rfl rfl (Nat.le_of_ble_eq_true rfl) rfl (Or.inr (Or.inr ⟨_, rfl, rfl⟩)) ?_
              refine X_iload_n 87 dX12_readsLine_86 rfl rfl ?_
              refine X_if_ge 96 90 (y := 0) dX12_readsLine_87 rfl rfl (fun c19 => ?_) (fun c19 => ?_)
              · have hw := hw.2 c19
                refine X_iload_n 97 dX12_readsLine_96 rfl rfl ?_
                refine X_iconst 98 (v := 3) dX12_readsLine_97 rfl rfl ?_
                refine X_icmp_ge 114 101 dX12_readsLine_98 rfl rfl (fun c20 => ?_) (fun c20 => ?_)
                · have hw := hw.2 c20
                  exact t_X12_readsLine_114 hL   hw 
                · have hw := hw.1 c20
                  refine X_aload_n 102 dX12_readsLine_101 rfl rfl ?_
                  refine X_getR 105 f_X12_122 (hL.ob (c := 12) (by decide) rfl) rfl (hL.rr (by decide) rfl) dX12_readsLine_102 rfl ?_
                  refine X_sipush 108 (v := 275) dX12_readsLine_105 rfl rfl ?_
                  refine X_iload_n 109 dX12_readsLine_108 rfl rfl ?_
                  refine X_iadd 110 dX12_readsLine_109 rfl ?_
                  obtain ⟨c21, hw⟩ := hw
                  refine Y_iald 111 (k := (tn ((275 : Int32) + x18))) (hL.ar (t := 0) (n := 286) (by decide) rfl) c21 rfl dX12_readsLine_110 rfl ?_
                  refine X_if_ge 144 114 (y := 0) dX12_readsLine_111 rfl rfl (fun c22 => ?_) (fun c22 => ?_)
                  · have hw := hw.2 c22
                    refine X_weak (ls' := [.ref 92, junk, junk]) (WK.s (WK.j (WK.s WK.n))) (Nat.le_of_ble_eq_true rfl) ?_
                    exact t_X12_readsLine_144 hL   hw 
                  · have hw := hw.1 c22
                    exact t_X12_readsLine_114 hL   hw 
              · have hw := hw.1 c19
                refine X_aload_n 91 dX12_readsLine_90 rfl rfl ?_
                refine X_iconst 92 (v := 1) dX12_readsLine_91 rfl rfl ?_
                refine Y_cVZ 95 (as := [.int (1 : Int32)]) m_X12_275 (s_X12_fails hL  hw) (hL.ob (c := 12) (by decide) rfl) rfl (by decide) (Nat.le_of_ble_eq_true rfl) dX12_readsLine_92 rfl rfl (fun x24 M23 bx24 hw => ?_)
                exact X_ret rfl (nar_bool (bx24)) dX12_readsLine_95 ⟨_, _, rfl, bx24, rfl, hw⟩
            refine X_if_eq 84 80 (y := 0) dX12_readsLine_77 rfl rfl (fun c25 => ?_) (fun c25 => ?_)
            · refine X_iconst 85 (v := -1) dX12_readsLine_84 rfl rfl ?_
              rw [if_pos c25] at ex18
              rw [ex18] at hJ
              exact hJ
            · refine X_iconst 81 (v := 5) dX12_readsLine_80 rfl rfl ?_
              refine X_goto 85 dX12_readsLine_81 rfl ?_
              rw [if_neg c25] at ex18
              rw [ex18] at hJ
              exact hJ
          · have hw := hw.2 c15
            refine X_iconst 67 (v := 4) dX12_readsLine_66 rfl rfl ?_
            refine X_goto 85 dX12_readsLine_67 rfl ?_
            exact t_X12_readsLine_85 hL   hw 
        · have hw := hw.2 c12
          refine X_iconst 53 (v := 3) dX12_readsLine_52 rfl rfl ?_
          refine X_goto 85 dX12_readsLine_53 rfl ?_
          exact t_X12_readsLine_85 hL   hw 
      · have hw := hw.2 c9
        refine X_iconst 39 (v := 2) dX12_readsLine_38 rfl rfl ?_
        refine X_goto 85 dX12_readsLine_39 rfl ?_
        exact t_X12_readsLine_85 hL   hw 
    · have hw := hw.2 c6
      refine X_iconst 25 (v := 1) dX12_readsLine_24 rfl rfl ?_
      refine X_goto 85 dX12_readsLine_25 rfl ?_
      exact t_X12_readsLine_85 hL   hw 
  · have hw := hw.2 c3
    refine X_iconst 11 (v := 0) dX12_readsLine_10 rfl rfl ?_
    refine X_goto 85 dX12_readsLine_11 rfl ?_
    exact t_X12_readsLine_85 hL   hw 
def w_X12_copies_128 (L : Lay) (p0 : Int32) (p1 : Int32) (K128 : Int32 → Mem → Prop) (v4 : Int32) (M : Mem) (Q : Mem → Prop) : Prop := ((v4 < (1000 : Int32) → (vp_in (((1000 : Int32) * p0) + v4) 26000 ∧ (vp_in (((1000 : Int32) * p1) + v4) 26000 ∧ (∀ M19 : Mem, M19 = si M 135 (tn (((1000 : Int32) * p1) + v4)) (mi M 135 (tn (((1000 : Int32) * p0) + v4))) → (∀ x20 : Int32, x20 = v4 + (1 : Int32) → (K128 x20 M19)))))) ∧ (¬ v4 < (1000 : Int32) → (Q M)))
set_option maxRecDepth 20000 in
theorem t_X12_copies_128 {L : Lay} (hL : LY L) {p0 : Int32} {p1 : Int32}  {K128 : Int32 → Mem → Prop} {v4 : Int32}  {M : Mem} {Q : Mem → Prop} (hw : w_X12_copies_128 L p0 p1 K128 v4 M Q) (hK128 : ∀ (v4 : Int32) (M : Mem), K128 v4 M → X (FM (QV L Q)) RX12 cX12_copies none 6 "copies" 1 0 0 (L, M) 128 [.ref 92, .int p0, .int p1, junk, .int v4, junk] []) : X (FM (QV L Q)) RX12 cX12_copies none 6 "copies" 1 0 0 (L, M) 128 [.ref 92, .int p0, .int p1, junk, .int v4, junk] [] := by
  unfold w_X12_copies_128 at hw
  refine X_iload 130 dX12_copies_128 rfl rfl ?_
  refine X_sipush 133 (v := 1000) dX12_copies_130 rfl rfl ?_
  refine X_icmp_ge 168 136 dX12_copies_133 rfl rfl (fun c16 => ?_) (fun c16 => ?_)
  · have hw := hw.2 c16
    exact X_retV rfl dX12_copies_168 ⟨_, rfl, rfl, hw⟩
  · have hw := hw.1 c16
    refine X_aload_n 137 dX12_copies_136 rfl rfl ?_
    refine X_getR 140 f_X12_137 (hL.ob (c := 12) (by decide) rfl) rfl (hL.rr (by decide) rfl) dX12_copies_137 rfl ?_
    refine X_sipush 143 (v := 1000) dX12_copies_140 rfl rfl ?_
    refine X_iload_n 144 dX12_copies_143 rfl rfl ?_
    refine X_imul 145 dX12_copies_144 rfl ?_
    refine X_iload 147 dX12_copies_145 rfl rfl ?_
    refine X_iadd 148 dX12_copies_147 rfl ?_
    refine X_aload_n 149 dX12_copies_148 rfl rfl ?_
    refine X_getR 152 f_X12_137 (hL.ob (c := 12) (by decide) rfl) rfl (hL.rr (by decide) rfl) dX12_copies_149 rfl ?_
    refine X_sipush 155 (v := 1000) dX12_copies_152 rfl rfl ?_
    refine X_iload_n 156 dX12_copies_155 rfl rfl ?_
    refine X_imul 157 dX12_copies_156 rfl ?_
    refine X_iload 159 dX12_copies_157 rfl rfl ?_
    refine X_iadd 160 dX12_copies_159 rfl ?_
    obtain ⟨c17, hw⟩ := hw
    refine Y_iald 161 (k := (tn (((1000 : Int32) * p0) + v4))) (hL.ar (t := 0) (n := 26000) (by decide) rfl) c17 rfl dX12_copies_160 rfl ?_
    obtain ⟨c18, hw⟩ := hw
    refine Y_iast 162 (k := (tn (((1000 : Int32) * p1) + v4))) (hL.ar (t := 0) (n := 26000) (by decide) rfl) c18 rfl dX12_copies_161 rfl ?_
    refine X_nmM (fun M19 eM19 => ?_)
    have hw := hw M19 eM19
    obtain ⟨x20, ex20⟩ : ∃ x20 : Int32, x20 = v4 + (1 : Int32) := ⟨_, rfl⟩
    have hw := hw x20 ex20
    refine X_iinc 165 (v := x20) (ls' := [.ref 92, .int p0, .int p1, junk, .int x20, junk]) dX12_copies_162 rfl rfl (by rw [ex20]; rfl) rfl (Or.inr (Or.inl rfl)) ?_
    refine X_goto 128 dX12_copies_165 rfl ?_
    exact hK128 x20 M19 hw
def w_X12_copies_11 (L : Lay) (p0 : Int32) (p1 : Int32) (K11 : Int32 → Int32 → Mem → Prop) (v3 : Int32) (v4 : Int32) (M : Mem) (Q : Mem → Prop) : Prop := ((v4 < (11 : Int32) → (vp_in (((11 : Int32) * p0) + v4) 286 ∧ (∀ x9 : Int32, x9 = (mi M 130 (tn (((11 : Int32) * p0) + v4))) → (∀ x10 : Int32, x10 = (if x9 < 0 then (-1 : Int32) else (x9 + v3)) → (vp_in (((11 : Int32) * p1) + v4) 286 ∧ (∀ M12 : Mem, M12 = si M 130 (tn (((11 : Int32) * p1) + v4)) x10 → (∀ M13 : Mem, M13 = si M12 131 (tn (((11 : Int32) * p1) + v4)) ((mi M12 131 (tn (((11 : Int32) * p0) + v4))) + v3) → (∀ x14 : Int32, x14 = v4 + (1 : Int32) → (K11 v3 x14 M13))))))))) ∧ (¬ v4 < (11 : Int32) → (vp_in p0 26 ∧ (vp_in p1 26 ∧ (∀ M5 : Mem, M5 = si M 132 (tn p1) (mi M 132 (tn p0)) → (∀ M6 : Mem, M6 = si M5 133 (tn p1) (mi M5 133 (tn p0)) → (∀ M7 : Mem, M7 = si M6 134 (tn p1) (mi M6 134 (tn p0)) → (LP2 (fun K128 v4 M => w_X12_copies_128 L p0 p1  K128 v4 M Q) (0 : Int32) M7))))))))
set_option maxRecDepth 20000 in
theorem t_X12_copies_11 {L : Lay} (hL : LY L) {p0 : Int32} {p1 : Int32}  {K11 : Int32 → Int32 → Mem → Prop} {v3 : Int32} {v4 : Int32}  {M : Mem} {Q : Mem → Prop} (hw : w_X12_copies_11 L p0 p1 K11 v3 v4 M Q) (hK11 : ∀ (v3 : Int32) (v4 : Int32) (M : Mem), K11 v3 v4 M → X (FM (QV L Q)) RX12 cX12_copies none 6 "copies" 1 0 0 (L, M) 11 [.ref 92, .int p0, .int p1, .int v3, .int v4, junk] []) : X (FM (QV L Q)) RX12 cX12_copies none 6 "copies" 1 0 0 (L, M) 11 [.ref 92, .int p0, .int p1, .int v3, .int v4, junk] [] := by
  unfold w_X12_copies_11 at hw
  refine X_iload 13 dX12_copies_11 rfl rfl ?_
  refine X_bipush 15 (v := 11) dX12_copies_13 rfl rfl ?_
  refine X_icmp_ge 89 18 dX12_copies_15 rfl rfl (fun c2 => ?_) (fun c2 => ?_)
  · have hw := hw.2 c2
    refine X_aload_n 90 dX12_copies_89 rfl rfl ?_
    refine X_getR 93 f_X12_128 (hL.ob (c := 12) (by decide) rfl) rfl (hL.rr (by decide) rfl) dX12_copies_90 rfl ?_
    refine X_iload_n 94 dX12_copies_93 rfl rfl ?_
    refine X_aload_n 95 dX12_copies_94 rfl rfl ?_
    refine X_getR 98 f_X12_128 (hL.ob (c := 12) (by decide) rfl) rfl (hL.rr (by decide) rfl) dX12_copies_95 rfl ?_
    refine X_iload_n 99 dX12_copies_98 rfl rfl ?_
    obtain ⟨c3, hw⟩ := hw
    refine Y_iald 100 (k := (tn p0)) (hL.ar (t := 0) (n := 26) (by decide) rfl) c3 rfl dX12_copies_99 rfl ?_
    obtain ⟨c4, hw⟩ := hw
    refine Y_iast 101 (k := (tn p1)) (hL.ar (t := 0) (n := 26) (by decide) rfl) c4 rfl dX12_copies_100 rfl ?_
    refine X_nmM (fun M5 eM5 => ?_)
    have hw := hw M5 eM5
    refine X_aload_n 102 dX12_copies_101 rfl rfl ?_
    refine X_getR 105 f_X12_131 (hL.ob (c := 12) (by decide) rfl) rfl (hL.rr (by decide) rfl) dX12_copies_102 rfl ?_
    refine X_iload_n 106 dX12_copies_105 rfl rfl ?_
    refine X_aload_n 107 dX12_copies_106 rfl rfl ?_
    refine X_getR 110 f_X12_131 (hL.ob (c := 12) (by decide) rfl) rfl (hL.rr (by decide) rfl) dX12_copies_107 rfl ?_
    refine X_iload_n 111 dX12_copies_110 rfl rfl ?_
    refine Y_iald 112 (k := (tn p0)) (hL.ar (t := 0) (n := 26) (by decide) rfl) c3 rfl dX12_copies_111 rfl ?_
    refine Y_iast 113 (k := (tn p1)) (hL.ar (t := 0) (n := 26) (by decide) rfl) c4 rfl dX12_copies_112 rfl ?_
    refine X_nmM (fun M6 eM6 => ?_)
    have hw := hw M6 eM6
    refine X_aload_n 114 dX12_copies_113 rfl rfl ?_
    refine X_getR 117 f_X12_134 (hL.ob (c := 12) (by decide) rfl) rfl (hL.rr (by decide) rfl) dX12_copies_114 rfl ?_
    refine X_iload_n 118 dX12_copies_117 rfl rfl ?_
    refine X_aload_n 119 dX12_copies_118 rfl rfl ?_
    refine X_getR 122 f_X12_134 (hL.ob (c := 12) (by decide) rfl) rfl (hL.rr (by decide) rfl) dX12_copies_119 rfl ?_
    refine X_iload_n 123 dX12_copies_122 rfl rfl ?_
    refine Y_iald 124 (k := (tn p0)) (hL.ar (t := 0) (n := 26) (by decide) rfl) c3 rfl dX12_copies_123 rfl ?_
    refine Y_iast 125 (k := (tn p1)) (hL.ar (t := 0) (n := 26) (by decide) rfl) c4 rfl dX12_copies_124 rfl ?_
    refine X_nmM (fun M7 eM7 => ?_)
    have hw := hw M7 eM7
    refine X_iconst 126 (v := 0) dX12_copies_125 rfl rfl ?_
    refine X_istore 128 (ls' := [.ref 92, .int p0, .int p1, .int v3, .int (0 : Int32), junk]) dX12_copies_126 rfl (Nat.le_of_ble_eq_true rfl) rfl (Or.inr (Or.inr ⟨_, rfl, rfl⟩)) ?_
    refine X_weak (ls' := [.ref 92, .int p0, .int p1, junk, .int (0 : Int32), junk]) (WK.s (WK.s (WK.s (WK.j (WK.s (WK.s WK.n)))))) (Nat.le_of_ble_eq_true rfl) ?_
    exact LP2_s hw (G := fun v4 M => X (FM (QV L Q)) RX12 cX12_copies none 6 "copies" 1 0 0 (L, M) 128 [.ref 92, .int p0, .int p1, junk, .int v4, junk] []) (fun K128 v4 M hb hK => t_X12_copies_128 hL  hb  hK)
  · have hw := hw.1 c2
    refine X_aload_n 19 dX12_copies_18 rfl rfl ?_
    refine X_getR 22 f_X12_122 (hL.ob (c := 12) (by decide) rfl) rfl (hL.rr (by decide) rfl) dX12_copies_19 rfl ?_
    refine X_bipush 24 (v := 11) dX12_copies_22 rfl rfl ?_
    refine X_iload_n 25 dX12_copies_24 rfl rfl ?_
    refine X_imul 26 dX12_copies_25 rfl ?_
    refine X_iload 28 dX12_copies_26 rfl rfl ?_
    refine X_iadd 29 dX12_copies_28 rfl ?_
    obtain ⟨c8, hw⟩ := hw
    refine Y_iald 30 (k := (tn (((11 : Int32) * p0) + v4))) (hL.ar (t := 0) (n := 286) (by decide) rfl) c8 rfl dX12_copies_29 rfl ?_
    refine X_nmI (fun x9 ex9 => ?_)
    have hw := hw x9 ex9
    refine X_istore 32 (ls' := [.ref 92, .int p0, .int p1, .int v3, .int v4, .int x9]) dX12_copies_30 rfl (Nat.le_of_ble_eq_true rfl) rfl (Or.inr (Or.inr ⟨_, rfl, rfl⟩)) ?_
    refine X_aload_n 33 dX12_copies_32 rfl rfl ?_
    refine X_getR 36 f_X12_122 (hL.ob (c := 12) (by decide) rfl) rfl (hL.rr (by decide) rfl) dX12_copies_33 rfl ?_
    refine X_bipush 38 (v := 11) dX12_copies_36 rfl rfl ?_
    refine X_iload_n 39 dX12_copies_38 rfl rfl ?_
    refine X_imul 40 dX12_copies_39 rfl ?_
    refine X_iload 42 dX12_copies_40 rfl rfl ?_
    refine X_iadd 43 dX12_copies_42 rfl ?_
    refine X_iload 45 dX12_copies_43 rfl rfl ?_
    obtain ⟨x10, ex10⟩ : ∃ x10 : Int32, x10 = (if x9 < 0 then (-1 : Int32) else (x9 + v3)) := ⟨_, rfl⟩
    have hw := hw x10 ex10
    have hJ : X (FM (QV L Q)) RX12 cX12_copies none 6 "copies" 1 0 0 (L, M) 56 [.ref 92, .int p0, .int p1, .int v3, .int v4, .int x9] [.int x10, .int ((((11 : Int32) * p1) + v4)), .ref 130] := by
      obtain ⟨c11, hw⟩ := hw
      refine Y_iast 57 (k := (tn (((11 : Int32) * p1) + v4))) (hL.ar (t := 0) (n := 286) (by decide) rfl) c11 rfl dX12_copies_56 rfl ?_
      refine X_nmM (fun M12 eM12 => ?_)
      have hw := hw M12 eM12
      refine X_aload_n 58 dX12_copies_57 rfl rfl ?_
      refine X_getR 61 f_X12_125 (hL.ob (c := 12) (by decide) rfl) rfl (hL.rr (by decide) rfl) dX12_copies_58 rfl ?_
      refine X_bipush 63 (v := 11) dX12_copies_61 rfl rfl ?_
      refine X_iload_n 64 dX12_copies_63 rfl rfl ?_
      refine X_imul 65 dX12_copies_64 rfl ?_
      refine X_iload 67 dX12_copies_65 rfl rfl ?_
      refine X_iadd 68 dX12_copies_67 rfl ?_
      refine X_aload_n 69 dX12_copies_68 rfl rfl ?_
      refine X_getR 72 f_X12_125 (hL.ob (c := 12) (by decide) rfl) rfl (hL.rr (by decide) rfl) dX12_copies_69 rfl ?_
      refine X_bipush 74 (v := 11) dX12_copies_72 rfl rfl ?_
      refine X_iload_n 75 dX12_copies_74 rfl rfl ?_
      refine X_imul 76 dX12_copies_75 rfl ?_
      refine X_iload 78 dX12_copies_76 rfl rfl ?_
      refine X_iadd 79 dX12_copies_78 rfl ?_
      refine Y_iald 80 (k := (tn (((11 : Int32) * p0) + v4))) (hL.ar (t := 0) (n := 286) (by decide) rfl) c8 rfl dX12_copies_79 rfl ?_
      refine X_iload_n 81 dX12_copies_80 rfl rfl ?_
      refine X_iadd 82 dX12_copies_81 rfl ?_
      refine Y_iast 83 (k := (tn (((11 : Int32) * p1) + v4))) (hL.ar (t := 0) (n := 286) (by decide) rfl) c11 rfl dX12_copies_82 rfl ?_
      refine X_nmM (fun M13 eM13 => ?_)
      have hw := hw M13 eM13
      obtain ⟨x14, ex14⟩ : ∃ x14 : Int32, x14 = v4 + (1 : Int32) := ⟨_, rfl⟩
      have hw := hw x14 ex14
      refine X_iinc 86 (v := x14) (ls' := [.ref 92, .int p0, .int p1, .int v3, .int x14, .int x9]) dX12_copies_83 rfl rfl (by rw [ex14]; rfl) rfl (Or.inr (Or.inr ⟨_, rfl, rfl⟩)) ?_
      refine X_goto 11 dX12_copies_86 rfl ?_
      refine X_weak (ls' := [.ref 92, .int p0, .int p1, .int v3, .int x14, junk]) (WK.s (WK.s (WK.s (WK.s (WK.s (WK.j WK.n)))))) (Nat.le_of_ble_eq_true rfl) ?_
      exact hK11 v3 x14 M13 hw
    refine X_if_ge 52 48 (y := 0) dX12_copies_45 rfl rfl (fun c15 => ?_) (fun c15 => ?_)
    · refine X_iload 54 dX12_copies_52 rfl rfl ?_
      refine X_iload_n 55 dX12_copies_54 rfl rfl ?_
      refine X_iadd 56 dX12_copies_55 rfl ?_
      rw [if_neg c15] at ex10
      rw [ex10] at hJ
      exact hJ
    · refine X_iconst 49 (v := -1) dX12_copies_48 rfl rfl ?_
      refine X_goto 56 dX12_copies_49 rfl ?_
      rw [if_pos c15] at ex10
      rw [ex10] at hJ
      exact hJ
def w_X12_copies (L : Lay) (p0 : Int32) (p1 : Int32) (M : Mem) (Q : Mem → Prop) : Prop := ∀ x1 : Int32, x1 = ((1000 : Int32) * (p1 - p0)) → (LP3 (fun K11 v3 v4 M => w_X12_copies_11 L p0 p1  K11 v3 v4 M Q) x1 (0 : Int32) M)
set_option maxRecDepth 20000 in
theorem s_X12_copies {L : Lay} (hL : LY L) {p0 : Int32} {p1 : Int32}  {M : Mem} {Q : Mem → Prop} (hw : w_X12_copies L p0 p1 M Q) : MX yX12_copies cX12_copies none 6 1 0 0 [.ref 92, .int p0, .int p1] (L, M) (QV L Q) := by
  unfold w_X12_copies at hw
  refine MX_of (by decide) [.ref 92, .int p0, .int p1, junk, junk, junk] (by rfl) (by exact Nat.le_of_ble_eq_true rfl) ?_
  show X (FM (QV L Q)) RX12 cX12_copies none 6 "copies" 1 0 0 (L, M) 0 [.ref 92, .int p0, .int p1, junk, junk, junk] []
  refine X_sipush 3 (v := 1000) dX12_copies_0 rfl rfl ?_
  refine X_iload_n 4 dX12_copies_3 rfl rfl ?_
  refine X_iload_n 5 dX12_copies_4 rfl rfl ?_
  refine X_isub 6 dX12_copies_5 rfl ?_
  refine X_imul 7 dX12_copies_6 rfl ?_
  refine X_nmI (fun x1 ex1 => ?_)
  have hw := hw x1 ex1
  refine X_istore_n 8 (ls' := [.ref 92, .int p0, .int p1, .int x1, junk, junk]) dX12_copies_7 rfl rfl (Nat.le_of_ble_eq_true rfl) rfl (Or.inr (Or.inr ⟨_, rfl, rfl⟩)) ?_
  refine X_iconst 9 (v := 0) dX12_copies_8 rfl rfl ?_
  refine X_istore 11 (ls' := [.ref 92, .int p0, .int p1, .int x1, .int (0 : Int32), junk]) dX12_copies_9 rfl (Nat.le_of_ble_eq_true rfl) rfl (Or.inr (Or.inr ⟨_, rfl, rfl⟩)) ?_
  exact LP3_s hw (G := fun v3 v4 M => X (FM (QV L Q)) RX12 cX12_copies none 6 "copies" 1 0 0 (L, M) 11 [.ref 92, .int p0, .int p1, .int v3, .int v4, junk] []) (fun K11 v3 v4 M hb hK => t_X12_copies_11 hL  hb  hK)
def w_X12_pact_83 (L : Lay)  (K83 : Mem → Prop)  (M : Mem) (Q : Int32 → Mem → Prop) : Prop := (((mi M 92 47) = 0 → (w_X12_copies L (25 : Int32) (24 : Int32) M (fun M15 => (∀ M16 : Mem, M16 = si M15 101 0 (1 : Int32) → (Q (0 : Int32) M16))))) ∧ (¬ (mi M 92 47) = 0 → (w_X12_readsLine L  M (fun x18 M17 => (((x18 = 0 → (Q (mi M17 92 50) M17)) ∧ (¬ x18 = 0 → (K83  M17))))))))
set_option maxRecDepth 20000 in
theorem t_X12_pact_83 {L : Lay} (hL : LY L)   {K83 : Mem → Prop}   {M : Mem} {Q : Int32 → Mem → Prop} (hw : w_X12_pact_83 L  K83  M Q) (hK83 : ∀  (M : Mem), K83  M → X (FM (QI L Q)) RX12 cX12_pact (some .int) 2 "pact" 5 0 0 (L, M) 83 [.ref 92, junk] []) : X (FM (QI L Q)) RX12 cX12_pact (some .int) 2 "pact" 5 0 0 (L, M) 83 [.ref 92, junk] [] := by
  unfold w_X12_pact_83 at hw
  refine X_aload_n 84 dX12_pact_83 rfl rfl ?_
  refine X_getI 87 f_X12_258 (hL.ob (c := 12) (by decide) rfl) rfl dX12_pact_84 rfl ?_
  refine X_if_eq 102 90 (y := 0) dX12_pact_87 rfl rfl (fun c14 => ?_) (fun c14 => ?_)
  · have hw := hw.1 c14
    refine X_aload_n 103 dX12_pact_102 rfl rfl ?_
    refine X_bipush 105 (v := 25) dX12_pact_103 rfl rfl ?_
    refine X_bipush 107 (v := 24) dX12_pact_105 rfl rfl ?_
    refine Y_cVV 110 (as := [.int (25 : Int32), .int (24 : Int32)]) m_X12_356 (s_X12_copies hL  hw) (hL.ob (c := 12) (by decide) rfl) rfl (by decide) (Nat.le_of_ble_eq_true rfl) dX12_pact_107 rfl rfl (fun M15 hw => ?_)
    refine X_aload_n 111 dX12_pact_110 rfl rfl ?_
    refine X_getR 114 f_X12_34 (hL.ob (c := 12) (by decide) rfl) rfl (hL.rr (by decide) rfl) dX12_pact_111 rfl ?_
    refine X_iconst 115 (v := 0) dX12_pact_114 rfl rfl ?_
    refine X_iconst 116 (v := 1) dX12_pact_115 rfl rfl ?_
    refine Y_iast 117 (k := 0) (hL.ar (t := 0) (n := 2) (by decide) rfl) (vlit (by decide)) (by decide) dX12_pact_116 rfl ?_
    refine X_nmM (fun M16 eM16 => ?_)
    have hw := hw M16 eM16
    refine X_iconst 118 (v := 0) dX12_pact_117 rfl rfl ?_
    exact X_ret rfl rfl dX12_pact_118 ⟨_, _, rfl, rfl, hw⟩
  · have hw := hw.2 c14
    refine X_aload_n 91 dX12_pact_90 rfl rfl ?_
    refine Y_cVZ 94 (as := []) m_X12_353 (s_X12_readsLine hL  hw) (hL.ob (c := 12) (by decide) rfl) rfl (by decide) (Nat.le_of_ble_eq_true rfl) dX12_pact_91 rfl rfl (fun x18 M17 bx18 hw => ?_)
    refine X_if_ne 83 97 (y := 0) dX12_pact_94 rfl rfl (fun c19 => ?_) (fun c19 => ?_)
    · have hw := hw.2 c19
      exact hK83  M17 hw
    · have hw := hw.1 c19
      refine X_aload_n 98 dX12_pact_97 rfl rfl ?_
      refine X_getI 101 f_X12_269 (hL.ob (c := 12) (by decide) rfl) rfl dX12_pact_98 rfl ?_
      exact X_ret rfl rfl dX12_pact_101 ⟨_, _, rfl, rfl, hw⟩
def w_X12_pact_20 (L : Lay)  (K20 : Int32 → Mem → Prop) (v1 : Int32) (M : Mem) (Q : Int32 → Mem → Prop) : Prop := ((v1 < (11 : Int32) → (vp_in ((275 : Int32) + v1) 286 ∧ (∀ M12 : Mem, M12 = si M 130 (tn ((275 : Int32) + v1)) (-1 : Int32) → (∀ x13 : Int32, x13 = v1 + (1 : Int32) → (K20 x13 M12))))) ∧ (¬ v1 < (11 : Int32) → (∀ M5 : Mem, M5 = si M 132 25 (0 : Int32) → (∀ M6 : Mem, M6 = si M5 133 25 (-1 : Int32) → (∀ M7 : Mem, M7 = si M6 134 25 (-1 : Int32) → (∀ M8 : Mem, M8 = si M7 92 57 (25000 : Int32) → (∀ M9 : Mem, M9 = si M8 92 45 (0 : Int32) → (w_X12_next L  M9 (fun M10 => (LP1 (fun K83  M => w_X12_pact_83 L   K83  M Q)  M10))))))))))
set_option maxRecDepth 20000 in
theorem t_X12_pact_20 {L : Lay} (hL : LY L)   {K20 : Int32 → Mem → Prop} {v1 : Int32}  {M : Mem} {Q : Int32 → Mem → Prop} (hw : w_X12_pact_20 L  K20 v1 M Q) (hK20 : ∀ (v1 : Int32) (M : Mem), K20 v1 M → X (FM (QI L Q)) RX12 cX12_pact (some .int) 2 "pact" 5 0 0 (L, M) 20 [.ref 92, .int v1] []) : X (FM (QI L Q)) RX12 cX12_pact (some .int) 2 "pact" 5 0 0 (L, M) 20 [.ref 92, .int v1] [] := by
  unfold w_X12_pact_20 at hw
  refine X_iload_n 21 dX12_pact_20 rfl rfl ?_
  refine X_bipush 23 (v := 11) dX12_pact_21 rfl rfl ?_
  refine X_icmp_ge 43 26 dX12_pact_23 rfl rfl (fun c4 => ?_) (fun c4 => ?_)
  · have hw := hw.2 c4
    refine X_aload_n 44 dX12_pact_43 rfl rfl ?_
    refine X_getR 47 f_X12_128 (hL.ob (c := 12) (by decide) rfl) rfl (hL.rr (by decide) rfl) dX12_pact_44 rfl ?_
    refine X_bipush 49 (v := 25) dX12_pact_47 rfl rfl ?_
    refine X_iconst 50 (v := 0) dX12_pact_49 rfl rfl ?_
    refine Y_iast 51 (k := 25) (hL.ar (t := 0) (n := 26) (by decide) rfl) (vlit (by decide)) (by decide) dX12_pact_50 rfl ?_
    refine X_nmM (fun M5 eM5 => ?_)
    have hw := hw M5 eM5
    refine X_aload_n 52 dX12_pact_51 rfl rfl ?_
    refine X_getR 55 f_X12_131 (hL.ob (c := 12) (by decide) rfl) rfl (hL.rr (by decide) rfl) dX12_pact_52 rfl ?_
    refine X_bipush 57 (v := 25) dX12_pact_55 rfl rfl ?_
    refine X_iconst 58 (v := -1) dX12_pact_57 rfl rfl ?_
    refine Y_iast 59 (k := 25) (hL.ar (t := 0) (n := 26) (by decide) rfl) (vlit (by decide)) (by decide) dX12_pact_58 rfl ?_
    refine X_nmM (fun M6 eM6 => ?_)
    have hw := hw M6 eM6
    refine X_aload_n 60 dX12_pact_59 rfl rfl ?_
    refine X_getR 63 f_X12_134 (hL.ob (c := 12) (by decide) rfl) rfl (hL.rr (by decide) rfl) dX12_pact_60 rfl ?_
    refine X_bipush 65 (v := 25) dX12_pact_63 rfl rfl ?_
    refine X_iconst 66 (v := -1) dX12_pact_65 rfl rfl ?_
    refine Y_iast 67 (k := 25) (hL.ar (t := 0) (n := 26) (by decide) rfl) (vlit (by decide)) (by decide) dX12_pact_66 rfl ?_
    refine X_nmM (fun M7 eM7 => ?_)
    have hw := hw M7 eM7
    refine X_aload_n 68 dX12_pact_67 rfl rfl ?_
    refine X_sipush 71 (v := 25000) dX12_pact_68 rfl rfl ?_
    refine X_putI 74 f_X12_281 (Or.inl rfl) (hL.ob (c := 12) (by decide) rfl) rfl dX12_pact_71 rfl ?_
    refine X_nmM (fun M8 eM8 => ?_)
    have hw := hw M8 eM8
    refine X_aload_n 75 dX12_pact_74 rfl rfl ?_
    refine X_iconst 76 (v := 0) dX12_pact_75 rfl rfl ?_
    refine X_putI 79 f_X12_245 (Or.inl rfl) (hL.ob (c := 12) (by decide) rfl) rfl dX12_pact_76 rfl ?_
    refine X_nmM (fun M9 eM9 => ?_)
    have hw := hw M9 eM9
    refine X_aload_n 80 dX12_pact_79 rfl rfl ?_
    refine Y_cVV 83 (as := []) m_X12_278 (s_X12_next hL  hw) (hL.ob (c := 12) (by decide) rfl) rfl (by decide) (Nat.le_of_ble_eq_true rfl) dX12_pact_80 rfl rfl (fun M10 hw => ?_)
    refine X_weak (ls' := [.ref 92, junk]) (WK.s (WK.j WK.n)) (Nat.le_of_ble_eq_true rfl) ?_
    exact LP1_s hw (G := fun  M => X (FM (QI L Q)) RX12 cX12_pact (some .int) 2 "pact" 5 0 0 (L, M) 83 [.ref 92, junk] []) (fun K83  M hb hK => t_X12_pact_83 hL  hb  hK)
  · have hw := hw.1 c4
    refine X_aload_n 27 dX12_pact_26 rfl rfl ?_
    refine X_getR 30 f_X12_122 (hL.ob (c := 12) (by decide) rfl) rfl (hL.rr (by decide) rfl) dX12_pact_27 rfl ?_
    refine X_sipush 33 (v := 275) dX12_pact_30 rfl rfl ?_
    refine X_iload_n 34 dX12_pact_33 rfl rfl ?_
    refine X_iadd 35 dX12_pact_34 rfl ?_
    refine X_iconst 36 (v := -1) dX12_pact_35 rfl rfl ?_
    obtain ⟨c11, hw⟩ := hw
    refine Y_iast 37 (k := (tn ((275 : Int32) + v1))) (hL.ar (t := 0) (n := 286) (by decide) rfl) c11 rfl dX12_pact_36 rfl ?_
    refine X_nmM (fun M12 eM12 => ?_)
    have hw := hw M12 eM12
    obtain ⟨x13, ex13⟩ : ∃ x13 : Int32, x13 = v1 + (1 : Int32) := ⟨_, rfl⟩
    have hw := hw x13 ex13
    refine X_iinc 40 (v := x13) (ls' := [.ref 92, .int x13]) dX12_pact_37 rfl rfl (by rw [ex13]; rfl) rfl (Or.inr (Or.inr ⟨_, rfl, rfl⟩)) ?_
    refine X_goto 20 dX12_pact_40 rfl ?_
    exact hK20 x13 M12 hw
def w_X12_pact (L : Lay)  (M : Mem) (Q : Int32 → Mem → Prop) : Prop := ∀ M1 : Mem, M1 = si M 92 0 (0 : Int32) → (∀ M2 : Mem, M2 = si M1 92 44 (mi M1 92 42) → (∀ M3 : Mem, M3 = si M2 92 42 (0 : Int32) → (LP2 (fun K20 v1 M => w_X12_pact_20 L   K20 v1 M Q) (0 : Int32) M3)))
set_option maxRecDepth 20000 in
theorem s_X12_pact {L : Lay} (hL : LY L)   {M : Mem} {Q : Int32 → Mem → Prop} (hw : w_X12_pact L  M Q) : MX yX12_pact cX12_pact (some .int) 2 5 0 0 [.ref 92] (L, M) (QI L Q) := by
  unfold w_X12_pact at hw
  refine MX_of (by decide) [.ref 92, junk] (by rfl) (by exact Nat.le_of_ble_eq_true rfl) ?_
  show X (FM (QI L Q)) RX12 cX12_pact (some .int) 2 "pact" 5 0 0 (L, M) 0 [.ref 92, junk] []
  refine X_aload_n 1 dX12_pact_0 rfl rfl ?_
  refine X_iconst 2 (v := 0) dX12_pact_1 rfl rfl ?_
  refine X_putI 5 f_X12_206 (Or.inl rfl) (hL.ob (c := 12) (by decide) rfl) rfl dX12_pact_2 rfl ?_
  refine X_nmM (fun M1 eM1 => ?_)
  have hw := hw M1 eM1
  refine X_aload_n 6 dX12_pact_5 rfl rfl ?_
  refine X_aload_n 7 dX12_pact_6 rfl rfl ?_
  refine X_getI 10 f_X12_239 (hL.ob (c := 12) (by decide) rfl) rfl dX12_pact_7 rfl ?_
  refine X_putI 13 f_X12_242 (Or.inl rfl) (hL.ob (c := 12) (by decide) rfl) rfl dX12_pact_10 rfl ?_
  refine X_nmM (fun M2 eM2 => ?_)
  have hw := hw M2 eM2
  refine X_aload_n 14 dX12_pact_13 rfl rfl ?_
  refine X_iconst 15 (v := 0) dX12_pact_14 rfl rfl ?_
  refine X_putI 18 f_X12_239 (Or.inl rfl) (hL.ob (c := 12) (by decide) rfl) rfl dX12_pact_15 rfl ?_
  refine X_nmM (fun M3 eM3 => ?_)
  have hw := hw M3 eM3
  refine X_iconst 19 (v := 0) dX12_pact_18 rfl rfl ?_
  refine X_istore_n 20 (ls' := [.ref 92, .int (0 : Int32)]) dX12_pact_19 rfl rfl (Nat.le_of_ble_eq_true rfl) rfl (Or.inr (Or.inr ⟨_, rfl, rfl⟩)) ?_
  exact LP2_s hw (G := fun v1 M => X (FM (QI L Q)) RX12 cX12_pact (some .int) 2 "pact" 5 0 0 (L, M) 20 [.ref 92, .int v1] []) (fun K20 v1 M hb hK => t_X12_pact_20 hL  hb  hK)
def w_X12_law_200 (L : Lay)   (v4 : Int32) (M : Mem) (Q : Int32 → Mem → Prop) : Prop := ∀ x57 : Int32, x57 = (if v4 = 0 then (1 : Int32) else (3 : Int32)) → (w_X12_fails L x57 M (fun x59 M58 => (Q (mi M58 92 50) M58)))
set_option maxRecDepth 20000 in
theorem t_X12_law_200 {L : Lay} (hL : LY L)    {v4 : Int32}  {M : Mem} {Q : Int32 → Mem → Prop} (hw : w_X12_law_200 L   v4 M Q)  : X (FM (QI L Q)) RX12 cX12_law (some .int) 5 "law" 4 0 0 (L, M) 200 [.ref 92, junk, junk, junk, .int v4] [] := by
  unfold w_X12_law_200 at hw
  refine X_aload_n 201 dX12_law_200 rfl rfl ?_
  refine X_iload 203 dX12_law_201 rfl rfl ?_
  obtain ⟨x57, ex57⟩ : ∃ x57 : Int32, x57 = (if v4 = 0 then (1 : Int32) else (3 : Int32)) := ⟨_, rfl⟩
  have hw := hw x57 ex57
  have hJ : X (FM (QI L Q)) RX12 cX12_law (some .int) 5 "law" 4 0 0 (L, M) 211 [.ref 92, junk, junk, junk, .int v4] [.int x57, .ref 92] := by
    refine Y_cVZ 214 (as := [.int x57]) m_X12_275 (s_X12_fails hL  hw) (hL.ob (c := 12) (by decide) rfl) rfl (by decide) (Nat.le_of_ble_eq_true rfl) dX12_law_211 rfl rfl (fun x59 M58 bx59 hw => ?_)
    refine X_pop 215 dX12_law_214 rfl rfl ?_
    refine X_aload_n 216 dX12_law_215 rfl rfl ?_
    refine X_getI 219 f_X12_269 (hL.ob (c := 12) (by decide) rfl) rfl dX12_law_216 rfl ?_
    exact X_ret rfl rfl dX12_law_219 ⟨_, _, rfl, rfl, hw⟩
  refine X_if_ne 210 206 (y := 0) dX12_law_203 rfl rfl (fun c60 => ?_) (fun c60 => ?_)
  · refine X_iconst 211 (v := 3) dX12_law_210 rfl rfl ?_
    rw [if_neg c60] at ex57
    rw [ex57] at hJ
    exact hJ
  · refine X_iconst 207 (v := 1) dX12_law_206 rfl rfl ?_
    refine X_goto 211 dX12_law_207 rfl ?_
    rw [if_pos c60] at ex57
    rw [ex57] at hJ
    exact hJ
def w_X12_law_273 (L : Lay)  (K31 : Int32 → Int32 → Mem → Prop) (v1 : Int32) (v2 : Int32) (M : Mem) (Q : Int32 → Mem → Prop) : Prop := w_X12_next L  M (fun M53 => (w_X12_ends L  M53 (fun x55 M54 => (((x55 = 0 → (Q (mi M54 92 50) M54)) ∧ (¬ x55 = 0 → (K31 v1 v2 M54)))))))
set_option maxRecDepth 20000 in
theorem t_X12_law_273 {L : Lay} (hL : LY L)   {K31 : Int32 → Int32 → Mem → Prop} {v1 : Int32} {v2 : Int32}  {M : Mem} {Q : Int32 → Mem → Prop} (hw : w_X12_law_273 L  K31 v1 v2 M Q) (hK31 : ∀ (v1 : Int32) (v2 : Int32) (M : Mem), K31 v1 v2 M → X (FM (QI L Q)) RX12 cX12_law (some .int) 5 "law" 4 0 0 (L, M) 31 [.ref 92, .int v1, .int v2, junk, junk] []) : X (FM (QI L Q)) RX12 cX12_law (some .int) 5 "law" 4 0 0 (L, M) 273 [.ref 92, .int v1, .int v2, junk, junk] [] := by
  unfold w_X12_law_273 at hw
  refine X_aload_n 274 dX12_law_273 rfl rfl ?_
  refine Y_cVV 277 (as := []) m_X12_278 (s_X12_next hL  hw) (hL.ob (c := 12) (by decide) rfl) rfl (by decide) (Nat.le_of_ble_eq_true rfl) dX12_law_274 rfl rfl (fun M53 hw => ?_)
  refine X_aload_n 278 dX12_law_277 rfl rfl ?_
  refine Y_cVZ 281 (as := []) m_X12_349 (s_X12_ends hL  hw) (hL.ob (c := 12) (by decide) rfl) rfl (by decide) (Nat.le_of_ble_eq_true rfl) dX12_law_278 rfl rfl (fun x55 M54 bx55 hw => ?_)
  refine X_if_ne 289 284 (y := 0) dX12_law_281 rfl rfl (fun c56 => ?_) (fun c56 => ?_)
  · have hw := hw.2 c56
    refine X_goto 31 dX12_law_289 rfl ?_
    exact hK31 v1 v2 M54 hw
  · have hw := hw.1 c56
    refine X_aload_n 285 dX12_law_284 rfl rfl ?_
    refine X_getI 288 f_X12_269 (hL.ob (c := 12) (by decide) rfl) rfl dX12_law_285 rfl ?_
    exact X_ret rfl rfl dX12_law_288 ⟨_, _, rfl, rfl, hw⟩
def w_X12_law_186 (L : Lay)  (K31 : Int32 → Int32 → Mem → Prop) (v1 : Int32) (v2 : Int32) (y0 : Int32) (M : Mem) (Q : Int32 → Mem → Prop) : Prop := ((y0 = 0 → (w_X12_law_200 L   y0 M Q)) ∧ (¬ y0 = 0 → ((((v1 &&& y0) = 0 → (∀ x63 : Int32, x63 = (v1 ||| y0) → (w_X12_law_273 L  K31 x63 v2 M Q))) ∧ (¬ (v1 &&& y0) = 0 → (w_X12_law_200 L   y0 M Q))))))
set_option maxRecDepth 20000 in
theorem t_X12_law_186 {L : Lay} (hL : LY L)   {K31 : Int32 → Int32 → Mem → Prop} {v1 : Int32} {v2 : Int32} {y0 : Int32}  {M : Mem} {Q : Int32 → Mem → Prop} (hw : w_X12_law_186 L  K31 v1 v2 y0 M Q) (hK31 : ∀ (v1 : Int32) (v2 : Int32) (M : Mem), K31 v1 v2 M → X (FM (QI L Q)) RX12 cX12_law (some .int) 5 "law" 4 0 0 (L, M) 31 [.ref 92, .int v1, .int v2, junk, junk] []) : X (FM (QI L Q)) RX12 cX12_law (some .int) 5 "law" 4 0 0 (L, M) 186 [.ref 92, .int v1, .int v2, junk, junk] [.int y0] := by
  unfold w_X12_law_186 at hw
  refine X_istore 188 (ls' := [.ref 92, .int v1, .int v2, junk, .int y0]) dX12_law_186 rfl (Nat.le_of_ble_eq_true rfl) rfl (Or.inr (Or.inl rfl)) ?_
  refine X_iload 190 dX12_law_188 rfl rfl ?_
  refine X_if_eq 200 193 (y := 0) dX12_law_190 rfl rfl (fun c61 => ?_) (fun c61 => ?_)
  · have hw := hw.1 c61
    refine X_weak (ls' := [.ref 92, junk, junk, junk, .int y0]) (WK.s (WK.j (WK.j (WK.s (WK.s WK.n))))) (Nat.le_of_ble_eq_true rfl) ?_
    exact t_X12_law_200 hL   hw 
  · have hw := hw.2 c61
    refine X_iload_n 194 dX12_law_193 rfl rfl ?_
    refine X_iload 196 dX12_law_194 rfl rfl ?_
    refine X_iand 197 dX12_law_196 rfl ?_
    refine X_if_eq 220 200 (y := 0) dX12_law_197 rfl rfl (fun c62 => ?_) (fun c62 => ?_)
    · have hw := hw.1 c62
      refine X_iload_n 221 dX12_law_220 rfl rfl ?_
      refine X_iload 223 dX12_law_221 rfl rfl ?_
      refine X_ior 224 dX12_law_223 rfl ?_
      refine X_nmI (fun x63 ex63 => ?_)
      have hw := hw x63 ex63
      refine X_istore_n 225 (ls' := [.ref 92, .int x63, .int v2, junk, .int y0]) dX12_law_224 rfl rfl (Nat.le_of_ble_eq_true rfl) rfl (Or.inr (Or.inr ⟨_, rfl, rfl⟩)) ?_
      refine X_goto 273 dX12_law_225 rfl ?_
      refine X_weak (ls' := [.ref 92, .int x63, .int v2, junk, junk]) (WK.s (WK.s (WK.s (WK.s (WK.j WK.n))))) (Nat.le_of_ble_eq_true rfl) ?_
      exact t_X12_law_273 hL   hw hK31
    · have hw := hw.2 c62
      refine X_weak (ls' := [.ref 92, junk, junk, junk, .int y0]) (WK.s (WK.j (WK.j (WK.s (WK.s WK.n))))) (Nat.le_of_ble_eq_true rfl) ?_
      exact t_X12_law_200 hL   hw 
def w_X12_law_245 (L : Lay)    (M : Mem) (Q : Int32 → Mem → Prop) : Prop := ∀ x49 : Int32, x49 = (if (mi M 92 47) = (2 : Int32) then (4 : Int32) else (1 : Int32)) → (w_X12_fails L x49 M (fun x51 M50 => (Q (mi M50 92 50) M50)))
set_option maxRecDepth 20000 in
theorem t_X12_law_245 {L : Lay} (hL : LY L)      {M : Mem} {Q : Int32 → Mem → Prop} (hw : w_X12_law_245 L    M Q)  : X (FM (QI L Q)) RX12 cX12_law (some .int) 5 "law" 4 0 0 (L, M) 245 [.ref 92, junk, junk, junk, junk] [] := by
  unfold w_X12_law_245 at hw
  refine X_aload_n 246 dX12_law_245 rfl rfl ?_
  refine X_aload_n 247 dX12_law_246 rfl rfl ?_
  refine X_getI 250 f_X12_258 (hL.ob (c := 12) (by decide) rfl) rfl dX12_law_247 rfl ?_
  refine X_iconst 251 (v := 2) dX12_law_250 rfl rfl ?_
  obtain ⟨x49, ex49⟩ : ∃ x49 : Int32, x49 = (if (mi M 92 47) = (2 : Int32) then (4 : Int32) else (1 : Int32)) := ⟨_, rfl⟩
  have hw := hw x49 ex49
  have hJ : X (FM (QI L Q)) RX12 cX12_law (some .int) 5 "law" 4 0 0 (L, M) 259 [.ref 92, junk, junk, junk, junk] [.int x49, .ref 92] := by
    refine Y_cVZ 262 (as := [.int x49]) m_X12_275 (s_X12_fails hL  hw) (hL.ob (c := 12) (by decide) rfl) rfl (by decide) (Nat.le_of_ble_eq_true rfl) dX12_law_259 rfl rfl (fun x51 M50 bx51 hw => ?_)
    refine X_pop 263 dX12_law_262 rfl rfl ?_
    refine X_aload_n 264 dX12_law_263 rfl rfl ?_
    refine X_getI 267 f_X12_269 (hL.ob (c := 12) (by decide) rfl) rfl dX12_law_264 rfl ?_
    exact X_ret rfl rfl dX12_law_267 ⟨_, _, rfl, rfl, hw⟩
  refine X_icmp_eq 258 254 dX12_law_251 rfl rfl (fun c52 => ?_) (fun c52 => ?_)
  · refine X_iconst 259 (v := 4) dX12_law_258 rfl rfl ?_
    rw [if_pos c52] at ex49
    rw [ex49] at hJ
    exact hJ
  · refine X_iconst 255 (v := 1) dX12_law_254 rfl rfl ?_
    refine X_goto 259 dX12_law_255 rfl ?_
    rw [if_neg c52] at ex49
    rw [ex49] at hJ
    exact hJ
def w_X12_law_90 (L : Lay)  (K31 : Int32 → Int32 → Mem → Prop) (v1 : Int32) (v2 : Int32) (v3 : Int32) (M : Mem) (Q : Int32 → Mem → Prop) : Prop := w_X12_next L  M (fun M22 => (((v3 = 0 → ((((mi M22 92 47) = (2 : Int32) → ((((99 : Int32) < (mi M22 92 49) → (w_X12_law_245 L    M22 Q)) ∧ (¬ (99 : Int32) < (mi M22 92 49) → (∀ x26 : Int32, x26 = (mi M22 92 49) → (w_X12_law_273 L  K31 v1 x26 M22 Q)))))) ∧ (¬ (mi M22 92 47) = (2 : Int32) → (w_X12_law_245 L    M22 Q))))) ∧ (¬ v3 = 0 → (w_X12_isWord L (332864552 : Int64) M22 (fun x28 M27 => (((x28 = 0 → (w_X12_isWord L (5171369 : Int64) M27 (fun x31 M30 => (((x31 = 0 → (w_X12_isWord L (125042 : Int64) M30 (fun x34 M33 => (((x34 = 0 → (w_X12_isWord L (119163 : Int64) M33 (fun x37 M36 => (((x37 = 0 → (w_X12_isWord L (9678763 : Int64) M36 (fun x40 M39 => (((x40 = 0 → (w_X12_isWord L (1503 : Int64) M39 (fun x43 M42 => (∀ x44 : Int32, x44 = (if x43 = 0 then (0 : Int32) else (32 : Int32)) → (((x44 = 0 → (w_X12_law_200 L   x44 M42 Q)) ∧ (¬ x44 = 0 → ((((v1 &&& x44) = 0 → (∀ x47 : Int32, x47 = (v1 ||| x44) → (w_X12_law_273 L  K31 x47 v2 M42 Q))) ∧ (¬ (v1 &&& x44) = 0 → (w_X12_law_200 L   x44 M42 Q))))))))))) ∧ (¬ x40 = 0 → (w_X12_law_186 L  K31 v1 v2 (16 : Int32) M39 Q))))))) ∧ (¬ x37 = 0 → (w_X12_law_186 L  K31 v1 v2 (8 : Int32) M36 Q))))))) ∧ (¬ x34 = 0 → (w_X12_law_186 L  K31 v1 v2 (4 : Int32) M33 Q))))))) ∧ (¬ x31 = 0 → (w_X12_law_186 L  K31 v1 v2 (2 : Int32) M30 Q))))))) ∧ (¬ x28 = 0 → (w_X12_law_186 L  K31 v1 v2 (1 : Int32) M27 Q))))))))))
set_option maxRecDepth 20000 in
theorem t_X12_law_90 {L : Lay} (hL : LY L)   {K31 : Int32 → Int32 → Mem → Prop} {v1 : Int32} {v2 : Int32} {v3 : Int32}  {M : Mem} {Q : Int32 → Mem → Prop} (hw : w_X12_law_90 L  K31 v1 v2 v3 M Q) (hK31 : ∀ (v1 : Int32) (v2 : Int32) (M : Mem), K31 v1 v2 M → X (FM (QI L Q)) RX12 cX12_law (some .int) 5 "law" 4 0 0 (L, M) 31 [.ref 92, .int v1, .int v2, junk, junk] []) : X (FM (QI L Q)) RX12 cX12_law (some .int) 5 "law" 4 0 0 (L, M) 90 [.ref 92, .int v1, .int v2, .int v3, junk] [] := by
  unfold w_X12_law_90 at hw
  refine X_aload_n 91 dX12_law_90 rfl rfl ?_
  refine Y_cVV 94 (as := []) m_X12_278 (s_X12_next hL  hw) (hL.ob (c := 12) (by decide) rfl) rfl (by decide) (Nat.le_of_ble_eq_true rfl) dX12_law_91 rfl rfl (fun M22 hw => ?_)
  refine X_iload_n 95 dX12_law_94 rfl rfl ?_
  refine X_if_eq 228 98 (y := 0) dX12_law_95 rfl rfl (fun c23 => ?_) (fun c23 => ?_)
  · have hw := hw.1 c23
    refine X_aload_n 229 dX12_law_228 rfl rfl ?_
    refine X_getI 232 f_X12_258 (hL.ob (c := 12) (by decide) rfl) rfl dX12_law_229 rfl ?_
    refine X_iconst 233 (v := 2) dX12_law_232 rfl rfl ?_
    refine X_icmp_ne 245 236 dX12_law_233 rfl rfl (fun c24 => ?_) (fun c24 => ?_)
    · have hw := hw.2 c24
      refine X_weak (ls' := [.ref 92, junk, junk, junk, junk]) (WK.s (WK.j (WK.j (WK.j (WK.s WK.n))))) (Nat.le_of_ble_eq_true rfl) ?_
      exact t_X12_law_245 hL   hw 
    · have hw := hw.1 c24
      refine X_aload_n 237 dX12_law_236 rfl rfl ?_
      refine X_getI 240 f_X12_255 (hL.ob (c := 12) (by decide) rfl) rfl dX12_law_237 rfl ?_
      refine X_bipush 242 (v := 99) dX12_law_240 rfl rfl ?_
      refine X_icmp_le 268 245 dX12_law_242 rfl rfl (fun c25 => ?_) (fun c25 => ?_)
      · have hw := hw.2 c25
        refine X_aload_n 269 dX12_law_268 rfl rfl ?_
        refine X_getI 272 f_X12_255 (hL.ob (c := 12) (by decide) rfl) rfl dX12_law_269 rfl ?_
        refine X_nmI (fun x26 ex26 => ?_)
        have hw := hw x26 ex26
        refine X_istore_n 273 (ls' := [.ref 92, .int v1, .int x26, .int v3, junk]) dX12_law_272 rfl rfl (Nat.le_of_ble_eq_true rfl) rfl (Or.inr (Or.inr ⟨_, rfl, rfl⟩)) ?_
        refine X_weak (ls' := [.ref 92, .int v1, .int x26, junk, junk]) (WK.s (WK.s (WK.s (WK.j (WK.s WK.n))))) (Nat.le_of_ble_eq_true rfl) ?_
        exact t_X12_law_273 hL   hw hK31
      · have hw := hw.1 c25
        refine X_weak (ls' := [.ref 92, junk, junk, junk, junk]) (WK.s (WK.j (WK.j (WK.j (WK.s WK.n))))) (Nat.le_of_ble_eq_true rfl) ?_
        exact t_X12_law_245 hL   hw 
  · have hw := hw.2 c23
    refine X_aload_n 99 dX12_law_98 rfl rfl ?_
    refine X_ldc2 102 dX12_law_99 rfl k_X12_330 ?_
    refine Y_cVZ 105 (as := [.long (332864552 : Int64)]) m_X12_318 (s_X12_isWord hL  hw) (hL.ob (c := 12) (by decide) rfl) rfl (by decide) (Nat.le_of_ble_eq_true rfl) dX12_law_102 rfl rfl (fun x28 M27 bx28 hw => ?_)
    refine X_if_eq 112 108 (y := 0) dX12_law_105 rfl rfl (fun c29 => ?_) (fun c29 => ?_)
    · have hw := hw.1 c29
      refine X_aload_n 113 dX12_law_112 rfl rfl ?_
      refine X_ldc2 116 dX12_law_113 rfl k_X12_332 ?_
      refine Y_cVZ 119 (as := [.long (5171369 : Int64)]) m_X12_318 (s_X12_isWord hL  hw) (hL.ob (c := 12) (by decide) rfl) rfl (by decide) (Nat.le_of_ble_eq_true rfl) dX12_law_116 rfl rfl (fun x31 M30 bx31 hw => ?_)
      refine X_if_eq 126 122 (y := 0) dX12_law_119 rfl rfl (fun c32 => ?_) (fun c32 => ?_)
      · have hw := hw.1 c32
        refine X_aload_n 127 dX12_law_126 rfl rfl ?_
        refine X_ldc2 130 dX12_law_127 rfl k_X12_334 ?_
        refine Y_cVZ 133 (as := [.long (125042 : Int64)]) m_X12_318 (s_X12_isWord hL  hw) (hL.ob (c := 12) (by decide) rfl) rfl (by decide) (Nat.le_of_ble_eq_true rfl) dX12_law_130 rfl rfl (fun x34 M33 bx34 hw => ?_)
        refine X_if_eq 140 136 (y := 0) dX12_law_133 rfl rfl (fun c35 => ?_) (fun c35 => ?_)
        · have hw := hw.1 c35
          refine X_aload_n 141 dX12_law_140 rfl rfl ?_
          refine X_ldc2 144 dX12_law_141 rfl k_X12_336 ?_
          refine Y_cVZ 147 (as := [.long (119163 : Int64)]) m_X12_318 (s_X12_isWord hL  hw) (hL.ob (c := 12) (by decide) rfl) rfl (by decide) (Nat.le_of_ble_eq_true rfl) dX12_law_144 rfl rfl (fun x37 M36 bx37 hw => ?_)
          refine X_if_eq 155 150 (y := 0) dX12_law_147 rfl rfl (fun c38 => ?_) (fun c38 => ?_)
          · have hw := hw.1 c38
            refine X_aload_n 156 dX12_law_155 rfl rfl ?_
            refine X_ldc2 159 dX12_law_156 rfl k_X12_338 ?_
            refine Y_cVZ 162 (as := [.long (9678763 : Int64)]) m_X12_318 (s_X12_isWord hL  hw) (hL.ob (c := 12) (by decide) rfl) rfl (by decide) (Nat.le_of_ble_eq_true rfl) dX12_law_159 rfl rfl (fun x40 M39 bx40 hw => ?_)
            refine X_if_eq 170 165 (y := 0) dX12_law_162 rfl rfl (fun c41 => ?_) (fun c41 => ?_)
            · have hw := hw.1 c41
              refine X_aload_n 171 dX12_law_170 rfl rfl ?_
              refine X_ldc2 174 dX12_law_171 rfl k_X12_340 ?_
              refine Y_cVZ 177 (as := [.long (1503 : Int64)]) m_X12_318 (s_X12_isWord hL  hw) (hL.ob (c := 12) (by decide) rfl) rfl (by decide) (Nat.le_of_ble_eq_true rfl) dX12_law_174 rfl rfl (fun x43 M42 bx43 hw => ?_)
              obtain ⟨x44, ex44⟩ : ∃ x44 : Int32, x44 = (if x43 = 0 then (0 : Int32) else (32 : Int32)) := ⟨_, rfl⟩
              have hw := hw x44 ex44
              have hJ : X (FM (QI L Q)) RX12 cX12_law (some .int) 5 "law" 4 0 0 (L, M42) 186 [.ref 92, .int v1, .int v2, .int v3, junk] [.int x44] := by
                refine X_istore 188 (ls' := [.ref 92, .int v1, .int v2, .int v3, .int x44]) dX12_law_186 rfl (Nat.le_of_ble_eq_true rfl) rfl (Or.inr (Or.inr ⟨_, rfl, rfl⟩)) ?_
                refine X_iload 190 dX12_law_188 rfl rfl ?_
                refine X_if_eq 200 193 (y := 0) dX12_law_190 rfl rfl (fun c45 => ?_) (fun c45 => ?_)
                · have hw := hw.1 c45
                  refine X_weak (ls' := [.ref 92, junk, junk, junk, .int x44]) (WK.s (WK.j (WK.j (WK.j (WK.s WK.n))))) (Nat.le_of_ble_eq_true rfl) ?_
                  exact t_X12_law_200 hL   hw 
                · have hw := hw.2 c45
                  refine X_iload_n 194 dX12_law_193 rfl rfl ?_
                  refine X_iload 196 dX12_law_194 rfl rfl ?_
                  refine X_iand 197 dX12_law_196 rfl ?_
                  refine X_if_eq 220 200 (y := 0) dX12_law_197 rfl rfl (fun c46 => ?_) (fun c46 => ?_)
                  · have hw := hw.1 c46
                    refine X_iload_n 221 dX12_law_220 rfl rfl ?_
                    refine X_iload 223 dX12_law_221 rfl rfl ?_
                    refine X_ior 224 dX12_law_223 rfl ?_
                    refine X_nmI (fun x47 ex47 => ?_)
                    have hw := hw x47 ex47
                    refine X_istore_n 225 (ls' := [.ref 92, .int x47, .int v2, .int v3, .int x44]) dX12_law_224 rfl rfl (Nat.le_of_ble_eq_true rfl) rfl (Or.inr (Or.inr ⟨_, rfl, rfl⟩)) ?_
                    refine X_goto 273 dX12_law_225 rfl ?_
                    refine X_weak (ls' := [.ref 92, .int x47, .int v2, junk, junk]) (WK.s (WK.s (WK.s (WK.j (WK.j WK.n))))) (Nat.le_of_ble_eq_true rfl) ?_
                    exact t_X12_law_273 hL   hw hK31
                  · have hw := hw.2 c46
                    refine X_weak (ls' := [.ref 92, junk, junk, junk, .int x44]) (WK.s (WK.j (WK.j (WK.j (WK.s WK.n))))) (Nat.le_of_ble_eq_true rfl) ?_
                    exact t_X12_law_200 hL   hw 
              refine X_if_eq 185 180 (y := 0) dX12_law_177 rfl rfl (fun c48 => ?_) (fun c48 => ?_)
              · refine X_iconst 186 (v := 0) dX12_law_185 rfl rfl ?_
                rw [if_pos c48] at ex44
                rw [ex44] at hJ
                exact hJ
              · refine X_bipush 182 (v := 32) dX12_law_180 rfl rfl ?_
                refine X_goto 186 dX12_law_182 rfl ?_
                rw [if_neg c48] at ex44
                rw [ex44] at hJ
                exact hJ
            · have hw := hw.2 c41
              refine X_bipush 167 (v := 16) dX12_law_165 rfl rfl ?_
              refine X_goto 186 dX12_law_167 rfl ?_
              refine X_weak (ls' := [.ref 92, .int v1, .int v2, junk, junk]) (WK.s (WK.s (WK.s (WK.j (WK.s WK.n))))) (Nat.le_of_ble_eq_true rfl) ?_
              exact t_X12_law_186 hL   hw hK31
          · have hw := hw.2 c38
            refine X_bipush 152 (v := 8) dX12_law_150 rfl rfl ?_
            refine X_goto 186 dX12_law_152 rfl ?_
            refine X_weak (ls' := [.ref 92, .int v1, .int v2, junk, junk]) (WK.s (WK.s (WK.s (WK.j (WK.s WK.n))))) (Nat.le_of_ble_eq_true rfl) ?_
            exact t_X12_law_186 hL   hw hK31
        · have hw := hw.2 c35
          refine X_iconst 137 (v := 4) dX12_law_136 rfl rfl ?_
          refine X_goto 186 dX12_law_137 rfl ?_
          refine X_weak (ls' := [.ref 92, .int v1, .int v2, junk, junk]) (WK.s (WK.s (WK.s (WK.j (WK.s WK.n))))) (Nat.le_of_ble_eq_true rfl) ?_
          exact t_X12_law_186 hL   hw hK31
      · have hw := hw.2 c32
        refine X_iconst 123 (v := 2) dX12_law_122 rfl rfl ?_
        refine X_goto 186 dX12_law_123 rfl ?_
        refine X_weak (ls' := [.ref 92, .int v1, .int v2, junk, junk]) (WK.s (WK.s (WK.s (WK.j (WK.s WK.n))))) (Nat.le_of_ble_eq_true rfl) ?_
        exact t_X12_law_186 hL   hw hK31
    · have hw := hw.2 c29
      refine X_iconst 109 (v := 1) dX12_law_108 rfl rfl ?_
      refine X_goto 186 dX12_law_109 rfl ?_
      refine X_weak (ls' := [.ref 92, .int v1, .int v2, junk, junk]) (WK.s (WK.s (WK.s (WK.j (WK.s WK.n))))) (Nat.le_of_ble_eq_true rfl) ?_
      exact t_X12_law_186 hL   hw hK31
def w_X12_law_71 (L : Lay)  (K31 : Int32 → Int32 → Mem → Prop) (v1 : Int32) (v2 : Int32) (v3 : Int32) (M : Mem) (Q : Int32 → Mem → Prop) : Prop := ((v3 = 0 → (((v2 < 0 → (w_X12_law_90 L  K31 v1 v2 v3 M Q)) ∧ (¬ v2 < 0 → (w_X12_fails L (3 : Int32) M (fun x21 M20 => (Q (mi M20 92 50) M20))))))) ∧ (¬ v3 = 0 → (w_X12_law_90 L  K31 v1 v2 v3 M Q)))
set_option maxRecDepth 20000 in
theorem t_X12_law_71 {L : Lay} (hL : LY L)   {K31 : Int32 → Int32 → Mem → Prop} {v1 : Int32} {v2 : Int32} {v3 : Int32}  {M : Mem} {Q : Int32 → Mem → Prop} (hw : w_X12_law_71 L  K31 v1 v2 v3 M Q) (hK31 : ∀ (v1 : Int32) (v2 : Int32) (M : Mem), K31 v1 v2 M → X (FM (QI L Q)) RX12 cX12_law (some .int) 5 "law" 4 0 0 (L, M) 31 [.ref 92, .int v1, .int v2, junk, junk] []) : X (FM (QI L Q)) RX12 cX12_law (some .int) 5 "law" 4 0 0 (L, M) 71 [.ref 92, .int v1, .int v2, .int v3, junk] [] := by
  unfold w_X12_law_71 at hw
  refine X_iload_n 72 dX12_law_71 rfl rfl ?_
  refine X_if_ne 90 75 (y := 0) dX12_law_72 rfl rfl (fun c18 => ?_) (fun c18 => ?_)
  · have hw := hw.2 c18
    exact t_X12_law_90 hL   hw hK31
  · have hw := hw.1 c18
    refine X_iload_n 76 dX12_law_75 rfl rfl ?_
    refine X_if_lt 90 79 (y := 0) dX12_law_76 rfl rfl (fun c19 => ?_) (fun c19 => ?_)
    · have hw := hw.1 c19
      exact t_X12_law_90 hL   hw hK31
    · have hw := hw.2 c19
      refine X_aload_n 80 dX12_law_79 rfl rfl ?_
      refine X_iconst 81 (v := 3) dX12_law_80 rfl rfl ?_
      refine Y_cVZ 84 (as := [.int (3 : Int32)]) m_X12_275 (s_X12_fails hL  hw) (hL.ob (c := 12) (by decide) rfl) rfl (by decide) (Nat.le_of_ble_eq_true rfl) dX12_law_81 rfl rfl (fun x21 M20 bx21 hw => ?_)
      refine X_pop 85 dX12_law_84 rfl rfl ?_
      refine X_aload_n 86 dX12_law_85 rfl rfl ?_
      refine X_getI 89 f_X12_269 (hL.ob (c := 12) (by decide) rfl) rfl dX12_law_86 rfl ?_
      exact X_ret rfl rfl dX12_law_89 ⟨_, _, rfl, rfl, hw⟩
def w_X12_law_31 (L : Lay)  (K31 : Int32 → Int32 → Mem → Prop) (v1 : Int32) (v2 : Int32) (M : Mem) (Q : Int32 → Mem → Prop) : Prop := (((mi M 92 47) = 0 → (∀ M7 : Mem, M7 = si M 92 40 v1 → (∀ M8 : Mem, M8 = si M7 92 41 (jmax (0 : Int32) v2) → (∀ M9 : Mem, M9 = si M8 102 0 (1 : Int32) → (Q (0 : Int32) M9))))) ∧ (¬ (mi M 92 47) = 0 → (w_X12_isWord L (444208 : Int64) M (fun x11 M10 => (((x11 = 0 → (w_X12_isWord L (94606 : Int64) M10 (fun x14 M13 => (((x14 = 0 → (w_X12_fails L (1 : Int32) M13 (fun x17 M16 => (Q (mi M16 92 50) M16)))) ∧ (¬ x14 = 0 → (w_X12_law_71 L  K31 v1 v2 x11 M13 Q))))))) ∧ (¬ x11 = 0 → (w_X12_law_71 L  K31 v1 v2 x11 M10 Q))))))))
set_option maxRecDepth 20000 in
theorem t_X12_law_31 {L : Lay} (hL : LY L)   {K31 : Int32 → Int32 → Mem → Prop} {v1 : Int32} {v2 : Int32}  {M : Mem} {Q : Int32 → Mem → Prop} (hw : w_X12_law_31 L  K31 v1 v2 M Q) (hK31 : ∀ (v1 : Int32) (v2 : Int32) (M : Mem), K31 v1 v2 M → X (FM (QI L Q)) RX12 cX12_law (some .int) 5 "law" 4 0 0 (L, M) 31 [.ref 92, .int v1, .int v2, junk, junk] []) : X (FM (QI L Q)) RX12 cX12_law (some .int) 5 "law" 4 0 0 (L, M) 31 [.ref 92, .int v1, .int v2, junk, junk] [] := by
  unfold w_X12_law_31 at hw
  refine X_aload_n 32 dX12_law_31 rfl rfl ?_
  refine X_getI 35 f_X12_258 (hL.ob (c := 12) (by decide) rfl) rfl dX12_law_32 rfl ?_
  refine X_if_eq 292 38 (y := 0) dX12_law_35 rfl rfl (fun c6 => ?_) (fun c6 => ?_)
  · have hw := hw.1 c6
    refine X_aload_n 293 dX12_law_292 rfl rfl ?_
    refine X_iload_n 294 dX12_law_293 rfl rfl ?_
    refine X_putI 297 f_X12_364 (Or.inl rfl) (hL.ob (c := 12) (by decide) rfl) rfl dX12_law_294 rfl ?_
    refine X_nmM (fun M7 eM7 => ?_)
    have hw := hw M7 eM7
    refine X_aload_n 298 dX12_law_297 rfl rfl ?_
    refine X_iconst 299 (v := 0) dX12_law_298 rfl rfl ?_
    refine X_iload_n 300 dX12_law_299 rfl rfl ?_
    refine Y_mmax 303 l_X12_228 (by decide) (Nat.le_of_ble_eq_true rfl) dX12_law_300 rfl ?_
    refine X_putI 306 f_X12_367 (Or.inl rfl) (hL.ob (c := 12) (by decide) rfl) rfl dX12_law_303 rfl ?_
    refine X_nmM (fun M8 eM8 => ?_)
    have hw := hw M8 eM8
    refine X_aload_n 307 dX12_law_306 rfl rfl ?_
    refine X_getR 310 f_X12_37 (hL.ob (c := 12) (by decide) rfl) rfl (hL.rr (by decide) rfl) dX12_law_307 rfl ?_
    refine X_iconst 311 (v := 0) dX12_law_310 rfl rfl ?_
    refine X_iconst 312 (v := 1) dX12_law_311 rfl rfl ?_
    refine Y_iast 313 (k := 0) (hL.ar (t := 0) (n := 2) (by decide) rfl) (vlit (by decide)) (by decide) dX12_law_312 rfl ?_
    refine X_nmM (fun M9 eM9 => ?_)
    have hw := hw M9 eM9
    refine X_iconst 314 (v := 0) dX12_law_313 rfl rfl ?_
    exact X_ret rfl rfl dX12_law_314 ⟨_, _, rfl, rfl, hw⟩
  · have hw := hw.2 c6
    refine X_aload_n 39 dX12_law_38 rfl rfl ?_
    refine X_ldc2 42 dX12_law_39 rfl k_X12_360 ?_
    refine Y_cVZ 45 (as := [.long (444208 : Int64)]) m_X12_318 (s_X12_isWord hL  hw) (hL.ob (c := 12) (by decide) rfl) rfl (by decide) (Nat.le_of_ble_eq_true rfl) dX12_law_42 rfl rfl (fun x11 M10 bx11 hw => ?_)
    refine X_istore_n 46 (ls' := [.ref 92, .int v1, .int v2, .int x11, junk]) dX12_law_45 rfl rfl (Nat.le_of_ble_eq_true rfl) rfl (Or.inr (Or.inr ⟨_, rfl, rfl⟩)) ?_
    refine X_iload_n 47 dX12_law_46 rfl rfl ?_
    refine X_if_ne 71 50 (y := 0) dX12_law_47 rfl rfl (fun c12 => ?_) (fun c12 => ?_)
    · have hw := hw.2 c12
      exact t_X12_law_71 hL   hw hK31
    · have hw := hw.1 c12
      refine X_aload_n 51 dX12_law_50 rfl rfl ?_
      refine X_ldc2 54 dX12_law_51 rfl k_X12_362 ?_
      refine Y_cVZ 57 (as := [.long (94606 : Int64)]) m_X12_318 (s_X12_isWord hL  hw) (hL.ob (c := 12) (by decide) rfl) rfl (by decide) (Nat.le_of_ble_eq_true rfl) dX12_law_54 rfl rfl (fun x14 M13 bx14 hw => ?_)
      refine X_if_ne 71 60 (y := 0) dX12_law_57 rfl rfl (fun c15 => ?_) (fun c15 => ?_)
      · have hw := hw.2 c15
        exact t_X12_law_71 hL   hw hK31
      · have hw := hw.1 c15
        refine X_aload_n 61 dX12_law_60 rfl rfl ?_
        refine X_iconst 62 (v := 1) dX12_law_61 rfl rfl ?_
        refine Y_cVZ 65 (as := [.int (1 : Int32)]) m_X12_275 (s_X12_fails hL  hw) (hL.ob (c := 12) (by decide) rfl) rfl (by decide) (Nat.le_of_ble_eq_true rfl) dX12_law_62 rfl rfl (fun x17 M16 bx17 hw => ?_)
        refine X_pop 66 dX12_law_65 rfl rfl ?_
        refine X_aload_n 67 dX12_law_66 rfl rfl ?_
        refine X_getI 70 f_X12_269 (hL.ob (c := 12) (by decide) rfl) rfl dX12_law_67 rfl ?_
        exact X_ret rfl rfl dX12_law_70 ⟨_, _, rfl, rfl, hw⟩
def w_X12_law (L : Lay)  (M : Mem) (Q : Int32 → Mem → Prop) : Prop := ∀ M1 : Mem, M1 = si M 92 0 (0 : Int32) → (∀ M2 : Mem, M2 = si M1 92 44 (mi M1 92 42) → (∀ M3 : Mem, M3 = si M2 92 42 (0 : Int32) → (∀ M4 : Mem, M4 = si M3 92 45 (0 : Int32) → (w_X12_next L  M4 (fun M5 => (LP3 (fun K31 v1 v2 M => w_X12_law_31 L   K31 v1 v2 M Q) (0 : Int32) (-1 : Int32) M5))))))
set_option maxRecDepth 20000 in
theorem s_X12_law {L : Lay} (hL : LY L)   {M : Mem} {Q : Int32 → Mem → Prop} (hw : w_X12_law L  M Q) : MX yX12_law cX12_law (some .int) 5 4 0 0 [.ref 92] (L, M) (QI L Q) := by
  unfold w_X12_law at hw
  refine MX_of (by decide) [.ref 92, junk, junk, junk, junk] (by rfl) (by exact Nat.le_of_ble_eq_true rfl) ?_
  show X (FM (QI L Q)) RX12 cX12_law (some .int) 5 "law" 4 0 0 (L, M) 0 [.ref 92, junk, junk, junk, junk] []
  refine X_aload_n 1 dX12_law_0 rfl rfl ?_
  refine X_iconst 2 (v := 0) dX12_law_1 rfl rfl ?_
  refine X_putI 5 f_X12_206 (Or.inl rfl) (hL.ob (c := 12) (by decide) rfl) rfl dX12_law_2 rfl ?_
  refine X_nmM (fun M1 eM1 => ?_)
  have hw := hw M1 eM1
  refine X_aload_n 6 dX12_law_5 rfl rfl ?_
  refine X_aload_n 7 dX12_law_6 rfl rfl ?_
  refine X_getI 10 f_X12_239 (hL.ob (c := 12) (by decide) rfl) rfl dX12_law_7 rfl ?_
  refine X_putI 13 f_X12_242 (Or.inl rfl) (hL.ob (c := 12) (by decide) rfl) rfl dX12_law_10 rfl ?_
  refine X_nmM (fun M2 eM2 => ?_)
  have hw := hw M2 eM2
  refine X_aload_n 14 dX12_law_13 rfl rfl ?_
  refine X_iconst 15 (v := 0) dX12_law_14 rfl rfl ?_
  refine X_putI 18 f_X12_239 (Or.inl rfl) (hL.ob (c := 12) (by decide) rfl) rfl dX12_law_15 rfl ?_
  refine X_nmM (fun M3 eM3 => ?_)
  have hw := hw M3 eM3
  refine X_iconst 19 (v := 0) dX12_law_18 rfl rfl ?_
  refine X_istore_n 20 (ls' := [.ref 92, .int (0 : Int32), junk, junk, junk]) dX12_law_19 rfl rfl (Nat.le_of_ble_eq_true rfl) rfl (Or.inr (Or.inr ⟨_, rfl, rfl⟩)) ?_
  refine X_iconst 21 (v := -1) dX12_law_20 rfl rfl ?_
  refine X_istore_n 22 (ls' := [.ref 92, .int (0 : Int32), .int (-1 : Int32), junk, junk]) dX12_law_21 rfl rfl (Nat.le_of_ble_eq_true rfl) rfl (Or.inr (Or.inr ⟨_, rfl, rfl⟩)) ?_
  refine X_aload_n 23 dX12_law_22 rfl rfl ?_
  refine X_iconst 24 (v := 0) dX12_law_23 rfl rfl ?_
  refine X_putI 27 f_X12_245 (Or.inl rfl) (hL.ob (c := 12) (by decide) rfl) rfl dX12_law_24 rfl ?_
  refine X_nmM (fun M4 eM4 => ?_)
  have hw := hw M4 eM4
  refine X_aload_n 28 dX12_law_27 rfl rfl ?_
  refine Y_cVV 31 (as := []) m_X12_278 (s_X12_next hL  hw) (hL.ob (c := 12) (by decide) rfl) rfl (by decide) (Nat.le_of_ble_eq_true rfl) dX12_law_28 rfl rfl (fun M5 hw => ?_)
  exact LP3_s hw (G := fun v1 v2 M => X (FM (QI L Q)) RX12 cX12_law (some .int) 5 "law" 4 0 0 (L, M) 31 [.ref 92, .int v1, .int v2, junk, junk] []) (fun K31 v1 v2 M hb hK => t_X12_law_31 hL  hb  hK)
def w_X12_opens (L : Lay) (p0 : Int32) (M : Mem) (Q : Mem → Prop) : Prop := vp_in p0 6 ∧ (∀ M2 : Mem, M2 = si M 139 (tn p0) (0 : Int32) → (∀ M3 : Mem, M3 = si M2 141 (tn p0) (0 : Int32) → (∀ M4 : Mem, M4 = si M3 142 (tn p0) (0 : Int32) → (∀ M5 : Mem, M5 = si M4 143 (tn p0) (20 : Int32) → (∀ M6 : Mem, M6 = si M5 145 (tn p0) (0 : Int32) → (Q M6))))))
set_option maxRecDepth 20000 in
theorem s_X12_opens {L : Lay} (hL : LY L) {p0 : Int32}  {M : Mem} {Q : Mem → Prop} (hw : w_X12_opens L p0 M Q) : MX yX12_opens cX12_opens none 2 1 0 0 [.ref 92, .int p0] (L, M) (QV L Q) := by
  unfold w_X12_opens at hw
  refine MX_of (by decide) [.ref 92, .int p0] (by rfl) (by exact Nat.le_of_ble_eq_true rfl) ?_
  show X (FM (QV L Q)) RX12 cX12_opens none 2 "opens" 1 0 0 (L, M) 0 [.ref 92, .int p0] []
  refine X_aload_n 1 dX12_opens_0 rfl rfl ?_
  refine X_getR 4 f_X12_149 (hL.ob (c := 12) (by decide) rfl) rfl (hL.rr (by decide) rfl) dX12_opens_1 rfl ?_
  refine X_iload_n 5 dX12_opens_4 rfl rfl ?_
  refine X_iconst 6 (v := 0) dX12_opens_5 rfl rfl ?_
  obtain ⟨c1, hw⟩ := hw
  refine Y_iast 7 (k := (tn p0)) (hL.ar (t := 0) (n := 6) (by decide) rfl) c1 rfl dX12_opens_6 rfl ?_
  refine X_nmM (fun M2 eM2 => ?_)
  have hw := hw M2 eM2
  refine X_aload_n 8 dX12_opens_7 rfl rfl ?_
  refine X_getR 11 f_X12_155 (hL.ob (c := 12) (by decide) rfl) rfl (hL.rr (by decide) rfl) dX12_opens_8 rfl ?_
  refine X_iload_n 12 dX12_opens_11 rfl rfl ?_
  refine X_iconst 13 (v := 0) dX12_opens_12 rfl rfl ?_
  refine Y_iast 14 (k := (tn p0)) (hL.ar (t := 0) (n := 6) (by decide) rfl) c1 rfl dX12_opens_13 rfl ?_
  refine X_nmM (fun M3 eM3 => ?_)
  have hw := hw M3 eM3
  refine X_aload_n 15 dX12_opens_14 rfl rfl ?_
  refine X_getR 18 f_X12_158 (hL.ob (c := 12) (by decide) rfl) rfl (hL.rr (by decide) rfl) dX12_opens_15 rfl ?_
  refine X_iload_n 19 dX12_opens_18 rfl rfl ?_
  refine X_iconst 20 (v := 0) dX12_opens_19 rfl rfl ?_
  refine Y_iast 21 (k := (tn p0)) (hL.ar (t := 0) (n := 6) (by decide) rfl) c1 rfl dX12_opens_20 rfl ?_
  refine X_nmM (fun M4 eM4 => ?_)
  have hw := hw M4 eM4
  refine X_aload_n 22 dX12_opens_21 rfl rfl ?_
  refine X_getR 25 f_X12_161 (hL.ob (c := 12) (by decide) rfl) rfl (hL.rr (by decide) rfl) dX12_opens_22 rfl ?_
  refine X_iload_n 26 dX12_opens_25 rfl rfl ?_
  refine X_bipush 28 (v := 20) dX12_opens_26 rfl rfl ?_
  refine Y_iast 29 (k := (tn p0)) (hL.ar (t := 0) (n := 6) (by decide) rfl) c1 rfl dX12_opens_28 rfl ?_
  refine X_nmM (fun M5 eM5 => ?_)
  have hw := hw M5 eM5
  refine X_aload_n 30 dX12_opens_29 rfl rfl ?_
  refine X_getR 33 f_X12_167 (hL.ob (c := 12) (by decide) rfl) rfl (hL.rr (by decide) rfl) dX12_opens_30 rfl ?_
  refine X_iload_n 34 dX12_opens_33 rfl rfl ?_
  refine X_iconst 35 (v := 0) dX12_opens_34 rfl rfl ?_
  refine Y_iast 36 (k := (tn p0)) (hL.ar (t := 0) (n := 6) (by decide) rfl) c1 rfl dX12_opens_35 rfl ?_
  refine X_nmM (fun M6 eM6 => ?_)
  have hw := hw M6 eM6
  exact X_retV rfl dX12_opens_36 ⟨_, rfl, rfl, hw⟩
def w_X12_sums_45 (L : Lay) (p0 : Int32)  (y0 : Int32) (y1 : Int32) (M : Mem) (Q : Mem → Prop) : Prop := vp_in y1 6 ∧ (∀ M4 : Mem, M4 = si M 142 (tn y1) y0 → (vp_in p0 6 ∧ (∀ M6 : Mem, M6 = si M4 145 (tn p0) (0 : Int32) → (Q M6))))
set_option maxRecDepth 20000 in
theorem t_X12_sums_45 {L : Lay} (hL : LY L) {p0 : Int32}   {y0 : Int32} {y1 : Int32}  {M : Mem} {Q : Mem → Prop} (hw : w_X12_sums_45 L p0  y0 y1 M Q)  : X (FM (QV L Q)) RX12 cX12_sums none 2 "sums" 1 0 0 (L, M) 45 [.ref 92, .int p0] [.int y0, .int y1, .ref 142] := by
  unfold w_X12_sums_45 at hw
  obtain ⟨c3, hw⟩ := hw
  refine Y_iast 46 (k := (tn y1)) (hL.ar (t := 0) (n := 6) (by decide) rfl) c3 rfl dX12_sums_45 rfl ?_
  refine X_nmM (fun M4 eM4 => ?_)
  have hw := hw M4 eM4
  refine X_aload_n 47 dX12_sums_46 rfl rfl ?_
  refine X_getR 50 f_X12_167 (hL.ob (c := 12) (by decide) rfl) rfl (hL.rr (by decide) rfl) dX12_sums_47 rfl ?_
  refine X_iload_n 51 dX12_sums_50 rfl rfl ?_
  refine X_iconst 52 (v := 0) dX12_sums_51 rfl rfl ?_
  obtain ⟨c5, hw⟩ := hw
  refine Y_iast 53 (k := (tn p0)) (hL.ar (t := 0) (n := 6) (by decide) rfl) c5 rfl dX12_sums_52 rfl ?_
  refine X_nmM (fun M6 eM6 => ?_)
  have hw := hw M6 eM6
  exact X_retV rfl dX12_sums_53 ⟨_, rfl, rfl, hw⟩
def w_X12_sums (L : Lay) (p0 : Int32) (M : Mem) (Q : Mem → Prop) : Prop := vp_in p0 6 ∧ ((((mi M 143 (tn p0)) = (21 : Int32) → (w_X12_sums_45 L p0  ((mi M 142 (tn p0)) - (mi M 144 (tn p0))) p0 M Q)) ∧ (¬ (mi M 143 (tn p0)) = (21 : Int32) → (w_X12_sums_45 L p0  ((mi M 142 (tn p0)) + (mi M 144 (tn p0))) p0 M Q))))
set_option maxRecDepth 20000 in
theorem s_X12_sums {L : Lay} (hL : LY L) {p0 : Int32}  {M : Mem} {Q : Mem → Prop} (hw : w_X12_sums L p0 M Q) : MX yX12_sums cX12_sums none 2 1 0 0 [.ref 92, .int p0] (L, M) (QV L Q) := by
  unfold w_X12_sums at hw
  refine MX_of (by decide) [.ref 92, .int p0] (by rfl) (by exact Nat.le_of_ble_eq_true rfl) ?_
  show X (FM (QV L Q)) RX12 cX12_sums none 2 "sums" 1 0 0 (L, M) 0 [.ref 92, .int p0] []
  refine X_aload_n 1 dX12_sums_0 rfl rfl ?_
  refine X_getR 4 f_X12_158 (hL.ob (c := 12) (by decide) rfl) rfl (hL.rr (by decide) rfl) dX12_sums_1 rfl ?_
  refine X_iload_n 5 dX12_sums_4 rfl rfl ?_
  refine X_aload_n 6 dX12_sums_5 rfl rfl ?_
  refine X_getR 9 f_X12_161 (hL.ob (c := 12) (by decide) rfl) rfl (hL.rr (by decide) rfl) dX12_sums_6 rfl ?_
  refine X_iload_n 10 dX12_sums_9 rfl rfl ?_
  obtain ⟨c1, hw⟩ := hw
  refine Y_iald 11 (k := (tn p0)) (hL.ar (t := 0) (n := 6) (by decide) rfl) c1 rfl dX12_sums_10 rfl ?_
  refine X_bipush 13 (v := 21) dX12_sums_11 rfl rfl ?_
  refine X_icmp_ne 32 16 dX12_sums_13 rfl rfl (fun c2 => ?_) (fun c2 => ?_)
  · have hw := hw.2 c2
    refine X_aload_n 33 dX12_sums_32 rfl rfl ?_
    refine X_getR 36 f_X12_158 (hL.ob (c := 12) (by decide) rfl) rfl (hL.rr (by decide) rfl) dX12_sums_33 rfl ?_
    refine X_iload_n 37 dX12_sums_36 rfl rfl ?_
    refine Y_iald 38 (k := (tn p0)) (hL.ar (t := 0) (n := 6) (by decide) rfl) c1 rfl dX12_sums_37 rfl ?_
    refine X_aload_n 39 dX12_sums_38 rfl rfl ?_
    refine X_getR 42 f_X12_164 (hL.ob (c := 12) (by decide) rfl) rfl (hL.rr (by decide) rfl) dX12_sums_39 rfl ?_
    refine X_iload_n 43 dX12_sums_42 rfl rfl ?_
    refine Y_iald 44 (k := (tn p0)) (hL.ar (t := 0) (n := 6) (by decide) rfl) c1 rfl dX12_sums_43 rfl ?_
    refine X_iadd 45 dX12_sums_44 rfl ?_
    exact t_X12_sums_45 hL   hw 
  · have hw := hw.1 c2
    refine X_aload_n 17 dX12_sums_16 rfl rfl ?_
    refine X_getR 20 f_X12_158 (hL.ob (c := 12) (by decide) rfl) rfl (hL.rr (by decide) rfl) dX12_sums_17 rfl ?_
    refine X_iload_n 21 dX12_sums_20 rfl rfl ?_
    refine Y_iald 22 (k := (tn p0)) (hL.ar (t := 0) (n := 6) (by decide) rfl) c1 rfl dX12_sums_21 rfl ?_
    refine X_aload_n 23 dX12_sums_22 rfl rfl ?_
    refine X_getR 26 f_X12_164 (hL.ob (c := 12) (by decide) rfl) rfl (hL.rr (by decide) rfl) dX12_sums_23 rfl ?_
    refine X_iload_n 27 dX12_sums_26 rfl rfl ?_
    refine Y_iald 28 (k := (tn p0)) (hL.ar (t := 0) (n := 6) (by decide) rfl) c1 rfl dX12_sums_27 rfl ?_
    refine X_isub 29 dX12_sums_28 rfl ?_
    refine X_goto 45 dX12_sums_29 rfl ?_
    exact t_X12_sums_45 hL   hw 
def w_X12_tests_136 (L : Lay) (p0 : Int32)  (v2 : Int32) (M : Mem) (Q : Mem → Prop) : Prop := vp_in p0 6 ∧ (∀ M22 : Mem, M22 = si M 138 (tn p0) v2 → (∀ M23 : Mem, M23 = si M22 141 (tn p0) (0 : Int32) → (∀ M24 : Mem, M24 = si M23 142 (tn p0) (0 : Int32) → (∀ M25 : Mem, M25 = si M24 143 (tn p0) (20 : Int32) → (Q M25)))))
set_option maxRecDepth 20000 in
theorem t_X12_tests_136 {L : Lay} (hL : LY L) {p0 : Int32}   {v2 : Int32}  {M : Mem} {Q : Mem → Prop} (hw : w_X12_tests_136 L p0  v2 M Q)  : X (FM (QV L Q)) RX12 cX12_tests none 3 "tests" 2 0 0 (L, M) 136 [.ref 92, .int p0, .int v2] [] := by
  unfold w_X12_tests_136 at hw
  refine X_aload_n 137 dX12_tests_136 rfl rfl ?_
  refine X_getR 140 f_X12_146 (hL.ob (c := 12) (by decide) rfl) rfl (hL.rr (by decide) rfl) dX12_tests_137 rfl ?_
  refine X_iload_n 141 dX12_tests_140 rfl rfl ?_
  refine X_iload_n 142 dX12_tests_141 rfl rfl ?_
  obtain ⟨c21, hw⟩ := hw
  refine Y_iast 143 (k := (tn p0)) (hL.ar (t := 0) (n := 6) (by decide) rfl) c21 rfl dX12_tests_142 rfl ?_
  refine X_nmM (fun M22 eM22 => ?_)
  have hw := hw M22 eM22
  refine X_aload_n 144 dX12_tests_143 rfl rfl ?_
  refine X_getR 147 f_X12_155 (hL.ob (c := 12) (by decide) rfl) rfl (hL.rr (by decide) rfl) dX12_tests_144 rfl ?_
  refine X_iload_n 148 dX12_tests_147 rfl rfl ?_
  refine X_iconst 149 (v := 0) dX12_tests_148 rfl rfl ?_
  refine Y_iast 150 (k := (tn p0)) (hL.ar (t := 0) (n := 6) (by decide) rfl) c21 rfl dX12_tests_149 rfl ?_
  refine X_nmM (fun M23 eM23 => ?_)
  have hw := hw M23 eM23
  refine X_aload_n 151 dX12_tests_150 rfl rfl ?_
  refine X_getR 154 f_X12_158 (hL.ob (c := 12) (by decide) rfl) rfl (hL.rr (by decide) rfl) dX12_tests_151 rfl ?_
  refine X_iload_n 155 dX12_tests_154 rfl rfl ?_
  refine X_iconst 156 (v := 0) dX12_tests_155 rfl rfl ?_
  refine Y_iast 157 (k := (tn p0)) (hL.ar (t := 0) (n := 6) (by decide) rfl) c21 rfl dX12_tests_156 rfl ?_
  refine X_nmM (fun M24 eM24 => ?_)
  have hw := hw M24 eM24
  refine X_aload_n 158 dX12_tests_157 rfl rfl ?_
  refine X_getR 161 f_X12_161 (hL.ob (c := 12) (by decide) rfl) rfl (hL.rr (by decide) rfl) dX12_tests_158 rfl ?_
  refine X_iload_n 162 dX12_tests_161 rfl rfl ?_
  refine X_bipush 164 (v := 20) dX12_tests_162 rfl rfl ?_
  refine Y_iast 165 (k := (tn p0)) (hL.ar (t := 0) (n := 6) (by decide) rfl) c21 rfl dX12_tests_164 rfl ?_
  refine X_nmM (fun M25 eM25 => ?_)
  have hw := hw M25 eM25
  exact X_retV rfl dX12_tests_165 ⟨_, rfl, rfl, hw⟩
def w_X12_tests_106 (L : Lay) (p0 : Int32)  (v2 : Int32) (M : Mem) (Q : Mem → Prop) : Prop := vp_in p0 6 ∧ ((((mi M 139 (tn p0)) = (27 : Int32) → (∀ x18 : Int32, x18 = (if (mi M 138 (tn p0)) = 0 then (if v2 = 0 then (0 : Int32) else (1 : Int32)) else (1 : Int32)) → (w_X12_tests_136 L p0  x18 M Q))) ∧ (¬ (mi M 139 (tn p0)) = (27 : Int32) → (w_X12_tests_136 L p0  v2 M Q))))
set_option maxRecDepth 20000 in
theorem t_X12_tests_106 {L : Lay} (hL : LY L) {p0 : Int32}   {v2 : Int32}  {M : Mem} {Q : Mem → Prop} (hw : w_X12_tests_106 L p0  v2 M Q)  : X (FM (QV L Q)) RX12 cX12_tests none 3 "tests" 2 0 0 (L, M) 106 [.ref 92, .int p0, .int v2] [] := by
  unfold w_X12_tests_106 at hw
  refine X_aload_n 107 dX12_tests_106 rfl rfl ?_
  refine X_getR 110 f_X12_149 (hL.ob (c := 12) (by decide) rfl) rfl (hL.rr (by decide) rfl) dX12_tests_107 rfl ?_
  refine X_iload_n 111 dX12_tests_110 rfl rfl ?_
  obtain ⟨c16, hw⟩ := hw
  refine Y_iald 112 (k := (tn p0)) (hL.ar (t := 0) (n := 6) (by decide) rfl) c16 rfl dX12_tests_111 rfl ?_
  refine X_bipush 114 (v := 27) dX12_tests_112 rfl rfl ?_
  refine X_icmp_ne 136 117 dX12_tests_114 rfl rfl (fun c17 => ?_) (fun c17 => ?_)
  · have hw := hw.2 c17
    exact t_X12_tests_136 hL   hw 
  · have hw := hw.1 c17
    refine X_aload_n 118 dX12_tests_117 rfl rfl ?_
    refine X_getR 121 f_X12_146 (hL.ob (c := 12) (by decide) rfl) rfl (hL.rr (by decide) rfl) dX12_tests_118 rfl ?_
    refine X_iload_n 122 dX12_tests_121 rfl rfl ?_
    refine Y_iald 123 (k := (tn p0)) (hL.ar (t := 0) (n := 6) (by decide) rfl) c16 rfl dX12_tests_122 rfl ?_
    obtain ⟨x18, ex18⟩ : ∃ x18 : Int32, x18 = (if (mi M 138 (tn p0)) = 0 then (if v2 = 0 then (0 : Int32) else (1 : Int32)) else (1 : Int32)) := ⟨_, rfl⟩
    have hw := hw x18 ex18
    have bx18 : BZ x18 := by rw [ex18]; (repeat' split) <;> first | exact Or.inl rfl | exact Or.inr rfl
    have hJ : X (FM (QV L Q)) RX12 cX12_tests none 3 "tests" 2 0 0 (L, M) 135 [.ref 92, .int p0, .int v2] [.int x18] := by
      refine X_istore_n 136 (ls' := [.ref 92, .int p0, .int x18]) dX12_tests_135 rfl rfl (Nat.le_of_ble_eq_true rfl) rfl (Or.inr (Or.inr ⟨_, rfl, rfl⟩)) ?_
      exact t_X12_tests_136 hL   hw 
    refine X_if_ne 130 126 (y := 0) dX12_tests_123 rfl rfl (fun c19 => ?_) (fun c19 => ?_)
    · refine X_iconst 131 (v := 1) dX12_tests_130 rfl rfl ?_
      refine X_goto 135 dX12_tests_131 rfl ?_
      rw [if_neg c19] at ex18
      rw [ex18] at hJ
      exact hJ
    · refine X_iload_n 127 dX12_tests_126 rfl rfl ?_
      refine X_if_eq 134 130 (y := 0) dX12_tests_127 rfl rfl (fun c20 => ?_) (fun c20 => ?_)
      · refine X_iconst 135 (v := 0) dX12_tests_134 rfl rfl ?_
        rw [if_pos c19, if_pos c20] at ex18
        rw [ex18] at hJ
        exact hJ
      · refine X_iconst 131 (v := 1) dX12_tests_130 rfl rfl ?_
        refine X_goto 135 dX12_tests_131 rfl ?_
        rw [if_pos c19, if_neg c20] at ex18
        rw [ex18] at hJ
        exact hJ
def w_X12_tests_76 (L : Lay) (p0 : Int32)  (v2 : Int32) (M : Mem) (Q : Mem → Prop) : Prop := vp_in p0 6 ∧ ((((mi M 139 (tn p0)) = (26 : Int32) → (∀ x13 : Int32, x13 = (if (mi M 138 (tn p0)) = 0 then (0 : Int32) else (if v2 = 0 then (0 : Int32) else (1 : Int32))) → (w_X12_tests_106 L p0  x13 M Q))) ∧ (¬ (mi M 139 (tn p0)) = (26 : Int32) → (w_X12_tests_106 L p0  v2 M Q))))
set_option maxRecDepth 20000 in
theorem t_X12_tests_76 {L : Lay} (hL : LY L) {p0 : Int32}   {v2 : Int32}  {M : Mem} {Q : Mem → Prop} (hw : w_X12_tests_76 L p0  v2 M Q)  : X (FM (QV L Q)) RX12 cX12_tests none 3 "tests" 2 0 0 (L, M) 76 [.ref 92, .int p0, .int v2] [] := by
  unfold w_X12_tests_76 at hw
  refine X_aload_n 77 dX12_tests_76 rfl rfl ?_
  refine X_getR 80 f_X12_149 (hL.ob (c := 12) (by decide) rfl) rfl (hL.rr (by decide) rfl) dX12_tests_77 rfl ?_
  refine X_iload_n 81 dX12_tests_80 rfl rfl ?_
  obtain ⟨c11, hw⟩ := hw
  refine Y_iald 82 (k := (tn p0)) (hL.ar (t := 0) (n := 6) (by decide) rfl) c11 rfl dX12_tests_81 rfl ?_
  refine X_bipush 84 (v := 26) dX12_tests_82 rfl rfl ?_
  refine X_icmp_ne 106 87 dX12_tests_84 rfl rfl (fun c12 => ?_) (fun c12 => ?_)
  · have hw := hw.2 c12
    exact t_X12_tests_106 hL   hw 
  · have hw := hw.1 c12
    refine X_aload_n 88 dX12_tests_87 rfl rfl ?_
    refine X_getR 91 f_X12_146 (hL.ob (c := 12) (by decide) rfl) rfl (hL.rr (by decide) rfl) dX12_tests_88 rfl ?_
    refine X_iload_n 92 dX12_tests_91 rfl rfl ?_
    refine Y_iald 93 (k := (tn p0)) (hL.ar (t := 0) (n := 6) (by decide) rfl) c11 rfl dX12_tests_92 rfl ?_
    obtain ⟨x13, ex13⟩ : ∃ x13 : Int32, x13 = (if (mi M 138 (tn p0)) = 0 then (0 : Int32) else (if v2 = 0 then (0 : Int32) else (1 : Int32))) := ⟨_, rfl⟩
    have hw := hw x13 ex13
    have bx13 : BZ x13 := by rw [ex13]; (repeat' split) <;> first | exact Or.inl rfl | exact Or.inr rfl
    have hJ : X (FM (QV L Q)) RX12 cX12_tests none 3 "tests" 2 0 0 (L, M) 105 [.ref 92, .int p0, .int v2] [.int x13] := by
      refine X_istore_n 106 (ls' := [.ref 92, .int p0, .int x13]) dX12_tests_105 rfl rfl (Nat.le_of_ble_eq_true rfl) rfl (Or.inr (Or.inr ⟨_, rfl, rfl⟩)) ?_
      exact t_X12_tests_106 hL   hw 
    refine X_if_eq 104 96 (y := 0) dX12_tests_93 rfl rfl (fun c14 => ?_) (fun c14 => ?_)
    · refine X_iconst 105 (v := 0) dX12_tests_104 rfl rfl ?_
      rw [if_pos c14] at ex13
      rw [ex13] at hJ
      exact hJ
    · refine X_iload_n 97 dX12_tests_96 rfl rfl ?_
      refine X_if_eq 104 100 (y := 0) dX12_tests_97 rfl rfl (fun c15 => ?_) (fun c15 => ?_)
      · refine X_iconst 105 (v := 0) dX12_tests_104 rfl rfl ?_
        rw [if_neg c14, if_pos c15] at ex13
        rw [ex13] at hJ
        exact hJ
      · refine X_iconst 101 (v := 1) dX12_tests_100 rfl rfl ?_
        refine X_goto 105 dX12_tests_101 rfl ?_
        rw [if_neg c14, if_neg c15] at ex13
        rw [ex13] at hJ
        exact hJ
def w_X12_tests_44 (L : Lay) (p0 : Int32)  (v2 : Int32) (M : Mem) (Q : Mem → Prop) : Prop := vp_in p0 6 ∧ ((((mi M 141 (tn p0)) = (25 : Int32) → (∀ x9 : Int32, x9 = (if (mi M 140 (tn p0)) = (mi M 142 (tn p0)) then (1 : Int32) else (0 : Int32)) → (w_X12_tests_76 L p0  x9 M Q))) ∧ (¬ (mi M 141 (tn p0)) = (25 : Int32) → (w_X12_tests_76 L p0  v2 M Q))))
set_option maxRecDepth 20000 in
theorem t_X12_tests_44 {L : Lay} (hL : LY L) {p0 : Int32}   {v2 : Int32}  {M : Mem} {Q : Mem → Prop} (hw : w_X12_tests_44 L p0  v2 M Q)  : X (FM (QV L Q)) RX12 cX12_tests none 3 "tests" 2 0 0 (L, M) 44 [.ref 92, .int p0, .int v2] [] := by
  unfold w_X12_tests_44 at hw
  refine X_aload_n 45 dX12_tests_44 rfl rfl ?_
  refine X_getR 48 f_X12_155 (hL.ob (c := 12) (by decide) rfl) rfl (hL.rr (by decide) rfl) dX12_tests_45 rfl ?_
  refine X_iload_n 49 dX12_tests_48 rfl rfl ?_
  obtain ⟨c7, hw⟩ := hw
  refine Y_iald 50 (k := (tn p0)) (hL.ar (t := 0) (n := 6) (by decide) rfl) c7 rfl dX12_tests_49 rfl ?_
  refine X_bipush 52 (v := 25) dX12_tests_50 rfl rfl ?_
  refine X_icmp_ne 76 55 dX12_tests_52 rfl rfl (fun c8 => ?_) (fun c8 => ?_)
  · have hw := hw.2 c8
    exact t_X12_tests_76 hL   hw 
  · have hw := hw.1 c8
    refine X_aload_n 56 dX12_tests_55 rfl rfl ?_
    refine X_getR 59 f_X12_152 (hL.ob (c := 12) (by decide) rfl) rfl (hL.rr (by decide) rfl) dX12_tests_56 rfl ?_
    refine X_iload_n 60 dX12_tests_59 rfl rfl ?_
    refine Y_iald 61 (k := (tn p0)) (hL.ar (t := 0) (n := 6) (by decide) rfl) c7 rfl dX12_tests_60 rfl ?_
    refine X_aload_n 62 dX12_tests_61 rfl rfl ?_
    refine X_getR 65 f_X12_158 (hL.ob (c := 12) (by decide) rfl) rfl (hL.rr (by decide) rfl) dX12_tests_62 rfl ?_
    refine X_iload_n 66 dX12_tests_65 rfl rfl ?_
    refine Y_iald 67 (k := (tn p0)) (hL.ar (t := 0) (n := 6) (by decide) rfl) c7 rfl dX12_tests_66 rfl ?_
    obtain ⟨x9, ex9⟩ : ∃ x9 : Int32, x9 = (if (mi M 140 (tn p0)) = (mi M 142 (tn p0)) then (1 : Int32) else (0 : Int32)) := ⟨_, rfl⟩
    have hw := hw x9 ex9
    have bx9 : BZ x9 := by rw [ex9]; (repeat' split) <;> first | exact Or.inl rfl | exact Or.inr rfl
    have hJ : X (FM (QV L Q)) RX12 cX12_tests none 3 "tests" 2 0 0 (L, M) 75 [.ref 92, .int p0, .int v2] [.int x9] := by
      refine X_istore_n 76 (ls' := [.ref 92, .int p0, .int x9]) dX12_tests_75 rfl rfl (Nat.le_of_ble_eq_true rfl) rfl (Or.inr (Or.inr ⟨_, rfl, rfl⟩)) ?_
      exact t_X12_tests_76 hL   hw 
    refine X_icmp_ne 74 70 dX12_tests_67 rfl rfl (fun c10 => ?_) (fun c10 => ?_)
    · refine X_iconst 75 (v := 0) dX12_tests_74 rfl rfl ?_
      rw [if_neg c10] at ex9
      rw [ex9] at hJ
      exact hJ
    · refine X_iconst 71 (v := 1) dX12_tests_70 rfl rfl ?_
      refine X_goto 75 dX12_tests_71 rfl ?_
      rw [if_pos c10] at ex9
      rw [ex9] at hJ
      exact hJ
def w_X12_tests (L : Lay) (p0 : Int32) (M : Mem) (Q : Mem → Prop) : Prop := w_X12_sums L p0 M (fun M1 => (vp_in p0 6 ∧ (∀ x3 : Int32, x3 = (mi M1 142 (tn p0)) → ((((mi M1 141 (tn p0)) = (24 : Int32) → (∀ x5 : Int32, x5 = (if (mi M1 140 (tn p0)) < (mi M1 142 (tn p0)) then (1 : Int32) else (0 : Int32)) → (w_X12_tests_44 L p0  x5 M1 Q))) ∧ (¬ (mi M1 141 (tn p0)) = (24 : Int32) → (w_X12_tests_44 L p0  x3 M1 Q)))))))
set_option maxRecDepth 20000 in
theorem s_X12_tests {L : Lay} (hL : LY L) {p0 : Int32}  {M : Mem} {Q : Mem → Prop} (hw : w_X12_tests L p0 M Q) : MX yX12_tests cX12_tests none 3 2 0 0 [.ref 92, .int p0] (L, M) (QV L Q) := by
  unfold w_X12_tests at hw
  refine MX_of (by decide) [.ref 92, .int p0, junk] (by rfl) (by exact Nat.le_of_ble_eq_true rfl) ?_
  show X (FM (QV L Q)) RX12 cX12_tests none 3 "tests" 2 0 0 (L, M) 0 [.ref 92, .int p0, junk] []
  refine X_aload_n 1 dX12_tests_0 rfl rfl ?_
  refine X_iload_n 2 dX12_tests_1 rfl rfl ?_
  refine Y_cVV 5 (as := [.int p0]) m_X12_370 (s_X12_sums hL  hw) (hL.ob (c := 12) (by decide) rfl) rfl (by decide) (Nat.le_of_ble_eq_true rfl) dX12_tests_2 rfl rfl (fun M1 hw => ?_)
  refine X_aload_n 6 dX12_tests_5 rfl rfl ?_
  refine X_getR 9 f_X12_158 (hL.ob (c := 12) (by decide) rfl) rfl (hL.rr (by decide) rfl) dX12_tests_6 rfl ?_
  refine X_iload_n 10 dX12_tests_9 rfl rfl ?_
  obtain ⟨c2, hw⟩ := hw
  refine Y_iald 11 (k := (tn p0)) (hL.ar (t := 0) (n := 6) (by decide) rfl) c2 rfl dX12_tests_10 rfl ?_
  refine X_nmI (fun x3 ex3 => ?_)
  have hw := hw x3 ex3
  refine X_istore_n 12 (ls' := [.ref 92, .int p0, .int x3]) dX12_tests_11 rfl rfl (Nat.le_of_ble_eq_true rfl) rfl (Or.inr (Or.inr ⟨_, rfl, rfl⟩)) ?_
  refine X_aload_n 13 dX12_tests_12 rfl rfl ?_
  refine X_getR 16 f_X12_155 (hL.ob (c := 12) (by decide) rfl) rfl (hL.rr (by decide) rfl) dX12_tests_13 rfl ?_
  refine X_iload_n 17 dX12_tests_16 rfl rfl ?_
  refine Y_iald 18 (k := (tn p0)) (hL.ar (t := 0) (n := 6) (by decide) rfl) c2 rfl dX12_tests_17 rfl ?_
  refine X_bipush 20 (v := 24) dX12_tests_18 rfl rfl ?_
  refine X_icmp_ne 44 23 dX12_tests_20 rfl rfl (fun c4 => ?_) (fun c4 => ?_)
  · have hw := hw.2 c4
    exact t_X12_tests_44 hL   hw 
  · have hw := hw.1 c4
    refine X_aload_n 24 dX12_tests_23 rfl rfl ?_
    refine X_getR 27 f_X12_152 (hL.ob (c := 12) (by decide) rfl) rfl (hL.rr (by decide) rfl) dX12_tests_24 rfl ?_
    refine X_iload_n 28 dX12_tests_27 rfl rfl ?_
    refine Y_iald 29 (k := (tn p0)) (hL.ar (t := 0) (n := 6) (by decide) rfl) c2 rfl dX12_tests_28 rfl ?_
    refine X_aload_n 30 dX12_tests_29 rfl rfl ?_
    refine X_getR 33 f_X12_158 (hL.ob (c := 12) (by decide) rfl) rfl (hL.rr (by decide) rfl) dX12_tests_30 rfl ?_
    refine X_iload_n 34 dX12_tests_33 rfl rfl ?_
    refine Y_iald 35 (k := (tn p0)) (hL.ar (t := 0) (n := 6) (by decide) rfl) c2 rfl dX12_tests_34 rfl ?_
    obtain ⟨x5, ex5⟩ : ∃ x5 : Int32, x5 = (if (mi M1 140 (tn p0)) < (mi M1 142 (tn p0)) then (1 : Int32) else (0 : Int32)) := ⟨_, rfl⟩
    have hw := hw x5 ex5
    have bx5 : BZ x5 := by rw [ex5]; (repeat' split) <;> first | exact Or.inl rfl | exact Or.inr rfl
    have hJ : X (FM (QV L Q)) RX12 cX12_tests none 3 "tests" 2 0 0 (L, M1) 43 [.ref 92, .int p0, .int x3] [.int x5] := by
      refine X_istore_n 44 (ls' := [.ref 92, .int p0, .int x5]) dX12_tests_43 rfl rfl (Nat.le_of_ble_eq_true rfl) rfl (Or.inr (Or.inr ⟨_, rfl, rfl⟩)) ?_
      exact t_X12_tests_44 hL   hw 
    refine X_icmp_ge 42 38 dX12_tests_35 rfl rfl (fun c6 => ?_) (fun c6 => ?_)
    · refine X_iconst 43 (v := 0) dX12_tests_42 rfl rfl ?_
      rw [if_neg c6] at ex5
      rw [ex5] at hJ
      exact hJ
    · refine X_iconst 39 (v := 1) dX12_tests_38 rfl rfl ?_
      refine X_goto 43 dX12_tests_39 rfl ?_
      rw [if_pos c6] at ex5
      rw [ex5] at hJ
      exact hJ
def w_X12_fact_271 (L : Lay) (p0 : Int32) (p1 : Int32) (K271 : Int32 → Int32 → Mem → Prop) (v6 : Int32) (v7 : Int32) (M : Mem) (Q : Int32 → Mem → Prop) : Prop := ((v7 < (mi M 92 34) → (vp_in (((8 : Int32) * p0) + v7) 16 ∧ ((((mi M 112 (tn (((8 : Int32) * p0) + v7))) = 0 → (∀ x40 : Int32, x40 = v6 + (1 : Int32) → (∀ x41 : Int32, x41 = v7 + (1 : Int32) → (K271 x40 x41 M)))) ∧ (¬ (mi M 112 (tn (((8 : Int32) * p0) + v7))) = 0 → (∀ x39 : Int32, x39 = v7 + (1 : Int32) → (K271 v6 x39 M))))))) ∧ (¬ v7 < (mi M 92 34) → (Q v6 M)))
set_option maxRecDepth 20000 in
theorem t_X12_fact_271 {L : Lay} (hL : LY L) {p0 : Int32} {p1 : Int32}  {K271 : Int32 → Int32 → Mem → Prop} {v6 : Int32} {v7 : Int32}  {M : Mem} {Q : Int32 → Mem → Prop} (hw : w_X12_fact_271 L p0 p1 K271 v6 v7 M Q) (hK271 : ∀ (v6 : Int32) (v7 : Int32) (M : Mem), K271 v6 v7 M → X (FM (QI L Q)) RX12 cX12_fact (some .int) 8 "fact" 3 0 0 (L, M) 271 [.ref 92, .int p0, junk, junk, junk, junk, .int v6, .int v7] []) : X (FM (QI L Q)) RX12 cX12_fact (some .int) 8 "fact" 3 0 0 (L, M) 271 [.ref 92, .int p0, junk, junk, junk, junk, .int v6, .int v7] [] := by
  unfold w_X12_fact_271 at hw
  refine X_iload 273 dX12_fact_271 rfl rfl ?_
  refine X_aload_n 274 dX12_fact_273 rfl rfl ?_
  refine X_getI 277 f_X12_221 (hL.ob (c := 12) (by decide) rfl) rfl dX12_fact_274 rfl ?_
  refine X_icmp_ge 304 280 dX12_fact_277 rfl rfl (fun c36 => ?_) (fun c36 => ?_)
  · have hw := hw.2 c36
    refine X_iload 306 dX12_fact_304 rfl rfl ?_
    exact X_ret rfl rfl dX12_fact_306 ⟨_, _, rfl, rfl, hw⟩
  · have hw := hw.1 c36
    refine X_aload_n 281 dX12_fact_280 rfl rfl ?_
    refine X_getR 284 f_X12_68 (hL.ob (c := 12) (by decide) rfl) rfl (hL.rr (by decide) rfl) dX12_fact_281 rfl ?_
    refine X_bipush 286 (v := 8) dX12_fact_284 rfl rfl ?_
    refine X_iload_n 287 dX12_fact_286 rfl rfl ?_
    refine X_imul 288 dX12_fact_287 rfl ?_
    refine X_iload 290 dX12_fact_288 rfl rfl ?_
    refine X_iadd 291 dX12_fact_290 rfl ?_
    obtain ⟨c37, hw⟩ := hw
    refine Y_iald 292 (k := (tn (((8 : Int32) * p0) + v7))) (hL.ar (t := 0) (n := 16) (by decide) rfl) c37 rfl dX12_fact_291 rfl ?_
    refine X_if_ne 298 295 (y := 0) dX12_fact_292 rfl rfl (fun c38 => ?_) (fun c38 => ?_)
    · have hw := hw.2 c38
      obtain ⟨x39, ex39⟩ : ∃ x39 : Int32, x39 = v7 + (1 : Int32) := ⟨_, rfl⟩
      have hw := hw x39 ex39
      refine X_iinc 301 (v := x39) (ls' := [.ref 92, .int p0, junk, junk, junk, junk, .int v6, .int x39]) dX12_fact_298 rfl rfl (by rw [ex39]; rfl) rfl (Or.inr (Or.inr ⟨_, rfl, rfl⟩)) ?_
      refine X_goto 271 dX12_fact_301 rfl ?_
      exact hK271 v6 x39 M hw
    · have hw := hw.1 c38
      obtain ⟨x40, ex40⟩ : ∃ x40 : Int32, x40 = v6 + (1 : Int32) := ⟨_, rfl⟩
      have hw := hw x40 ex40
      refine X_iinc 298 (v := x40) (ls' := [.ref 92, .int p0, junk, junk, junk, junk, .int x40, .int v7]) dX12_fact_295 rfl rfl (by rw [ex40]; rfl) rfl (Or.inr (Or.inl rfl)) ?_
      obtain ⟨x41, ex41⟩ : ∃ x41 : Int32, x41 = v7 + (1 : Int32) := ⟨_, rfl⟩
      have hw := hw x41 ex41
      refine X_iinc 301 (v := x41) (ls' := [.ref 92, .int p0, junk, junk, junk, junk, .int x40, .int x41]) dX12_fact_298 rfl rfl (by rw [ex41]; rfl) rfl (Or.inr (Or.inr ⟨_, rfl, rfl⟩)) ?_
      refine X_goto 271 dX12_fact_301 rfl ?_
      exact hK271 x40 x41 M hw
def w_X12_fact_325 (L : Lay) (p0 : Int32) (p1 : Int32) (K325 : Int32 → Int32 → Mem → Prop) (v6 : Int32) (v7 : Int32) (M : Mem) (Q : Int32 → Mem → Prop) : Prop := vp_in p0 2 ∧ ((((mi M 93 (tn p0)) < v7 → (Q v6 M)) ∧ (¬ (mi M 93 (tn p0)) < v7 → (vp_in (((721 : Int32) * p0) + v7) 1442 ∧ ((((mi M 119 (tn (((721 : Int32) * p0) + v7))) = 0 → (∀ x46 : Int32, x46 = v7 + (1 : Int32) → (K325 v6 x46 M))) ∧ (¬ (mi M 119 (tn (((721 : Int32) * p0) + v7))) = 0 → (∀ x47 : Int32, x47 = v6 + (1 : Int32) → (∀ x48 : Int32, x48 = v7 + (1 : Int32) → (K325 x47 x48 M))))))))))
set_option maxRecDepth 20000 in
theorem t_X12_fact_325 {L : Lay} (hL : LY L) {p0 : Int32} {p1 : Int32}  {K325 : Int32 → Int32 → Mem → Prop} {v6 : Int32} {v7 : Int32}  {M : Mem} {Q : Int32 → Mem → Prop} (hw : w_X12_fact_325 L p0 p1 K325 v6 v7 M Q) (hK325 : ∀ (v6 : Int32) (v7 : Int32) (M : Mem), K325 v6 v7 M → X (FM (QI L Q)) RX12 cX12_fact (some .int) 8 "fact" 3 0 0 (L, M) 325 [.ref 92, .int p0, junk, junk, junk, junk, .int v6, .int v7] []) : X (FM (QI L Q)) RX12 cX12_fact (some .int) 8 "fact" 3 0 0 (L, M) 325 [.ref 92, .int p0, junk, junk, junk, junk, .int v6, .int v7] [] := by
  unfold w_X12_fact_325 at hw
  refine X_iload 327 dX12_fact_325 rfl rfl ?_
  refine X_aload_n 328 dX12_fact_327 rfl rfl ?_
  refine X_getR 331 f_X12_7 (hL.ob (c := 12) (by decide) rfl) rfl (hL.rr (by decide) rfl) dX12_fact_328 rfl ?_
  refine X_iload_n 332 dX12_fact_331 rfl rfl ?_
  obtain ⟨c42, hw⟩ := hw
  refine Y_iald 333 (k := (tn p0)) (hL.ar (t := 0) (n := 2) (by decide) rfl) c42 rfl dX12_fact_332 rfl ?_
  refine X_icmp_gt 361 336 dX12_fact_333 rfl rfl (fun c43 => ?_) (fun c43 => ?_)
  · have hw := hw.1 c43
    refine X_iload 363 dX12_fact_361 rfl rfl ?_
    exact X_ret rfl rfl dX12_fact_363 ⟨_, _, rfl, rfl, hw⟩
  · have hw := hw.2 c43
    refine X_aload_n 337 dX12_fact_336 rfl rfl ?_
    refine X_getR 340 f_X12_89 (hL.ob (c := 12) (by decide) rfl) rfl (hL.rr (by decide) rfl) dX12_fact_337 rfl ?_
    refine X_sipush 343 (v := 721) dX12_fact_340 rfl rfl ?_
    refine X_iload_n 344 dX12_fact_343 rfl rfl ?_
    refine X_imul 345 dX12_fact_344 rfl ?_
    refine X_iload 347 dX12_fact_345 rfl rfl ?_
    refine X_iadd 348 dX12_fact_347 rfl ?_
    obtain ⟨c44, hw⟩ := hw
    refine Y_zald 349 (k := (tn (((721 : Int32) * p0) + v7))) (hL.ar (t := 1) (n := 1442) (by decide) rfl) c44 rfl dX12_fact_348 rfl ?_
    refine X_if_eq 355 352 (y := 0) dX12_fact_349 rfl rfl (fun c45 => ?_) (fun c45 => ?_)
    · have hw := hw.1 c45
      obtain ⟨x46, ex46⟩ : ∃ x46 : Int32, x46 = v7 + (1 : Int32) := ⟨_, rfl⟩
      have hw := hw x46 ex46
      refine X_iinc 358 (v := x46) (ls' := [.ref 92, .int p0, junk, junk, junk, junk, .int v6, .int x46]) dX12_fact_355 rfl rfl (by rw [ex46]; rfl) rfl (Or.inr (Or.inr ⟨_, rfl, rfl⟩)) ?_
      refine X_goto 325 dX12_fact_358 rfl ?_
      exact hK325 v6 x46 M hw
    · have hw := hw.2 c45
      obtain ⟨x47, ex47⟩ : ∃ x47 : Int32, x47 = v6 + (1 : Int32) := ⟨_, rfl⟩
      have hw := hw x47 ex47
      refine X_iinc 355 (v := x47) (ls' := [.ref 92, .int p0, junk, junk, junk, junk, .int x47, .int v7]) dX12_fact_352 rfl rfl (by rw [ex47]; rfl) rfl (Or.inr (Or.inl rfl)) ?_
      obtain ⟨x48, ex48⟩ : ∃ x48 : Int32, x48 = v7 + (1 : Int32) := ⟨_, rfl⟩
      have hw := hw x48 ex48
      refine X_iinc 358 (v := x48) (ls' := [.ref 92, .int p0, junk, junk, junk, junk, .int x47, .int x48]) dX12_fact_355 rfl rfl (by rw [ex48]; rfl) rfl (Or.inr (Or.inr ⟨_, rfl, rfl⟩)) ?_
      refine X_goto 325 dX12_fact_358 rfl ?_
      exact hK325 x47 x48 M hw
def w_X12_fact_372 (L : Lay) (p0 : Int32) (p1 : Int32) (K372 : Int32 → Int32 → Mem → Prop) (v6 : Int32) (v7 : Int32) (M : Mem) (Q : Int32 → Mem → Prop) : Prop := ((v7 < (mi M 92 28) → (vp_in (((10 : Int32) * p0) + v7) 20 ∧ ((((mi M 111 (tn (((10 : Int32) * p0) + v7))) = 0 → (∀ x52 : Int32, x52 = v7 + (1 : Int32) → (K372 v6 x52 M))) ∧ (¬ (mi M 111 (tn (((10 : Int32) * p0) + v7))) = 0 → (∀ x53 : Int32, x53 = v6 + (1 : Int32) → (∀ x54 : Int32, x54 = v7 + (1 : Int32) → (K372 x53 x54 M)))))))) ∧ (¬ v7 < (mi M 92 28) → (Q v6 M)))
set_option maxRecDepth 20000 in
theorem t_X12_fact_372 {L : Lay} (hL : LY L) {p0 : Int32} {p1 : Int32}  {K372 : Int32 → Int32 → Mem → Prop} {v6 : Int32} {v7 : Int32}  {M : Mem} {Q : Int32 → Mem → Prop} (hw : w_X12_fact_372 L p0 p1 K372 v6 v7 M Q) (hK372 : ∀ (v6 : Int32) (v7 : Int32) (M : Mem), K372 v6 v7 M → X (FM (QI L Q)) RX12 cX12_fact (some .int) 8 "fact" 3 0 0 (L, M) 372 [.ref 92, .int p0, junk, junk, junk, junk, .int v6, .int v7] []) : X (FM (QI L Q)) RX12 cX12_fact (some .int) 8 "fact" 3 0 0 (L, M) 372 [.ref 92, .int p0, junk, junk, junk, junk, .int v6, .int v7] [] := by
  unfold w_X12_fact_372 at hw
  refine X_iload 374 dX12_fact_372 rfl rfl ?_
  refine X_aload_n 375 dX12_fact_374 rfl rfl ?_
  refine X_getI 378 f_X12_210 (hL.ob (c := 12) (by decide) rfl) rfl dX12_fact_375 rfl ?_
  refine X_icmp_ge 405 381 dX12_fact_378 rfl rfl (fun c49 => ?_) (fun c49 => ?_)
  · have hw := hw.2 c49
    refine X_iload 407 dX12_fact_405 rfl rfl ?_
    exact X_ret rfl rfl dX12_fact_407 ⟨_, _, rfl, rfl, hw⟩
  · have hw := hw.1 c49
    refine X_aload_n 382 dX12_fact_381 rfl rfl ?_
    refine X_getR 385 f_X12_64 (hL.ob (c := 12) (by decide) rfl) rfl (hL.rr (by decide) rfl) dX12_fact_382 rfl ?_
    refine X_bipush 387 (v := 10) dX12_fact_385 rfl rfl ?_
    refine X_iload_n 388 dX12_fact_387 rfl rfl ?_
    refine X_imul 389 dX12_fact_388 rfl ?_
    refine X_iload 391 dX12_fact_389 rfl rfl ?_
    refine X_iadd 392 dX12_fact_391 rfl ?_
    obtain ⟨c50, hw⟩ := hw
    refine Y_zald 393 (k := (tn (((10 : Int32) * p0) + v7))) (hL.ar (t := 1) (n := 20) (by decide) rfl) c50 rfl dX12_fact_392 rfl ?_
    refine X_if_eq 399 396 (y := 0) dX12_fact_393 rfl rfl (fun c51 => ?_) (fun c51 => ?_)
    · have hw := hw.1 c51
      obtain ⟨x52, ex52⟩ : ∃ x52 : Int32, x52 = v7 + (1 : Int32) := ⟨_, rfl⟩
      have hw := hw x52 ex52
      refine X_iinc 402 (v := x52) (ls' := [.ref 92, .int p0, junk, junk, junk, junk, .int v6, .int x52]) dX12_fact_399 rfl rfl (by rw [ex52]; rfl) rfl (Or.inr (Or.inr ⟨_, rfl, rfl⟩)) ?_
      refine X_goto 372 dX12_fact_402 rfl ?_
      exact hK372 v6 x52 M hw
    · have hw := hw.2 c51
      obtain ⟨x53, ex53⟩ : ∃ x53 : Int32, x53 = v6 + (1 : Int32) := ⟨_, rfl⟩
      have hw := hw x53 ex53
      refine X_iinc 399 (v := x53) (ls' := [.ref 92, .int p0, junk, junk, junk, junk, .int x53, .int v7]) dX12_fact_396 rfl rfl (by rw [ex53]; rfl) rfl (Or.inr (Or.inl rfl)) ?_
      obtain ⟨x54, ex54⟩ : ∃ x54 : Int32, x54 = v7 + (1 : Int32) := ⟨_, rfl⟩
      have hw := hw x54 ex54
      refine X_iinc 402 (v := x54) (ls' := [.ref 92, .int p0, junk, junk, junk, junk, .int x53, .int x54]) dX12_fact_399 rfl rfl (by rw [ex54]; rfl) rfl (Or.inr (Or.inr ⟨_, rfl, rfl⟩)) ?_
      refine X_goto 372 dX12_fact_402 rfl ?_
      exact hK372 x53 x54 M hw
def w_X12_fact (L : Lay) (p0 : Int32) (p1 : Int32) (M : Mem) (Q : Int32 → Mem → Prop) : Prop := vp_in p0 2 ∧ (∀ x2 : Int32, x2 = ((mi M 93 (tn p0)) / (30 : Int32)) → (∀ x3 : Int32, x3 = (if (mi M 92 68) < 0 then (0 : Int32) else (1 : Int32)) → (∀ x4 : Int32, x4 = ((((240 : Int32) * p0) + ((10 : Int32) * (x2 - (1 : Int32)))) + (mi M 92 68)) → (((p1 = (1 : Int32) → (((x3 = 0 → (Q (0 : Int32) M)) ∧ (¬ x3 = 0 → (vp_in (mi M 92 68) 10 ∧ (Q (mi M 121 (tn (mi M 92 68))) M)))))) ∧ (¬ p1 = (1 : Int32) → (((p1 = (2 : Int32) → (((x3 = 0 → (Q (0 : Int32) M)) ∧ (¬ x3 = 0 → (vp_in (mi M 92 68) 10 ∧ (Q (mi M 120 (tn (mi M 92 68))) M)))))) ∧ (¬ p1 = (2 : Int32) → (((p1 = (3 : Int32) → (((x3 = 0 → (Q (0 : Int32) M)) ∧ (¬ x3 = 0 → (vp_in (mi M 92 68) 10 ∧ (Q (mi M 122 (tn (mi M 92 68))) M)))))) ∧ (¬ p1 = (3 : Int32) → (((p1 = (4 : Int32) → (((x3 = 0 → (Q (0 : Int32) M)) ∧ (¬ x3 = 0 → (vp_in (((10 : Int32) * p0) + (mi M 92 68)) 20 ∧ (Q (mi M 107 (tn (((10 : Int32) * p0) + (mi M 92 68)))) M)))))) ∧ (¬ p1 = (4 : Int32) → (((p1 = (5 : Int32) → (((x3 = 0 → (Q (0 : Int32) M)) ∧ (¬ x3 = 0 → (((0 < x2 → (vp_in x4 480 ∧ (Q (mi M 117 (tn x4)) M))) ∧ (¬ 0 < x2 → (Q (0 : Int32) M)))))))) ∧ (¬ p1 = (5 : Int32) → (((p1 = (6 : Int32) → (((x3 = 0 → (Q (0 : Int32) M)) ∧ (¬ x3 = 0 → (((0 < x2 → (vp_in x4 480 ∧ (Q (jmax (0 : Int32) (mi M 118 (tn x4))) M))) ∧ (¬ 0 < x2 → (Q (0 : Int32) M)))))))) ∧ (¬ p1 = (6 : Int32) → (((p1 = (7 : Int32) → (Q (mi M 92 69) M)) ∧ (¬ p1 = (7 : Int32) → (((p1 = (8 : Int32) → (w_X12_priceAt L p0 (0 : Int32) M (fun x28 M27 => (Q x28 M27)))) ∧ (¬ p1 = (8 : Int32) → (((p1 = (9 : Int32) → (Q (mi M 96 (tn p0)) M)) ∧ (¬ p1 = (9 : Int32) → (((p1 = (10 : Int32) → (Q (mi M 97 (tn p0)) M)) ∧ (¬ p1 = (10 : Int32) → (((p1 = (11 : Int32) → (LP3 (fun K271 v6 v7 M => w_X12_fact_271 L p0 p1  K271 v6 v7 M Q) (0 : Int32) (0 : Int32) M)) ∧ (¬ p1 = (11 : Int32) → (((p1 = (12 : Int32) → (∀ x33 : Int32, x33 = (jmax (1 : Int32) ((mi M 93 (tn p0)) - (29 : Int32))) → (LP3 (fun K325 v6 v7 M => w_X12_fact_325 L p0 p1  K325 v6 v7 M Q) (0 : Int32) x33 M))) ∧ (¬ p1 = (12 : Int32) → (((p1 = (13 : Int32) → (Q x2 M)) ∧ (¬ p1 = (13 : Int32) → (LP3 (fun K372 v6 v7 M => w_X12_fact_372 L p0 p1  K372 v6 v7 M Q) (0 : Int32) (0 : Int32) M)))))))))))))))))))))))))))))))))))))))))))
set_option maxRecDepth 20000 in
theorem s_X12_fact {L : Lay} (hL : LY L) {p0 : Int32} {p1 : Int32}  {M : Mem} {Q : Int32 → Mem → Prop} (hw : w_X12_fact L p0 p1 M Q) : MX yX12_fact cX12_fact (some .int) 8 3 0 0 [.ref 92, .int p0, .int p1] (L, M) (QI L Q) := by
  unfold w_X12_fact at hw
  refine MX_of (by decide) [.ref 92, .int p0, .int p1, junk, junk, junk, junk, junk] (by rfl) (by exact Nat.le_of_ble_eq_true rfl) ?_
  show X (FM (QI L Q)) RX12 cX12_fact (some .int) 8 "fact" 3 0 0 (L, M) 0 [.ref 92, .int p0, .int p1, junk, junk, junk, junk, junk] []
  refine X_aload_n 1 dX12_fact_0 rfl rfl ?_
  refine X_getR 4 f_X12_7 (hL.ob (c := 12) (by decide) rfl) rfl (hL.rr (by decide) rfl) dX12_fact_1 rfl ?_
  refine X_iload_n 5 dX12_fact_4 rfl rfl ?_
  obtain ⟨c1, hw⟩ := hw
  refine Y_iald 6 (k := (tn p0)) (hL.ar (t := 0) (n := 2) (by decide) rfl) c1 rfl dX12_fact_5 rfl ?_
  refine X_bipush 8 (v := 30) dX12_fact_6 rfl rfl ?_
  refine X_idiv 9 dX12_fact_8 rfl (by decide) ?_
  refine X_nmI (fun x2 ex2 => ?_)
  have hw := hw x2 ex2
  refine X_istore_n 10 (ls' := [.ref 92, .int p0, .int p1, .int x2, junk, junk, junk, junk]) dX12_fact_9 rfl rfl (Nat.le_of_ble_eq_true rfl) rfl (Or.inr (Or.inr ⟨_, rfl, rfl⟩)) ?_
  refine X_aload_n 11 dX12_fact_10 rfl rfl ?_
  refine X_getI 14 f_X12_373 (hL.ob (c := 12) (by decide) rfl) rfl dX12_fact_11 rfl ?_
  obtain ⟨x3, ex3⟩ : ∃ x3 : Int32, x3 = (if (mi M 92 68) < 0 then (0 : Int32) else (1 : Int32)) := ⟨_, rfl⟩
  have hw := hw x3 ex3
  have bx3 : BZ x3 := by rw [ex3]; (repeat' split) <;> first | exact Or.inl rfl | exact Or.inr rfl
  have hJ : X (FM (QI L Q)) RX12 cX12_fact (some .int) 8 "fact" 3 0 0 (L, M) 22 [.ref 92, .int p0, .int p1, .int x2, junk, junk, junk, junk] [.int x3] := by
    refine X_istore 24 (ls' := [.ref 92, .int p0, .int p1, .int x2, .int x3, junk, junk, junk]) dX12_fact_22 rfl (Nat.le_of_ble_eq_true rfl) rfl (Or.inr (Or.inr ⟨_, rfl, rfl⟩)) ?_
    refine X_sipush 27 (v := 240) dX12_fact_24 rfl rfl ?_
    refine X_iload_n 28 dX12_fact_27 rfl rfl ?_
    refine X_imul 29 dX12_fact_28 rfl ?_
    refine X_bipush 31 (v := 10) dX12_fact_29 rfl rfl ?_
    refine X_iload_n 32 dX12_fact_31 rfl rfl ?_
    refine X_iconst 33 (v := 1) dX12_fact_32 rfl rfl ?_
    refine X_isub 34 dX12_fact_33 rfl ?_
    refine X_imul 35 dX12_fact_34 rfl ?_
    refine X_iadd 36 dX12_fact_35 rfl ?_
    refine X_aload_n 37 dX12_fact_36 rfl rfl ?_
    refine X_getI 40 f_X12_373 (hL.ob (c := 12) (by decide) rfl) rfl dX12_fact_37 rfl ?_
    refine X_iadd 41 dX12_fact_40 rfl ?_
    refine X_nmI (fun x4 ex4 => ?_)
    have hw := hw x4 ex4
    refine X_istore 43 (ls' := [.ref 92, .int p0, .int p1, .int x2, .int x3, .int x4, junk, junk]) dX12_fact_41 rfl (Nat.le_of_ble_eq_true rfl) rfl (Or.inr (Or.inr ⟨_, rfl, rfl⟩)) ?_
    refine X_iload_n 44 dX12_fact_43 rfl rfl ?_
    by_cases c5 : p1 = (1 : Int32)
    · have hw := hw.1 c5
      refine Y_tableIn 112 (k := 1) (off := 68) c5 dX12_fact_44 (by decide) (by decide) rfl rfl ?_
      refine X_iload 114 dX12_fact_112 rfl rfl ?_
      refine X_if_eq 129 117 (y := 0) dX12_fact_114 rfl rfl (fun c6 => ?_) (fun c6 => ?_)
      · have hw := hw.1 c6
        refine X_iconst 130 (v := 0) dX12_fact_129 rfl rfl ?_
        exact X_ret rfl rfl dX12_fact_130 ⟨_, _, rfl, rfl, hw⟩
      · have hw := hw.2 c6
        refine X_aload_n 118 dX12_fact_117 rfl rfl ?_
        refine X_getR 121 f_X12_95 (hL.ob (c := 12) (by decide) rfl) rfl (hL.rr (by decide) rfl) dX12_fact_118 rfl ?_
        refine X_aload_n 122 dX12_fact_121 rfl rfl ?_
        refine X_getI 125 f_X12_373 (hL.ob (c := 12) (by decide) rfl) rfl dX12_fact_122 rfl ?_
        obtain ⟨c7, hw⟩ := hw
        refine Y_iald 126 (k := (tn (mi M 92 68))) (hL.ar (t := 0) (n := 10) (by decide) rfl) c7 rfl dX12_fact_125 rfl ?_
        refine X_goto 130 dX12_fact_126 rfl ?_
        exact X_ret rfl rfl dX12_fact_130 ⟨_, _, rfl, rfl, hw⟩
    · have hw := hw.2 c5
      by_cases c8 : p1 = (2 : Int32)
      · have hw := hw.1 c8
        refine Y_tableIn 131 (k := 2) (off := 87) c8 dX12_fact_44 (by decide) (by decide) rfl rfl ?_
        refine X_iload 133 dX12_fact_131 rfl rfl ?_
        refine X_if_eq 148 136 (y := 0) dX12_fact_133 rfl rfl (fun c9 => ?_) (fun c9 => ?_)
        · have hw := hw.1 c9
          refine X_iconst 149 (v := 0) dX12_fact_148 rfl rfl ?_
          exact X_ret rfl rfl dX12_fact_149 ⟨_, _, rfl, rfl, hw⟩
        · have hw := hw.2 c9
          refine X_aload_n 137 dX12_fact_136 rfl rfl ?_
          refine X_getR 140 f_X12_92 (hL.ob (c := 12) (by decide) rfl) rfl (hL.rr (by decide) rfl) dX12_fact_137 rfl ?_
          refine X_aload_n 141 dX12_fact_140 rfl rfl ?_
          refine X_getI 144 f_X12_373 (hL.ob (c := 12) (by decide) rfl) rfl dX12_fact_141 rfl ?_
          obtain ⟨c10, hw⟩ := hw
          refine Y_iald 145 (k := (tn (mi M 92 68))) (hL.ar (t := 0) (n := 10) (by decide) rfl) c10 rfl dX12_fact_144 rfl ?_
          refine X_goto 149 dX12_fact_145 rfl ?_
          exact X_ret rfl rfl dX12_fact_149 ⟨_, _, rfl, rfl, hw⟩
      · have hw := hw.2 c8
        by_cases c11 : p1 = (3 : Int32)
        · have hw := hw.1 c11
          refine Y_tableIn 150 (k := 3) (off := 106) c11 dX12_fact_44 (by decide) (by decide) rfl rfl ?_
          refine X_iload 152 dX12_fact_150 rfl rfl ?_
          refine X_if_eq 167 155 (y := 0) dX12_fact_152 rfl rfl (fun c12 => ?_) (fun c12 => ?_)
          · have hw := hw.1 c12
            refine X_iconst 168 (v := 0) dX12_fact_167 rfl rfl ?_
            exact X_ret rfl rfl dX12_fact_168 ⟨_, _, rfl, rfl, hw⟩
          · have hw := hw.2 c12
            refine X_aload_n 156 dX12_fact_155 rfl rfl ?_
            refine X_getR 159 f_X12_98 (hL.ob (c := 12) (by decide) rfl) rfl (hL.rr (by decide) rfl) dX12_fact_156 rfl ?_
            refine X_aload_n 160 dX12_fact_159 rfl rfl ?_
            refine X_getI 163 f_X12_373 (hL.ob (c := 12) (by decide) rfl) rfl dX12_fact_160 rfl ?_
            obtain ⟨c13, hw⟩ := hw
            refine Y_iald 164 (k := (tn (mi M 92 68))) (hL.ar (t := 0) (n := 10) (by decide) rfl) c13 rfl dX12_fact_163 rfl ?_
            refine X_goto 168 dX12_fact_164 rfl ?_
            exact X_ret rfl rfl dX12_fact_168 ⟨_, _, rfl, rfl, hw⟩
        · have hw := hw.2 c11
          by_cases c14 : p1 = (4 : Int32)
          · have hw := hw.1 c14
            refine Y_tableIn 169 (k := 4) (off := 125) c14 dX12_fact_44 (by decide) (by decide) rfl rfl ?_
            refine X_iload 171 dX12_fact_169 rfl rfl ?_
            refine X_if_eq 191 174 (y := 0) dX12_fact_171 rfl rfl (fun c15 => ?_) (fun c15 => ?_)
            · have hw := hw.1 c15
              refine X_iconst 192 (v := 0) dX12_fact_191 rfl rfl ?_
              exact X_ret rfl rfl dX12_fact_192 ⟨_, _, rfl, rfl, hw⟩
            · have hw := hw.2 c15
              refine X_aload_n 175 dX12_fact_174 rfl rfl ?_
              refine X_getR 178 f_X12_52 (hL.ob (c := 12) (by decide) rfl) rfl (hL.rr (by decide) rfl) dX12_fact_175 rfl ?_
              refine X_bipush 180 (v := 10) dX12_fact_178 rfl rfl ?_
              refine X_iload_n 181 dX12_fact_180 rfl rfl ?_
              refine X_imul 182 dX12_fact_181 rfl ?_
              refine X_aload_n 183 dX12_fact_182 rfl rfl ?_
              refine X_getI 186 f_X12_373 (hL.ob (c := 12) (by decide) rfl) rfl dX12_fact_183 rfl ?_
              refine X_iadd 187 dX12_fact_186 rfl ?_
              obtain ⟨c16, hw⟩ := hw
              refine Y_iald 188 (k := (tn (((10 : Int32) * p0) + (mi M 92 68)))) (hL.ar (t := 0) (n := 20) (by decide) rfl) c16 rfl dX12_fact_187 rfl ?_
              refine X_goto 192 dX12_fact_188 rfl ?_
              exact X_ret rfl rfl dX12_fact_192 ⟨_, _, rfl, rfl, hw⟩
          · have hw := hw.2 c14
            by_cases c17 : p1 = (5 : Int32)
            · have hw := hw.1 c17
              refine Y_tableIn 193 (k := 5) (off := 149) c17 dX12_fact_44 (by decide) (by decide) rfl rfl ?_
              refine X_iload 195 dX12_fact_193 rfl rfl ?_
              refine X_if_eq 212 198 (y := 0) dX12_fact_195 rfl rfl (fun c18 => ?_) (fun c18 => ?_)
              · have hw := hw.1 c18
                refine X_iconst 213 (v := 0) dX12_fact_212 rfl rfl ?_
                exact X_ret rfl rfl dX12_fact_213 ⟨_, _, rfl, rfl, hw⟩
              · have hw := hw.2 c18
                refine X_iload_n 199 dX12_fact_198 rfl rfl ?_
                refine X_if_le 212 202 (y := 0) dX12_fact_199 rfl rfl (fun c19 => ?_) (fun c19 => ?_)
                · have hw := hw.2 c19
                  refine X_iconst 213 (v := 0) dX12_fact_212 rfl rfl ?_
                  exact X_ret rfl rfl dX12_fact_213 ⟨_, _, rfl, rfl, hw⟩
                · have hw := hw.1 c19
                  refine X_aload_n 203 dX12_fact_202 rfl rfl ?_
                  refine X_getR 206 f_X12_83 (hL.ob (c := 12) (by decide) rfl) rfl (hL.rr (by decide) rfl) dX12_fact_203 rfl ?_
                  refine X_iload 208 dX12_fact_206 rfl rfl ?_
                  obtain ⟨c20, hw⟩ := hw
                  refine Y_iald 209 (k := (tn x4)) (hL.ar (t := 0) (n := 480) (by decide) rfl) c20 rfl dX12_fact_208 rfl ?_
                  refine X_goto 213 dX12_fact_209 rfl ?_
                  exact X_ret rfl rfl dX12_fact_213 ⟨_, _, rfl, rfl, hw⟩
            · have hw := hw.2 c17
              by_cases c21 : p1 = (6 : Int32)
              · have hw := hw.1 c21
                refine Y_tableIn 214 (k := 6) (off := 170) c21 dX12_fact_44 (by decide) (by decide) rfl rfl ?_
                refine X_iload 216 dX12_fact_214 rfl rfl ?_
                refine X_if_eq 237 219 (y := 0) dX12_fact_216 rfl rfl (fun c22 => ?_) (fun c22 => ?_)
                · have hw := hw.1 c22
                  refine X_iconst 238 (v := 0) dX12_fact_237 rfl rfl ?_
                  exact X_ret rfl rfl dX12_fact_238 ⟨_, _, rfl, rfl, hw⟩
                · have hw := hw.2 c22
                  refine X_iload_n 220 dX12_fact_219 rfl rfl ?_
                  refine X_if_le 237 223 (y := 0) dX12_fact_220 rfl rfl (fun c23 => ?_) (fun c23 => ?_)
                  · have hw := hw.2 c23
                    refine X_iconst 238 (v := 0) dX12_fact_237 rfl rfl ?_
                    exact X_ret rfl rfl dX12_fact_238 ⟨_, _, rfl, rfl, hw⟩
                  · have hw := hw.1 c23
                    refine X_iconst 224 (v := 0) dX12_fact_223 rfl rfl ?_
                    refine X_aload_n 225 dX12_fact_224 rfl rfl ?_
                    refine X_getR 228 f_X12_86 (hL.ob (c := 12) (by decide) rfl) rfl (hL.rr (by decide) rfl) dX12_fact_225 rfl ?_
                    refine X_iload 230 dX12_fact_228 rfl rfl ?_
                    obtain ⟨c24, hw⟩ := hw
                    refine Y_iald 231 (k := (tn x4)) (hL.ar (t := 0) (n := 480) (by decide) rfl) c24 rfl dX12_fact_230 rfl ?_
                    refine Y_mmax 234 l_X12_228 (by decide) (Nat.le_of_ble_eq_true rfl) dX12_fact_231 rfl ?_
                    refine X_goto 238 dX12_fact_234 rfl ?_
                    exact X_ret rfl rfl dX12_fact_238 ⟨_, _, rfl, rfl, hw⟩
              · have hw := hw.2 c21
                by_cases c25 : p1 = (7 : Int32)
                · have hw := hw.1 c25
                  refine Y_tableIn 239 (k := 7) (off := 195) c25 dX12_fact_44 (by decide) (by decide) rfl rfl ?_
                  refine X_aload_n 240 dX12_fact_239 rfl rfl ?_
                  refine X_getI 243 f_X12_376 (hL.ob (c := 12) (by decide) rfl) rfl dX12_fact_240 rfl ?_
                  exact X_ret rfl rfl dX12_fact_243 ⟨_, _, rfl, rfl, hw⟩
                · have hw := hw.2 c25
                  by_cases c26 : p1 = (8 : Int32)
                  · have hw := hw.1 c26
                    refine Y_tableIn 244 (k := 8) (off := 200) c26 dX12_fact_44 (by decide) (by decide) rfl rfl ?_
                    refine X_aload_n 245 dX12_fact_244 rfl rfl ?_
                    refine X_iload_n 246 dX12_fact_245 rfl rfl ?_
                    refine X_iconst 247 (v := 0) dX12_fact_246 rfl rfl ?_
                    refine Y_cVI 250 (as := [.int p0, .int (0 : Int32)]) m_X12_234 (s_X12_priceAt hL  hw) (hL.ob (c := 12) (by decide) rfl) rfl (by decide) (Nat.le_of_ble_eq_true rfl) dX12_fact_247 rfl rfl (fun x28 M27 hw => ?_)
                    exact X_ret rfl rfl dX12_fact_250 ⟨_, _, rfl, rfl, hw⟩
                  · have hw := hw.2 c26
                    by_cases c29 : p1 = (9 : Int32)
                    · have hw := hw.1 c29
                      refine Y_tableIn 251 (k := 9) (off := 207) c29 dX12_fact_44 (by decide) (by decide) rfl rfl ?_
                      refine X_aload_n 252 dX12_fact_251 rfl rfl ?_
                      refine X_getR 255 f_X12_19 (hL.ob (c := 12) (by decide) rfl) rfl (hL.rr (by decide) rfl) dX12_fact_252 rfl ?_
                      refine X_iload_n 256 dX12_fact_255 rfl rfl ?_
                      refine Y_iald 257 (k := (tn p0)) (hL.ar (t := 0) (n := 2) (by decide) rfl) c1 rfl dX12_fact_256 rfl ?_
                      exact X_ret rfl rfl dX12_fact_257 ⟨_, _, rfl, rfl, hw⟩
                    · have hw := hw.2 c29
                      by_cases c30 : p1 = (10 : Int32)
                      · have hw := hw.1 c30
                        refine Y_tableIn 258 (k := 10) (off := 214) c30 dX12_fact_44 (by decide) (by decide) rfl rfl ?_
                        refine X_aload_n 259 dX12_fact_258 rfl rfl ?_
                        refine X_getR 262 f_X12_22 (hL.ob (c := 12) (by decide) rfl) rfl (hL.rr (by decide) rfl) dX12_fact_259 rfl ?_
                        refine X_iload_n 263 dX12_fact_262 rfl rfl ?_
                        refine Y_iald 264 (k := (tn p0)) (hL.ar (t := 0) (n := 2) (by decide) rfl) c1 rfl dX12_fact_263 rfl ?_
                        exact X_ret rfl rfl dX12_fact_264 ⟨_, _, rfl, rfl, hw⟩
                      · have hw := hw.2 c30
                        by_cases c31 : p1 = (11 : Int32)
                        · have hw := hw.1 c31
                          refine Y_tableIn 265 (k := 11) (off := 221) c31 dX12_fact_44 (by decide) (by decide) rfl rfl ?_
                          refine X_iconst 266 (v := 0) dX12_fact_265 rfl rfl ?_
                          refine X_istore 268 (ls' := [.ref 92, .int p0, .int p1, .int x2, .int x3, .int x4, .int (0 : Int32), junk]) dX12_fact_266 rfl (Nat.le_of_ble_eq_true rfl) rfl (Or.inr (Or.inr ⟨_, rfl, rfl⟩)) ?_
                          refine X_iconst 269 (v := 0) dX12_fact_268 rfl rfl ?_
                          refine X_istore 271 (ls' := [.ref 92, .int p0, .int p1, .int x2, .int x3, .int x4, .int (0 : Int32), .int (0 : Int32)]) dX12_fact_269 rfl (Nat.le_of_ble_eq_true rfl) rfl (Or.inr (Or.inr ⟨_, rfl, rfl⟩)) ?_
                          refine X_weak (ls' := [.ref 92, .int p0, junk, junk, junk, junk, .int (0 : Int32), .int (0 : Int32)]) (WK.s (WK.s (WK.j (WK.j (WK.j (WK.j (WK.s (WK.s WK.n)))))))) (Nat.le_of_ble_eq_true rfl) ?_
                          exact LP3_s hw (G := fun v6 v7 M => X (FM (QI L Q)) RX12 cX12_fact (some .int) 8 "fact" 3 0 0 (L, M) 271 [.ref 92, .int p0, junk, junk, junk, junk, .int v6, .int v7] []) (fun K271 v6 v7 M hb hK => t_X12_fact_271 hL  hb  hK)
                        · have hw := hw.2 c31
                          by_cases c32 : p1 = (12 : Int32)
                          · have hw := hw.1 c32
                            refine Y_tableIn 307 (k := 12) (off := 263) c32 dX12_fact_44 (by decide) (by decide) rfl rfl ?_
                            refine X_iconst 308 (v := 0) dX12_fact_307 rfl rfl ?_
                            refine X_istore 310 (ls' := [.ref 92, .int p0, .int p1, .int x2, .int x3, .int x4, .int (0 : Int32), junk]) dX12_fact_308 rfl (Nat.le_of_ble_eq_true rfl) rfl (Or.inr (Or.inr ⟨_, rfl, rfl⟩)) ?_
                            refine X_iconst 311 (v := 1) dX12_fact_310 rfl rfl ?_
                            refine X_aload_n 312 dX12_fact_311 rfl rfl ?_
                            refine X_getR 315 f_X12_7 (hL.ob (c := 12) (by decide) rfl) rfl (hL.rr (by decide) rfl) dX12_fact_312 rfl ?_
                            refine X_iload_n 316 dX12_fact_315 rfl rfl ?_
                            refine Y_iald 317 (k := (tn p0)) (hL.ar (t := 0) (n := 2) (by decide) rfl) c1 rfl dX12_fact_316 rfl ?_
                            refine X_bipush 319 (v := 29) dX12_fact_317 rfl rfl ?_
                            refine X_isub 320 dX12_fact_319 rfl ?_
                            refine Y_mmax 323 l_X12_228 (by decide) (Nat.le_of_ble_eq_true rfl) dX12_fact_320 rfl ?_
                            refine X_nmI (fun x33 ex33 => ?_)
                            have hw := hw x33 ex33
                            refine X_istore 325 (ls' := [.ref 92, .int p0, .int p1, .int x2, .int x3, .int x4, .int (0 : Int32), .int x33]) dX12_fact_323 rfl (Nat.le_of_ble_eq_true rfl) rfl (Or.inr (Or.inr ⟨_, rfl, rfl⟩)) ?_
                            refine X_weak (ls' := [.ref 92, .int p0, junk, junk, junk, junk, .int (0 : Int32), .int x33]) (WK.s (WK.s (WK.j (WK.j (WK.j (WK.j (WK.s (WK.s WK.n)))))))) (Nat.le_of_ble_eq_true rfl) ?_
                            exact LP3_s hw (G := fun v6 v7 M => X (FM (QI L Q)) RX12 cX12_fact (some .int) 8 "fact" 3 0 0 (L, M) 325 [.ref 92, .int p0, junk, junk, junk, junk, .int v6, .int v7] []) (fun K325 v6 v7 M hb hK => t_X12_fact_325 hL  hb  hK)
                          · have hw := hw.2 c32
                            by_cases c34 : p1 = (13 : Int32)
                            · have hw := hw.1 c34
                              refine Y_tableIn 364 (k := 13) (off := 320) c34 dX12_fact_44 (by decide) (by decide) rfl rfl ?_
                              refine X_iload_n 365 dX12_fact_364 rfl rfl ?_
                              exact X_ret rfl rfl dX12_fact_365 ⟨_, _, rfl, rfl, hw⟩
                            · have hw := hw.2 c34
                              have hout : p1.toInt < 1 ∨ 13 < p1.toInt := by
                                have hc5 : ¬ p1.toInt = 1 := fun h => c5 (Int32.toInt_inj.mp (h.trans (by decide)))
                                have hc8 : ¬ p1.toInt = 2 := fun h => c8 (Int32.toInt_inj.mp (h.trans (by decide)))
                                have hc11 : ¬ p1.toInt = 3 := fun h => c11 (Int32.toInt_inj.mp (h.trans (by decide)))
                                have hc14 : ¬ p1.toInt = 4 := fun h => c14 (Int32.toInt_inj.mp (h.trans (by decide)))
                                have hc17 : ¬ p1.toInt = 5 := fun h => c17 (Int32.toInt_inj.mp (h.trans (by decide)))
                                have hc21 : ¬ p1.toInt = 6 := fun h => c21 (Int32.toInt_inj.mp (h.trans (by decide)))
                                have hc25 : ¬ p1.toInt = 7 := fun h => c25 (Int32.toInt_inj.mp (h.trans (by decide)))
                                have hc26 : ¬ p1.toInt = 8 := fun h => c26 (Int32.toInt_inj.mp (h.trans (by decide)))
                                have hc29 : ¬ p1.toInt = 9 := fun h => c29 (Int32.toInt_inj.mp (h.trans (by decide)))
                                have hc30 : ¬ p1.toInt = 10 := fun h => c30 (Int32.toInt_inj.mp (h.trans (by decide)))
                                have hc31 : ¬ p1.toInt = 11 := fun h => c31 (Int32.toInt_inj.mp (h.trans (by decide)))
                                have hc32 : ¬ p1.toInt = 12 := fun h => c32 (Int32.toInt_inj.mp (h.trans (by decide)))
                                have hc34 : ¬ p1.toInt = 13 := fun h => c34 (Int32.toInt_inj.mp (h.trans (by decide)))
                                omega
                              refine X_tableOut 366 dX12_fact_44 hout rfl ?_
                              refine X_iconst 367 (v := 0) dX12_fact_366 rfl rfl ?_
                              refine X_istore 369 (ls' := [.ref 92, .int p0, .int p1, .int x2, .int x3, .int x4, .int (0 : Int32), junk]) dX12_fact_367 rfl (Nat.le_of_ble_eq_true rfl) rfl (Or.inr (Or.inr ⟨_, rfl, rfl⟩)) ?_
                              refine X_iconst 370 (v := 0) dX12_fact_369 rfl rfl ?_
                              refine X_istore 372 (ls' := [.ref 92, .int p0, .int p1, .int x2, .int x3, .int x4, .int (0 : Int32), .int (0 : Int32)]) dX12_fact_370 rfl (Nat.le_of_ble_eq_true rfl) rfl (Or.inr (Or.inr ⟨_, rfl, rfl⟩)) ?_
                              refine X_weak (ls' := [.ref 92, .int p0, junk, junk, junk, junk, .int (0 : Int32), .int (0 : Int32)]) (WK.s (WK.s (WK.j (WK.j (WK.j (WK.j (WK.s (WK.s WK.n)))))))) (Nat.le_of_ble_eq_true rfl) ?_
                              exact LP3_s hw (G := fun v6 v7 M => X (FM (QI L Q)) RX12 cX12_fact (some .int) 8 "fact" 3 0 0 (L, M) 372 [.ref 92, .int p0, junk, junk, junk, junk, .int v6, .int v7] []) (fun K372 v6 v7 M hb hK => t_X12_fact_372 hL  hb  hK)
  refine X_if_lt 21 17 (y := 0) dX12_fact_14 rfl rfl (fun c35 => ?_) (fun c35 => ?_)
  · refine X_iconst 22 (v := 0) dX12_fact_21 rfl rfl ?_
    rw [if_pos c35] at ex3
    rw [ex3] at hJ
    exact hJ
  · refine X_iconst 18 (v := 1) dX12_fact_17 rfl rfl ?_
    refine X_goto 22 dX12_fact_18 rfl ?_
    rw [if_neg c35] at ex3
    rw [ex3] at hJ
    exact hJ
def w_X12_worth_60 (L : Lay) (p0 : Int32) (p1 : Int32) (p2 : Int32) (K21 : Int32 → Int32 → Mem → Prop) (v4 : Int32) (v5 : Int32) (v6 : Int32) (M : Mem) (Q : Int32 → Mem → Prop) : Prop := ∀ x29 : Int32, x29 = v4 + (1 : Int32) → (∀ x30 : Int32, x30 = (if v6 = (30 : Int32) then (1 : Int32) else (0 : Int32)) → (vp_in x29 6 ∧ (∀ M32 : Mem, M32 = si M 146 (tn x29) x30 → (w_X12_opens L x29 M32 (fun M33 => (∀ x34 : Int32, x34 = v5 + (1 : Int32) → (K21 x29 x34 M33)))))))
set_option maxRecDepth 20000 in
theorem t_X12_worth_60 {L : Lay} (hL : LY L) {p0 : Int32} {p1 : Int32} {p2 : Int32}  {K21 : Int32 → Int32 → Mem → Prop} {v4 : Int32} {v5 : Int32} {v6 : Int32}  {M : Mem} {Q : Int32 → Mem → Prop} (hw : w_X12_worth_60 L p0 p1 p2 K21 v4 v5 v6 M Q) (hK21 : ∀ (v4 : Int32) (v5 : Int32) (M : Mem), K21 v4 v5 M → X (FM (QI L Q)) RX12 cX12_worth (some .int) 8 "worth" 4 0 0 (L, M) 21 [.ref 92, .int p0, .int p1, .int p2, .int v4, .int v5, junk, junk] []) : X (FM (QI L Q)) RX12 cX12_worth (some .int) 8 "worth" 4 0 0 (L, M) 60 [.ref 92, .int p0, .int p1, .int p2, .int v4, .int v5, .int v6, junk] [] := by
  unfold w_X12_worth_60 at hw
  obtain ⟨x29, ex29⟩ : ∃ x29 : Int32, x29 = v4 + (1 : Int32) := ⟨_, rfl⟩
  have hw := hw x29 ex29
  refine X_iinc 63 (v := x29) (ls' := [.ref 92, .int p0, .int p1, .int p2, .int x29, .int v5, .int v6, junk]) dX12_worth_60 rfl rfl (by rw [ex29]; rfl) rfl (Or.inr (Or.inr ⟨_, rfl, rfl⟩)) ?_
  refine X_aload_n 64 dX12_worth_63 rfl rfl ?_
  refine X_getR 67 f_X12_170 (hL.ob (c := 12) (by decide) rfl) rfl (hL.rr (by decide) rfl) dX12_worth_64 rfl ?_
  refine X_iload 69 dX12_worth_67 rfl rfl ?_
  refine X_iload 71 dX12_worth_69 rfl rfl ?_
  refine X_bipush 73 (v := 30) dX12_worth_71 rfl rfl ?_
  obtain ⟨x30, ex30⟩ : ∃ x30 : Int32, x30 = (if v6 = (30 : Int32) then (1 : Int32) else (0 : Int32)) := ⟨_, rfl⟩
  have hw := hw x30 ex30
  have bx30 : BZ x30 := by rw [ex30]; (repeat' split) <;> first | exact Or.inl rfl | exact Or.inr rfl
  have hJ : X (FM (QI L Q)) RX12 cX12_worth (some .int) 8 "worth" 4 0 0 (L, M) 81 [.ref 92, .int p0, .int p1, .int p2, .int x29, .int v5, .int v6, junk] [.int x30, .int x29, .ref 146] := by
    obtain ⟨c31, hw⟩ := hw
    refine Y_iast 82 (k := (tn x29)) (hL.ar (t := 0) (n := 6) (by decide) rfl) c31 rfl dX12_worth_81 rfl ?_
    refine X_nmM (fun M32 eM32 => ?_)
    have hw := hw M32 eM32
    refine X_aload_n 83 dX12_worth_82 rfl rfl ?_
    refine X_iload 85 dX12_worth_83 rfl rfl ?_
    refine Y_cVV 88 (as := [.int x29]) m_X12_379 (s_X12_opens hL  hw) (hL.ob (c := 12) (by decide) rfl) rfl (by decide) (Nat.le_of_ble_eq_true rfl) dX12_worth_85 rfl rfl (fun M33 hw => ?_)
    refine X_goto 406 dX12_worth_88 rfl ?_
    obtain ⟨x34, ex34⟩ : ∃ x34 : Int32, x34 = v5 + (1 : Int32) := ⟨_, rfl⟩
    have hw := hw x34 ex34
    refine X_iinc 409 (v := x34) (ls' := [.ref 92, .int p0, .int p1, .int p2, .int x29, .int x34, .int v6, junk]) dX12_worth_406 rfl rfl (by rw [ex34]; rfl) rfl (Or.inr (Or.inr ⟨_, rfl, rfl⟩)) ?_
    refine X_goto 21 dX12_worth_409 rfl ?_
    refine X_weak (ls' := [.ref 92, .int p0, .int p1, .int p2, .int x29, .int x34, junk, junk]) (WK.s (WK.s (WK.s (WK.s (WK.s (WK.s (WK.j (WK.s WK.n)))))))) (Nat.le_of_ble_eq_true rfl) ?_
    exact hK21 x29 x34 M33 hw
  refine X_icmp_ne 80 76 dX12_worth_73 rfl rfl (fun c35 => ?_) (fun c35 => ?_)
  · refine X_iconst 81 (v := 0) dX12_worth_80 rfl rfl ?_
    rw [if_neg c35] at ex30
    rw [ex30] at hJ
    exact hJ
  · refine X_iconst 77 (v := 1) dX12_worth_76 rfl rfl ?_
    refine X_goto 81 dX12_worth_77 rfl ?_
    rw [if_pos c35] at ex30
    rw [ex30] at hJ
    exact hJ
def w_X12_worth_105 (L : Lay) (p0 : Int32) (p1 : Int32) (p2 : Int32) (K21 : Int32 → Int32 → Mem → Prop) (v4 : Int32) (v5 : Int32) (v6 : Int32) (M : Mem) (Q : Int32 → Mem → Prop) : Prop := w_X12_sums L v4 M (fun M36 => (vp_in v4 6 ∧ (∀ M38 : Mem, M38 = si M36 143 (tn v4) v6 → (∀ x39 : Int32, x39 = v5 + (1 : Int32) → (K21 v4 x39 M38)))))
set_option maxRecDepth 20000 in
theorem t_X12_worth_105 {L : Lay} (hL : LY L) {p0 : Int32} {p1 : Int32} {p2 : Int32}  {K21 : Int32 → Int32 → Mem → Prop} {v4 : Int32} {v5 : Int32} {v6 : Int32}  {M : Mem} {Q : Int32 → Mem → Prop} (hw : w_X12_worth_105 L p0 p1 p2 K21 v4 v5 v6 M Q) (hK21 : ∀ (v4 : Int32) (v5 : Int32) (M : Mem), K21 v4 v5 M → X (FM (QI L Q)) RX12 cX12_worth (some .int) 8 "worth" 4 0 0 (L, M) 21 [.ref 92, .int p0, .int p1, .int p2, .int v4, .int v5, junk, junk] []) : X (FM (QI L Q)) RX12 cX12_worth (some .int) 8 "worth" 4 0 0 (L, M) 105 [.ref 92, .int p0, .int p1, .int p2, .int v4, .int v5, .int v6, junk] [] := by
  unfold w_X12_worth_105 at hw
  refine X_aload_n 106 dX12_worth_105 rfl rfl ?_
  refine X_iload 108 dX12_worth_106 rfl rfl ?_
  refine Y_cVV 111 (as := [.int v4]) m_X12_370 (s_X12_sums hL  hw) (hL.ob (c := 12) (by decide) rfl) rfl (by decide) (Nat.le_of_ble_eq_true rfl) dX12_worth_108 rfl rfl (fun M36 hw => ?_)
  refine X_aload_n 112 dX12_worth_111 rfl rfl ?_
  refine X_getR 115 f_X12_161 (hL.ob (c := 12) (by decide) rfl) rfl (hL.rr (by decide) rfl) dX12_worth_112 rfl ?_
  refine X_iload 117 dX12_worth_115 rfl rfl ?_
  refine X_iload 119 dX12_worth_117 rfl rfl ?_
  obtain ⟨c37, hw⟩ := hw
  refine Y_iast 120 (k := (tn v4)) (hL.ar (t := 0) (n := 6) (by decide) rfl) c37 rfl dX12_worth_119 rfl ?_
  refine X_nmM (fun M38 eM38 => ?_)
  have hw := hw M38 eM38
  refine X_goto 406 dX12_worth_120 rfl ?_
  obtain ⟨x39, ex39⟩ : ∃ x39 : Int32, x39 = v5 + (1 : Int32) := ⟨_, rfl⟩
  have hw := hw x39 ex39
  refine X_iinc 409 (v := x39) (ls' := [.ref 92, .int p0, .int p1, .int p2, .int v4, .int x39, .int v6, junk]) dX12_worth_406 rfl rfl (by rw [ex39]; rfl) rfl (Or.inr (Or.inr ⟨_, rfl, rfl⟩)) ?_
  refine X_goto 21 dX12_worth_409 rfl ?_
  refine X_weak (ls' := [.ref 92, .int p0, .int p1, .int p2, .int v4, .int x39, junk, junk]) (WK.s (WK.s (WK.s (WK.s (WK.s (WK.s (WK.j (WK.s WK.n)))))))) (Nat.le_of_ble_eq_true rfl) ?_
  exact hK21 v4 x39 M38 hw
def w_X12_worth_137 (L : Lay) (p0 : Int32) (p1 : Int32) (p2 : Int32) (K21 : Int32 → Int32 → Mem → Prop) (v4 : Int32) (v5 : Int32) (v6 : Int32) (M : Mem) (Q : Int32 → Mem → Prop) : Prop := vp_in v4 6 ∧ (∀ M41 : Mem, M41 = si M 145 (tn v4) v6 → (∀ x42 : Int32, x42 = v5 + (1 : Int32) → (K21 v4 x42 M41)))
set_option maxRecDepth 20000 in
theorem t_X12_worth_137 {L : Lay} (hL : LY L) {p0 : Int32} {p1 : Int32} {p2 : Int32}  {K21 : Int32 → Int32 → Mem → Prop} {v4 : Int32} {v5 : Int32} {v6 : Int32}  {M : Mem} {Q : Int32 → Mem → Prop} (hw : w_X12_worth_137 L p0 p1 p2 K21 v4 v5 v6 M Q) (hK21 : ∀ (v4 : Int32) (v5 : Int32) (M : Mem), K21 v4 v5 M → X (FM (QI L Q)) RX12 cX12_worth (some .int) 8 "worth" 4 0 0 (L, M) 21 [.ref 92, .int p0, .int p1, .int p2, .int v4, .int v5, junk, junk] []) : X (FM (QI L Q)) RX12 cX12_worth (some .int) 8 "worth" 4 0 0 (L, M) 137 [.ref 92, .int p0, .int p1, .int p2, .int v4, .int v5, .int v6, junk] [] := by
  unfold w_X12_worth_137 at hw
  refine X_aload_n 138 dX12_worth_137 rfl rfl ?_
  refine X_getR 141 f_X12_167 (hL.ob (c := 12) (by decide) rfl) rfl (hL.rr (by decide) rfl) dX12_worth_138 rfl ?_
  refine X_iload 143 dX12_worth_141 rfl rfl ?_
  refine X_iload 145 dX12_worth_143 rfl rfl ?_
  obtain ⟨c40, hw⟩ := hw
  refine Y_iast 146 (k := (tn v4)) (hL.ar (t := 0) (n := 6) (by decide) rfl) c40 rfl dX12_worth_145 rfl ?_
  refine X_nmM (fun M41 eM41 => ?_)
  have hw := hw M41 eM41
  refine X_goto 406 dX12_worth_146 rfl ?_
  obtain ⟨x42, ex42⟩ : ∃ x42 : Int32, x42 = v5 + (1 : Int32) := ⟨_, rfl⟩
  have hw := hw x42 ex42
  refine X_iinc 409 (v := x42) (ls' := [.ref 92, .int p0, .int p1, .int p2, .int v4, .int x42, .int v6, junk]) dX12_worth_406 rfl rfl (by rw [ex42]; rfl) rfl (Or.inr (Or.inr ⟨_, rfl, rfl⟩)) ?_
  refine X_goto 21 dX12_worth_409 rfl ?_
  refine X_weak (ls' := [.ref 92, .int p0, .int p1, .int p2, .int v4, .int x42, junk, junk]) (WK.s (WK.s (WK.s (WK.s (WK.s (WK.s (WK.j (WK.s WK.n)))))))) (Nat.le_of_ble_eq_true rfl) ?_
  exact hK21 v4 x42 M41 hw
def w_X12_worth_163 (L : Lay) (p0 : Int32) (p1 : Int32) (p2 : Int32) (K21 : Int32 → Int32 → Mem → Prop) (v4 : Int32) (v5 : Int32) (v6 : Int32) (M : Mem) (Q : Int32 → Mem → Prop) : Prop := w_X12_sums L v4 M (fun M43 => (vp_in v4 6 ∧ (∀ M45 : Mem, M45 = si M43 140 (tn v4) (mi M43 142 (tn v4)) → (∀ M46 : Mem, M46 = si M45 141 (tn v4) v6 → (∀ M47 : Mem, M47 = si M46 142 (tn v4) (0 : Int32) → (∀ M48 : Mem, M48 = si M47 143 (tn v4) (20 : Int32) → (∀ x49 : Int32, x49 = v5 + (1 : Int32) → (K21 v4 x49 M48))))))))
set_option maxRecDepth 20000 in
theorem t_X12_worth_163 {L : Lay} (hL : LY L) {p0 : Int32} {p1 : Int32} {p2 : Int32}  {K21 : Int32 → Int32 → Mem → Prop} {v4 : Int32} {v5 : Int32} {v6 : Int32}  {M : Mem} {Q : Int32 → Mem → Prop} (hw : w_X12_worth_163 L p0 p1 p2 K21 v4 v5 v6 M Q) (hK21 : ∀ (v4 : Int32) (v5 : Int32) (M : Mem), K21 v4 v5 M → X (FM (QI L Q)) RX12 cX12_worth (some .int) 8 "worth" 4 0 0 (L, M) 21 [.ref 92, .int p0, .int p1, .int p2, .int v4, .int v5, junk, junk] []) : X (FM (QI L Q)) RX12 cX12_worth (some .int) 8 "worth" 4 0 0 (L, M) 163 [.ref 92, .int p0, .int p1, .int p2, .int v4, .int v5, .int v6, junk] [] := by
  unfold w_X12_worth_163 at hw
  refine X_aload_n 164 dX12_worth_163 rfl rfl ?_
  refine X_iload 166 dX12_worth_164 rfl rfl ?_
  refine Y_cVV 169 (as := [.int v4]) m_X12_370 (s_X12_sums hL  hw) (hL.ob (c := 12) (by decide) rfl) rfl (by decide) (Nat.le_of_ble_eq_true rfl) dX12_worth_166 rfl rfl (fun M43 hw => ?_)
  refine X_aload_n 170 dX12_worth_169 rfl rfl ?_
  refine X_getR 173 f_X12_152 (hL.ob (c := 12) (by decide) rfl) rfl (hL.rr (by decide) rfl) dX12_worth_170 rfl ?_
  refine X_iload 175 dX12_worth_173 rfl rfl ?_
  refine X_aload_n 176 dX12_worth_175 rfl rfl ?_
  refine X_getR 179 f_X12_158 (hL.ob (c := 12) (by decide) rfl) rfl (hL.rr (by decide) rfl) dX12_worth_176 rfl ?_
  refine X_iload 181 dX12_worth_179 rfl rfl ?_
  obtain ⟨c44, hw⟩ := hw
  refine Y_iald 182 (k := (tn v4)) (hL.ar (t := 0) (n := 6) (by decide) rfl) c44 rfl dX12_worth_181 rfl ?_
  refine Y_iast 183 (k := (tn v4)) (hL.ar (t := 0) (n := 6) (by decide) rfl) c44 rfl dX12_worth_182 rfl ?_
  refine X_nmM (fun M45 eM45 => ?_)
  have hw := hw M45 eM45
  refine X_aload_n 184 dX12_worth_183 rfl rfl ?_
  refine X_getR 187 f_X12_155 (hL.ob (c := 12) (by decide) rfl) rfl (hL.rr (by decide) rfl) dX12_worth_184 rfl ?_
  refine X_iload 189 dX12_worth_187 rfl rfl ?_
  refine X_iload 191 dX12_worth_189 rfl rfl ?_
  refine Y_iast 192 (k := (tn v4)) (hL.ar (t := 0) (n := 6) (by decide) rfl) c44 rfl dX12_worth_191 rfl ?_
  refine X_nmM (fun M46 eM46 => ?_)
  have hw := hw M46 eM46
  refine X_aload_n 193 dX12_worth_192 rfl rfl ?_
  refine X_getR 196 f_X12_158 (hL.ob (c := 12) (by decide) rfl) rfl (hL.rr (by decide) rfl) dX12_worth_193 rfl ?_
  refine X_iload 198 dX12_worth_196 rfl rfl ?_
  refine X_iconst 199 (v := 0) dX12_worth_198 rfl rfl ?_
  refine Y_iast 200 (k := (tn v4)) (hL.ar (t := 0) (n := 6) (by decide) rfl) c44 rfl dX12_worth_199 rfl ?_
  refine X_nmM (fun M47 eM47 => ?_)
  have hw := hw M47 eM47
  refine X_aload_n 201 dX12_worth_200 rfl rfl ?_
  refine X_getR 204 f_X12_161 (hL.ob (c := 12) (by decide) rfl) rfl (hL.rr (by decide) rfl) dX12_worth_201 rfl ?_
  refine X_iload 206 dX12_worth_204 rfl rfl ?_
  refine X_bipush 208 (v := 20) dX12_worth_206 rfl rfl ?_
  refine Y_iast 209 (k := (tn v4)) (hL.ar (t := 0) (n := 6) (by decide) rfl) c44 rfl dX12_worth_208 rfl ?_
  refine X_nmM (fun M48 eM48 => ?_)
  have hw := hw M48 eM48
  refine X_goto 406 dX12_worth_209 rfl ?_
  obtain ⟨x49, ex49⟩ : ∃ x49 : Int32, x49 = v5 + (1 : Int32) := ⟨_, rfl⟩
  have hw := hw x49 ex49
  refine X_iinc 409 (v := x49) (ls' := [.ref 92, .int p0, .int p1, .int p2, .int v4, .int x49, .int v6, junk]) dX12_worth_406 rfl rfl (by rw [ex49]; rfl) rfl (Or.inr (Or.inr ⟨_, rfl, rfl⟩)) ?_
  refine X_goto 21 dX12_worth_409 rfl ?_
  refine X_weak (ls' := [.ref 92, .int p0, .int p1, .int p2, .int v4, .int x49, junk, junk]) (WK.s (WK.s (WK.s (WK.s (WK.s (WK.s (WK.j (WK.s WK.n)))))))) (Nat.le_of_ble_eq_true rfl) ?_
  exact hK21 v4 x49 M48 hw
def w_X12_worth_226 (L : Lay) (p0 : Int32) (p1 : Int32) (p2 : Int32) (K21 : Int32 → Int32 → Mem → Prop) (v4 : Int32) (v5 : Int32) (v6 : Int32) (M : Mem) (Q : Int32 → Mem → Prop) : Prop := w_X12_tests L v4 M (fun M50 => (vp_in v4 6 ∧ (∀ M52 : Mem, M52 = si M50 139 (tn v4) v6 → (∀ x53 : Int32, x53 = v5 + (1 : Int32) → (K21 v4 x53 M52)))))
set_option maxRecDepth 20000 in
theorem t_X12_worth_226 {L : Lay} (hL : LY L) {p0 : Int32} {p1 : Int32} {p2 : Int32}  {K21 : Int32 → Int32 → Mem → Prop} {v4 : Int32} {v5 : Int32} {v6 : Int32}  {M : Mem} {Q : Int32 → Mem → Prop} (hw : w_X12_worth_226 L p0 p1 p2 K21 v4 v5 v6 M Q) (hK21 : ∀ (v4 : Int32) (v5 : Int32) (M : Mem), K21 v4 v5 M → X (FM (QI L Q)) RX12 cX12_worth (some .int) 8 "worth" 4 0 0 (L, M) 21 [.ref 92, .int p0, .int p1, .int p2, .int v4, .int v5, junk, junk] []) : X (FM (QI L Q)) RX12 cX12_worth (some .int) 8 "worth" 4 0 0 (L, M) 226 [.ref 92, .int p0, .int p1, .int p2, .int v4, .int v5, .int v6, junk] [] := by
  unfold w_X12_worth_226 at hw
  refine X_aload_n 227 dX12_worth_226 rfl rfl ?_
  refine X_iload 229 dX12_worth_227 rfl rfl ?_
  refine Y_cVV 232 (as := [.int v4]) m_X12_382 (s_X12_tests hL  hw) (hL.ob (c := 12) (by decide) rfl) rfl (by decide) (Nat.le_of_ble_eq_true rfl) dX12_worth_229 rfl rfl (fun M50 hw => ?_)
  refine X_aload_n 233 dX12_worth_232 rfl rfl ?_
  refine X_getR 236 f_X12_149 (hL.ob (c := 12) (by decide) rfl) rfl (hL.rr (by decide) rfl) dX12_worth_233 rfl ?_
  refine X_iload 238 dX12_worth_236 rfl rfl ?_
  refine X_iload 240 dX12_worth_238 rfl rfl ?_
  obtain ⟨c51, hw⟩ := hw
  refine Y_iast 241 (k := (tn v4)) (hL.ar (t := 0) (n := 6) (by decide) rfl) c51 rfl dX12_worth_240 rfl ?_
  refine X_nmM (fun M52 eM52 => ?_)
  have hw := hw M52 eM52
  refine X_goto 406 dX12_worth_241 rfl ?_
  obtain ⟨x53, ex53⟩ : ∃ x53 : Int32, x53 = v5 + (1 : Int32) := ⟨_, rfl⟩
  have hw := hw x53 ex53
  refine X_iinc 409 (v := x53) (ls' := [.ref 92, .int p0, .int p1, .int p2, .int v4, .int x53, .int v6, junk]) dX12_worth_406 rfl rfl (by rw [ex53]; rfl) rfl (Or.inr (Or.inr ⟨_, rfl, rfl⟩)) ?_
  refine X_goto 21 dX12_worth_409 rfl ?_
  refine X_weak (ls' := [.ref 92, .int p0, .int p1, .int p2, .int v4, .int x53, junk, junk]) (WK.s (WK.s (WK.s (WK.s (WK.s (WK.s (WK.j (WK.s WK.n)))))))) (Nat.le_of_ble_eq_true rfl) ?_
  exact hK21 v4 x53 M52 hw
def w_X12_worth_340 (L : Lay) (p0 : Int32) (p1 : Int32) (p2 : Int32) (K21 : Int32 → Int32 → Mem → Prop) (v4 : Int32) (v5 : Int32) (v7 : Int32) (M : Mem) (Q : Int32 → Mem → Prop) : Prop := vp_in v4 6 ∧ ((((mi M 145 (tn v4)) = 0 → (∀ M71 : Mem, M71 = si M 144 (tn v4) v7 → (∀ x72 : Int32, x72 = v5 + (1 : Int32) → (K21 v4 x72 M71)))) ∧ (¬ (mi M 145 (tn v4)) = 0 → ((((mi M 145 (tn v4)) = (22 : Int32) → (∀ M69 : Mem, M69 = si M 144 (tn v4) ((mi M 144 (tn v4)) * v7) → (∀ x70 : Int32, x70 = v5 + (1 : Int32) → (K21 v4 x70 M69)))) ∧ (¬ (mi M 145 (tn v4)) = (22 : Int32) → (((v7 = 0 → (∀ M67 : Mem, M67 = si M 144 (tn v4) (0 : Int32) → (∀ x68 : Int32, x68 = v5 + (1 : Int32) → (K21 v4 x68 M67)))) ∧ (¬ v7 = 0 → (¬ v7 = 0 ∧ (∀ M65 : Mem, M65 = si M 144 (tn v4) ((mi M 144 (tn v4)) / v7) → (∀ x66 : Int32, x66 = v5 + (1 : Int32) → (K21 v4 x66 M65)))))))))))))
set_option maxRecDepth 20000 in
theorem t_X12_worth_340 {L : Lay} (hL : LY L) {p0 : Int32} {p1 : Int32} {p2 : Int32}  {K21 : Int32 → Int32 → Mem → Prop} {v4 : Int32} {v5 : Int32} {v7 : Int32}  {M : Mem} {Q : Int32 → Mem → Prop} (hw : w_X12_worth_340 L p0 p1 p2 K21 v4 v5 v7 M Q) (hK21 : ∀ (v4 : Int32) (v5 : Int32) (M : Mem), K21 v4 v5 M → X (FM (QI L Q)) RX12 cX12_worth (some .int) 8 "worth" 4 0 0 (L, M) 21 [.ref 92, .int p0, .int p1, .int p2, .int v4, .int v5, junk, junk] []) : X (FM (QI L Q)) RX12 cX12_worth (some .int) 8 "worth" 4 0 0 (L, M) 340 [.ref 92, .int p0, .int p1, .int p2, .int v4, .int v5, junk, .int v7] [] := by
  unfold w_X12_worth_340 at hw
  refine X_aload_n 341 dX12_worth_340 rfl rfl ?_
  refine X_getR 344 f_X12_164 (hL.ob (c := 12) (by decide) rfl) rfl (hL.rr (by decide) rfl) dX12_worth_341 rfl ?_
  refine X_iload 346 dX12_worth_344 rfl rfl ?_
  refine X_aload_n 347 dX12_worth_346 rfl rfl ?_
  refine X_getR 350 f_X12_167 (hL.ob (c := 12) (by decide) rfl) rfl (hL.rr (by decide) rfl) dX12_worth_347 rfl ?_
  refine X_iload 352 dX12_worth_350 rfl rfl ?_
  obtain ⟨c60, hw⟩ := hw
  refine Y_iald 353 (k := (tn v4)) (hL.ar (t := 0) (n := 6) (by decide) rfl) c60 rfl dX12_worth_352 rfl ?_
  refine X_if_ne 361 356 (y := 0) dX12_worth_353 rfl rfl (fun c61 => ?_) (fun c61 => ?_)
  · have hw := hw.2 c61
    refine X_aload_n 362 dX12_worth_361 rfl rfl ?_
    refine X_getR 365 f_X12_167 (hL.ob (c := 12) (by decide) rfl) rfl (hL.rr (by decide) rfl) dX12_worth_362 rfl ?_
    refine X_iload 367 dX12_worth_365 rfl rfl ?_
    refine Y_iald 368 (k := (tn v4)) (hL.ar (t := 0) (n := 6) (by decide) rfl) c60 rfl dX12_worth_367 rfl ?_
    refine X_bipush 370 (v := 22) dX12_worth_368 rfl rfl ?_
    refine X_icmp_ne 386 373 dX12_worth_370 rfl rfl (fun c62 => ?_) (fun c62 => ?_)
    · have hw := hw.2 c62
      refine X_iload 388 dX12_worth_386 rfl rfl ?_
      refine X_if_ne 395 391 (y := 0) dX12_worth_388 rfl rfl (fun c63 => ?_) (fun c63 => ?_)
      · have hw := hw.2 c63
        refine X_aload_n 396 dX12_worth_395 rfl rfl ?_
        refine X_getR 399 f_X12_164 (hL.ob (c := 12) (by decide) rfl) rfl (hL.rr (by decide) rfl) dX12_worth_396 rfl ?_
        refine X_iload 401 dX12_worth_399 rfl rfl ?_
        refine Y_iald 402 (k := (tn v4)) (hL.ar (t := 0) (n := 6) (by decide) rfl) c60 rfl dX12_worth_401 rfl ?_
        refine X_iload 404 dX12_worth_402 rfl rfl ?_
        obtain ⟨c64, hw⟩ := hw
        refine X_idiv 405 dX12_worth_404 rfl c64 ?_
        refine Y_iast 406 (k := (tn v4)) (hL.ar (t := 0) (n := 6) (by decide) rfl) c60 rfl dX12_worth_405 rfl ?_
        refine X_nmM (fun M65 eM65 => ?_)
        have hw := hw M65 eM65
        obtain ⟨x66, ex66⟩ : ∃ x66 : Int32, x66 = v5 + (1 : Int32) := ⟨_, rfl⟩
        have hw := hw x66 ex66
        refine X_iinc 409 (v := x66) (ls' := [.ref 92, .int p0, .int p1, .int p2, .int v4, .int x66, junk, .int v7]) dX12_worth_406 rfl rfl (by rw [ex66]; rfl) rfl (Or.inr (Or.inr ⟨_, rfl, rfl⟩)) ?_
        refine X_goto 21 dX12_worth_409 rfl ?_
        refine X_weak (ls' := [.ref 92, .int p0, .int p1, .int p2, .int v4, .int x66, junk, junk]) (WK.s (WK.s (WK.s (WK.s (WK.s (WK.s (WK.s (WK.j WK.n)))))))) (Nat.le_of_ble_eq_true rfl) ?_
        exact hK21 v4 x66 M65 hw
      · have hw := hw.1 c63
        refine X_iconst 392 (v := 0) dX12_worth_391 rfl rfl ?_
        refine X_goto 405 dX12_worth_392 rfl ?_
        refine Y_iast 406 (k := (tn v4)) (hL.ar (t := 0) (n := 6) (by decide) rfl) c60 rfl dX12_worth_405 rfl ?_
        refine X_nmM (fun M67 eM67 => ?_)
        have hw := hw M67 eM67
        obtain ⟨x68, ex68⟩ : ∃ x68 : Int32, x68 = v5 + (1 : Int32) := ⟨_, rfl⟩
        have hw := hw x68 ex68
        refine X_iinc 409 (v := x68) (ls' := [.ref 92, .int p0, .int p1, .int p2, .int v4, .int x68, junk, .int v7]) dX12_worth_406 rfl rfl (by rw [ex68]; rfl) rfl (Or.inr (Or.inr ⟨_, rfl, rfl⟩)) ?_
        refine X_goto 21 dX12_worth_409 rfl ?_
        refine X_weak (ls' := [.ref 92, .int p0, .int p1, .int p2, .int v4, .int x68, junk, junk]) (WK.s (WK.s (WK.s (WK.s (WK.s (WK.s (WK.s (WK.j WK.n)))))))) (Nat.le_of_ble_eq_true rfl) ?_
        exact hK21 v4 x68 M67 hw
    · have hw := hw.1 c62
      refine X_aload_n 374 dX12_worth_373 rfl rfl ?_
      refine X_getR 377 f_X12_164 (hL.ob (c := 12) (by decide) rfl) rfl (hL.rr (by decide) rfl) dX12_worth_374 rfl ?_
      refine X_iload 379 dX12_worth_377 rfl rfl ?_
      refine Y_iald 380 (k := (tn v4)) (hL.ar (t := 0) (n := 6) (by decide) rfl) c60 rfl dX12_worth_379 rfl ?_
      refine X_iload 382 dX12_worth_380 rfl rfl ?_
      refine X_imul 383 dX12_worth_382 rfl ?_
      refine X_goto 405 dX12_worth_383 rfl ?_
      refine Y_iast 406 (k := (tn v4)) (hL.ar (t := 0) (n := 6) (by decide) rfl) c60 rfl dX12_worth_405 rfl ?_
      refine X_nmM (fun M69 eM69 => ?_)
      have hw := hw M69 eM69
      obtain ⟨x70, ex70⟩ : ∃ x70 : Int32, x70 = v5 + (1 : Int32) := ⟨_, rfl⟩
      have hw := hw x70 ex70
      refine X_iinc 409 (v := x70) (ls' := [.ref 92, .int p0, .int p1, .int p2, .int v4, .int x70, junk, .int v7]) dX12_worth_406 rfl rfl (by rw [ex70]; rfl) rfl (Or.inr (Or.inr ⟨_, rfl, rfl⟩)) ?_
      refine X_goto 21 dX12_worth_409 rfl ?_
      refine X_weak (ls' := [.ref 92, .int p0, .int p1, .int p2, .int v4, .int x70, junk, junk]) (WK.s (WK.s (WK.s (WK.s (WK.s (WK.s (WK.s (WK.j WK.n)))))))) (Nat.le_of_ble_eq_true rfl) ?_
      exact hK21 v4 x70 M69 hw
  · have hw := hw.1 c61
    refine X_iload 358 dX12_worth_356 rfl rfl ?_
    refine X_goto 405 dX12_worth_358 rfl ?_
    refine Y_iast 406 (k := (tn v4)) (hL.ar (t := 0) (n := 6) (by decide) rfl) c60 rfl dX12_worth_405 rfl ?_
    refine X_nmM (fun M71 eM71 => ?_)
    have hw := hw M71 eM71
    obtain ⟨x72, ex72⟩ : ∃ x72 : Int32, x72 = v5 + (1 : Int32) := ⟨_, rfl⟩
    have hw := hw x72 ex72
    refine X_iinc 409 (v := x72) (ls' := [.ref 92, .int p0, .int p1, .int p2, .int v4, .int x72, junk, .int v7]) dX12_worth_406 rfl rfl (by rw [ex72]; rfl) rfl (Or.inr (Or.inr ⟨_, rfl, rfl⟩)) ?_
    refine X_goto 21 dX12_worth_409 rfl ?_
    refine X_weak (ls' := [.ref 92, .int p0, .int p1, .int p2, .int v4, .int x72, junk, junk]) (WK.s (WK.s (WK.s (WK.s (WK.s (WK.s (WK.s (WK.j WK.n)))))))) (Nat.le_of_ble_eq_true rfl) ?_
    exact hK21 v4 x72 M71 hw
def w_X12_worth_306 (L : Lay) (p0 : Int32) (p1 : Int32) (p2 : Int32) (K21 : Int32 → Int32 → Mem → Prop) (K306 : Int32 → Int32 → Int32 → Mem → Prop) (v4 : Int32) (v5 : Int32) (v7 : Int32) (M : Mem) (Q : Int32 → Mem → Prop) : Prop := ((0 < v4 → (vp_in v4 6 ∧ ((((mi M 146 (tn v4)) = (1 : Int32) → (∀ x57 : Int32, x57 = (if v7 = 0 then (1 : Int32) else (0 : Int32)) → (∀ x58 : Int32, x58 = v4 + (-1 : Int32) → (K306 x58 v5 x57 M)))) ∧ (¬ (mi M 146 (tn v4)) = (1 : Int32) → (w_X12_worth_340 L p0 p1 p2 K21 v4 v5 v7 M Q)))))) ∧ (¬ 0 < v4 → (w_X12_worth_340 L p0 p1 p2 K21 v4 v5 v7 M Q)))
set_option maxRecDepth 20000 in
theorem t_X12_worth_306 {L : Lay} (hL : LY L) {p0 : Int32} {p1 : Int32} {p2 : Int32}  {K21 : Int32 → Int32 → Mem → Prop} {K306 : Int32 → Int32 → Int32 → Mem → Prop} {v4 : Int32} {v5 : Int32} {v7 : Int32}  {M : Mem} {Q : Int32 → Mem → Prop} (hw : w_X12_worth_306 L p0 p1 p2 K21 K306 v4 v5 v7 M Q) (hK21 : ∀ (v4 : Int32) (v5 : Int32) (M : Mem), K21 v4 v5 M → X (FM (QI L Q)) RX12 cX12_worth (some .int) 8 "worth" 4 0 0 (L, M) 21 [.ref 92, .int p0, .int p1, .int p2, .int v4, .int v5, junk, junk] []) (hK306 : ∀ (v4 : Int32) (v5 : Int32) (v7 : Int32) (M : Mem), K306 v4 v5 v7 M → X (FM (QI L Q)) RX12 cX12_worth (some .int) 8 "worth" 4 0 0 (L, M) 306 [.ref 92, .int p0, .int p1, .int p2, .int v4, .int v5, junk, .int v7] []) : X (FM (QI L Q)) RX12 cX12_worth (some .int) 8 "worth" 4 0 0 (L, M) 306 [.ref 92, .int p0, .int p1, .int p2, .int v4, .int v5, junk, .int v7] [] := by
  unfold w_X12_worth_306 at hw
  refine X_iload 308 dX12_worth_306 rfl rfl ?_
  refine X_if_le 340 311 (y := 0) dX12_worth_308 rfl rfl (fun c54 => ?_) (fun c54 => ?_)
  · have hw := hw.2 c54
    exact t_X12_worth_340 hL   hw hK21
  · have hw := hw.1 c54
    refine X_aload_n 312 dX12_worth_311 rfl rfl ?_
    refine X_getR 315 f_X12_170 (hL.ob (c := 12) (by decide) rfl) rfl (hL.rr (by decide) rfl) dX12_worth_312 rfl ?_
    refine X_iload 317 dX12_worth_315 rfl rfl ?_
    obtain ⟨c55, hw⟩ := hw
    refine Y_iald 318 (k := (tn v4)) (hL.ar (t := 0) (n := 6) (by decide) rfl) c55 rfl dX12_worth_317 rfl ?_
    refine X_iconst 319 (v := 1) dX12_worth_318 rfl rfl ?_
    refine X_icmp_ne 340 322 dX12_worth_319 rfl rfl (fun c56 => ?_) (fun c56 => ?_)
    · have hw := hw.2 c56
      exact t_X12_worth_340 hL   hw hK21
    · have hw := hw.1 c56
      refine X_iload 324 dX12_worth_322 rfl rfl ?_
      obtain ⟨x57, ex57⟩ : ∃ x57 : Int32, x57 = (if v7 = 0 then (1 : Int32) else (0 : Int32)) := ⟨_, rfl⟩
      have hw := hw x57 ex57
      have bx57 : BZ x57 := by rw [ex57]; (repeat' split) <;> first | exact Or.inl rfl | exact Or.inr rfl
      have hJ : X (FM (QI L Q)) RX12 cX12_worth (some .int) 8 "worth" 4 0 0 (L, M) 332 [.ref 92, .int p0, .int p1, .int p2, .int v4, .int v5, junk, .int v7] [.int x57] := by
        refine X_istore 334 (ls' := [.ref 92, .int p0, .int p1, .int p2, .int v4, .int v5, junk, .int x57]) dX12_worth_332 rfl (Nat.le_of_ble_eq_true rfl) rfl (Or.inr (Or.inl rfl)) ?_
        obtain ⟨x58, ex58⟩ : ∃ x58 : Int32, x58 = v4 + (-1 : Int32) := ⟨_, rfl⟩
        have hw := hw x58 ex58
        refine X_iinc 337 (v := x58) (ls' := [.ref 92, .int p0, .int p1, .int p2, .int x58, .int v5, junk, .int x57]) dX12_worth_334 rfl rfl (by rw [ex58]; rfl) rfl (Or.inr (Or.inr ⟨_, rfl, rfl⟩)) ?_
        refine X_goto 306 dX12_worth_337 rfl ?_
        exact hK306 x58 v5 x57 M hw
      refine X_if_ne 331 327 (y := 0) dX12_worth_324 rfl rfl (fun c59 => ?_) (fun c59 => ?_)
      · refine X_iconst 332 (v := 0) dX12_worth_331 rfl rfl ?_
        rw [if_neg c59] at ex57
        rw [ex57] at hJ
        exact hJ
      · refine X_iconst 328 (v := 1) dX12_worth_327 rfl rfl ?_
        refine X_goto 332 dX12_worth_328 rfl ?_
        rw [if_pos c59] at ex57
        rw [ex57] at hJ
        exact hJ
def w_X12_worth_21 (L : Lay) (p0 : Int32) (p1 : Int32) (p2 : Int32) (K21 : Int32 → Int32 → Mem → Prop) (v4 : Int32) (v5 : Int32) (M : Mem) (Q : Int32 → Mem → Prop) : Prop := vp_in (((11 : Int32) * p1) + p2) 286 ∧ (((v5 < (mi M 131 (tn (((11 : Int32) * p1) + p2))) → (vp_in v5 26000 ∧ (∀ x8 : Int32, x8 = (mi M 135 (tn v5)) → (((x8 = (28 : Int32) → (w_X12_worth_60 L p0 p1 p2 K21 v4 v5 x8 M Q)) ∧ (¬ x8 = (28 : Int32) → (((x8 = (30 : Int32) → (w_X12_worth_60 L p0 p1 p2 K21 v4 v5 x8 M Q)) ∧ (¬ x8 = (30 : Int32) → (((x8 = (20 : Int32) → (w_X12_worth_105 L p0 p1 p2 K21 v4 v5 x8 M Q)) ∧ (¬ x8 = (20 : Int32) → (((x8 = (21 : Int32) → (w_X12_worth_105 L p0 p1 p2 K21 v4 v5 x8 M Q)) ∧ (¬ x8 = (21 : Int32) → (((x8 = (22 : Int32) → (w_X12_worth_137 L p0 p1 p2 K21 v4 v5 x8 M Q)) ∧ (¬ x8 = (22 : Int32) → (((x8 = (23 : Int32) → (w_X12_worth_137 L p0 p1 p2 K21 v4 v5 x8 M Q)) ∧ (¬ x8 = (23 : Int32) → (((x8 = (24 : Int32) → (w_X12_worth_163 L p0 p1 p2 K21 v4 v5 x8 M Q)) ∧ (¬ x8 = (24 : Int32) → (((x8 = (25 : Int32) → (w_X12_worth_163 L p0 p1 p2 K21 v4 v5 x8 M Q)) ∧ (¬ x8 = (25 : Int32) → (((x8 = (26 : Int32) → (w_X12_worth_226 L p0 p1 p2 K21 v4 v5 x8 M Q)) ∧ (¬ x8 = (26 : Int32) → (((x8 = (27 : Int32) → (w_X12_worth_226 L p0 p1 p2 K21 v4 v5 x8 M Q)) ∧ (¬ x8 = (27 : Int32) → (∀ x19 : Int32, x19 = (if x8 < (100 : Int32) then (0 : Int32) else (x8 - (100 : Int32))) → (((x8 = (29 : Int32) → (w_X12_tests L v4 M (fun M24 => (vp_in v4 6 ∧ (∀ x26 : Int32, x26 = (mi M24 138 (tn v4)) → (∀ x27 : Int32, x27 = v4 + (-1 : Int32) → (LP4 (fun K306 v4 v5 v7 M => w_X12_worth_306 L p0 p1 p2 K21 K306 v4 v5 v7 M Q) x27 v5 x26 M24))))))) ∧ (¬ x8 = (29 : Int32) → (((x8 < (20 : Int32) → (w_X12_fact L p0 x8 M (fun x23 M22 => (LP4 (fun K306 v4 v5 v7 M => w_X12_worth_306 L p0 p1 p2 K21 K306 v4 v5 v7 M Q) v4 v5 x23 M22)))) ∧ (¬ x8 < (20 : Int32) → (LP4 (fun K306 v4 v5 v7 M => w_X12_worth_306 L p0 p1 p2 K21 K306 v4 v5 v7 M Q) v4 v5 x19 M))))))))))))))))))))))))))))))))))))))))) ∧ (¬ v5 < (mi M 131 (tn (((11 : Int32) * p1) + p2))) → (w_X12_tests L (0 : Int32) M (fun M6 => (Q (mi M6 138 0) M6))))))
set_option maxRecDepth 20000 in
theorem t_X12_worth_21 {L : Lay} (hL : LY L) {p0 : Int32} {p1 : Int32} {p2 : Int32}  {K21 : Int32 → Int32 → Mem → Prop} {v4 : Int32} {v5 : Int32}  {M : Mem} {Q : Int32 → Mem → Prop} (hw : w_X12_worth_21 L p0 p1 p2 K21 v4 v5 M Q) (hK21 : ∀ (v4 : Int32) (v5 : Int32) (M : Mem), K21 v4 v5 M → X (FM (QI L Q)) RX12 cX12_worth (some .int) 8 "worth" 4 0 0 (L, M) 21 [.ref 92, .int p0, .int p1, .int p2, .int v4, .int v5, junk, junk] []) : X (FM (QI L Q)) RX12 cX12_worth (some .int) 8 "worth" 4 0 0 (L, M) 21 [.ref 92, .int p0, .int p1, .int p2, .int v4, .int v5, junk, junk] [] := by
  unfold w_X12_worth_21 at hw
  refine X_iload 23 dX12_worth_21 rfl rfl ?_
  refine X_aload_n 24 dX12_worth_23 rfl rfl ?_
  refine X_getR 27 f_X12_125 (hL.ob (c := 12) (by decide) rfl) rfl (hL.rr (by decide) rfl) dX12_worth_24 rfl ?_
  refine X_bipush 29 (v := 11) dX12_worth_27 rfl rfl ?_
  refine X_iload_n 30 dX12_worth_29 rfl rfl ?_
  refine X_imul 31 dX12_worth_30 rfl ?_
  refine X_iload_n 32 dX12_worth_31 rfl rfl ?_
  refine X_iadd 33 dX12_worth_32 rfl ?_
  obtain ⟨c4, hw⟩ := hw
  refine Y_iald 34 (k := (tn (((11 : Int32) * p1) + p2))) (hL.ar (t := 0) (n := 286) (by decide) rfl) c4 rfl dX12_worth_33 rfl ?_
  refine X_icmp_ge 412 37 dX12_worth_34 rfl rfl (fun c5 => ?_) (fun c5 => ?_)
  · have hw := hw.2 c5
    refine X_aload_n 413 dX12_worth_412 rfl rfl ?_
    refine X_iconst 414 (v := 0) dX12_worth_413 rfl rfl ?_
    refine Y_cVV 417 (as := [.int (0 : Int32)]) m_X12_382 (s_X12_tests hL  hw) (hL.ob (c := 12) (by decide) rfl) rfl (by decide) (Nat.le_of_ble_eq_true rfl) dX12_worth_414 rfl rfl (fun M6 hw => ?_)
    refine X_aload_n 418 dX12_worth_417 rfl rfl ?_
    refine X_getR 421 f_X12_146 (hL.ob (c := 12) (by decide) rfl) rfl (hL.rr (by decide) rfl) dX12_worth_418 rfl ?_
    refine X_iconst 422 (v := 0) dX12_worth_421 rfl rfl ?_
    refine Y_iald 423 (k := 0) (hL.ar (t := 0) (n := 6) (by decide) rfl) (vlit (by decide)) (by decide) dX12_worth_422 rfl ?_
    exact X_ret rfl rfl dX12_worth_423 ⟨_, _, rfl, rfl, hw⟩
  · have hw := hw.1 c5
    refine X_aload_n 38 dX12_worth_37 rfl rfl ?_
    refine X_getR 41 f_X12_137 (hL.ob (c := 12) (by decide) rfl) rfl (hL.rr (by decide) rfl) dX12_worth_38 rfl ?_
    refine X_iload 43 dX12_worth_41 rfl rfl ?_
    obtain ⟨c7, hw⟩ := hw
    refine Y_iald 44 (k := (tn v5)) (hL.ar (t := 0) (n := 26000) (by decide) rfl) c7 rfl dX12_worth_43 rfl ?_
    refine X_nmI (fun x8 ex8 => ?_)
    have hw := hw x8 ex8
    refine X_istore 46 (ls' := [.ref 92, .int p0, .int p1, .int p2, .int v4, .int v5, .int x8, junk]) dX12_worth_44 rfl (Nat.le_of_ble_eq_true rfl) rfl (Or.inr (Or.inr ⟨_, rfl, rfl⟩)) ?_
    refine X_iload 48 dX12_worth_46 rfl rfl ?_
    refine X_bipush 50 (v := 28) dX12_worth_48 rfl rfl ?_
    refine X_icmp_eq 60 53 dX12_worth_50 rfl rfl (fun c9 => ?_) (fun c9 => ?_)
    · have hw := hw.1 c9
      exact t_X12_worth_60 hL   hw hK21
    · have hw := hw.2 c9
      refine X_iload 55 dX12_worth_53 rfl rfl ?_
      refine X_bipush 57 (v := 30) dX12_worth_55 rfl rfl ?_
      refine X_icmp_ne 91 60 dX12_worth_57 rfl rfl (fun c10 => ?_) (fun c10 => ?_)
      · have hw := hw.2 c10
        refine X_iload 93 dX12_worth_91 rfl rfl ?_
        refine X_bipush 95 (v := 20) dX12_worth_93 rfl rfl ?_
        refine X_icmp_eq 105 98 dX12_worth_95 rfl rfl (fun c11 => ?_) (fun c11 => ?_)
        · have hw := hw.1 c11
          exact t_X12_worth_105 hL   hw hK21
        · have hw := hw.2 c11
          refine X_iload 100 dX12_worth_98 rfl rfl ?_
          refine X_bipush 102 (v := 21) dX12_worth_100 rfl rfl ?_
          refine X_icmp_ne 123 105 dX12_worth_102 rfl rfl (fun c12 => ?_) (fun c12 => ?_)
          · have hw := hw.2 c12
            refine X_iload 125 dX12_worth_123 rfl rfl ?_
            refine X_bipush 127 (v := 22) dX12_worth_125 rfl rfl ?_
            refine X_icmp_eq 137 130 dX12_worth_127 rfl rfl (fun c13 => ?_) (fun c13 => ?_)
            · have hw := hw.1 c13
              exact t_X12_worth_137 hL   hw hK21
            · have hw := hw.2 c13
              refine X_iload 132 dX12_worth_130 rfl rfl ?_
              refine X_bipush 134 (v := 23) dX12_worth_132 rfl rfl ?_
              refine X_icmp_ne 149 137 dX12_worth_134 rfl rfl (fun c14 => ?_) (fun c14 => ?_)
              · have hw := hw.2 c14
                refine X_iload 151 dX12_worth_149 rfl rfl ?_
                refine X_bipush 153 (v := 24) dX12_worth_151 rfl rfl ?_
                refine X_icmp_eq 163 156 dX12_worth_153 rfl rfl (fun c15 => ?_) (fun c15 => ?_)
                · have hw := hw.1 c15
                  exact t_X12_worth_163 hL   hw hK21
                · have hw := hw.2 c15
                  refine X_iload 158 dX12_worth_156 rfl rfl ?_
                  refine X_bipush 160 (v := 25) dX12_worth_158 rfl rfl ?_
                  refine X_icmp_ne 212 163 dX12_worth_160 rfl rfl (fun c16 => ?_) (fun c16 => ?_)
                  · have hw := hw.2 c16
                    refine X_iload 214 dX12_worth_212 rfl rfl ?_
                    refine X_bipush 216 (v := 26) dX12_worth_214 rfl rfl ?_
                    refine X_icmp_eq 226 219 dX12_worth_216 rfl rfl (fun c17 => ?_) (fun c17 => ?_)
                    · have hw := hw.1 c17
                      exact t_X12_worth_226 hL   hw hK21
                    · have hw := hw.2 c17
                      refine X_iload 221 dX12_worth_219 rfl rfl ?_
                      refine X_bipush 223 (v := 27) dX12_worth_221 rfl rfl ?_
                      refine X_icmp_ne 244 226 dX12_worth_223 rfl rfl (fun c18 => ?_) (fun c18 => ?_)
                      · have hw := hw.2 c18
                        refine X_iload 246 dX12_worth_244 rfl rfl ?_
                        refine X_bipush 248 (v := 100) dX12_worth_246 rfl rfl ?_
                        obtain ⟨x19, ex19⟩ : ∃ x19 : Int32, x19 = (if x8 < (100 : Int32) then (0 : Int32) else (x8 - (100 : Int32))) := ⟨_, rfl⟩
                        have hw := hw x19 ex19
                        have hJ : X (FM (QI L Q)) RX12 cX12_worth (some .int) 8 "worth" 4 0 0 (L, M) 260 [.ref 92, .int p0, .int p1, .int p2, .int v4, .int v5, .int x8, junk] [.int x19] := by
                          refine X_istore 262 (ls' := [.ref 92, .int p0, .int p1, .int p2, .int v4, .int v5, .int x8, .int x19]) dX12_worth_260 rfl (Nat.le_of_ble_eq_true rfl) rfl (Or.inr (Or.inr ⟨_, rfl, rfl⟩)) ?_
                          refine X_iload 264 dX12_worth_262 rfl rfl ?_
                          refine X_bipush 266 (v := 29) dX12_worth_264 rfl rfl ?_
                          refine X_icmp_ne 290 269 dX12_worth_266 rfl rfl (fun c20 => ?_) (fun c20 => ?_)
                          · have hw := hw.2 c20
                            refine X_iload 292 dX12_worth_290 rfl rfl ?_
                            refine X_bipush 294 (v := 20) dX12_worth_292 rfl rfl ?_
                            refine X_icmp_ge 306 297 dX12_worth_294 rfl rfl (fun c21 => ?_) (fun c21 => ?_)
                            · have hw := hw.2 c21
                              refine X_weak (ls' := [.ref 92, .int p0, .int p1, .int p2, .int v4, .int v5, junk, .int x19]) (WK.s (WK.s (WK.s (WK.s (WK.s (WK.s (WK.j (WK.s WK.n)))))))) (Nat.le_of_ble_eq_true rfl) ?_
                              exact LP4_s hw (G := fun v4 v5 v7 M => X (FM (QI L Q)) RX12 cX12_worth (some .int) 8 "worth" 4 0 0 (L, M) 306 [.ref 92, .int p0, .int p1, .int p2, .int v4, .int v5, junk, .int v7] []) (fun K306 v4 v5 v7 M hb hK => t_X12_worth_306 hL  hb hK21 hK)
                            · have hw := hw.1 c21
                              refine X_aload_n 298 dX12_worth_297 rfl rfl ?_
                              refine X_iload_n 299 dX12_worth_298 rfl rfl ?_
                              refine X_iload 301 dX12_worth_299 rfl rfl ?_
                              refine Y_cVI 304 (as := [.int p0, .int x8]) m_X12_385 (s_X12_fact hL  hw) (hL.ob (c := 12) (by decide) rfl) rfl (by decide) (Nat.le_of_ble_eq_true rfl) dX12_worth_301 rfl rfl (fun x23 M22 hw => ?_)
                              refine X_istore 306 (ls' := [.ref 92, .int p0, .int p1, .int p2, .int v4, .int v5, .int x8, .int x23]) dX12_worth_304 rfl (Nat.le_of_ble_eq_true rfl) rfl (Or.inr (Or.inr ⟨_, rfl, rfl⟩)) ?_
                              refine X_weak (ls' := [.ref 92, .int p0, .int p1, .int p2, .int v4, .int v5, junk, .int x23]) (WK.s (WK.s (WK.s (WK.s (WK.s (WK.s (WK.j (WK.s WK.n)))))))) (Nat.le_of_ble_eq_true rfl) ?_
                              exact LP4_s hw (G := fun v4 v5 v7 M => X (FM (QI L Q)) RX12 cX12_worth (some .int) 8 "worth" 4 0 0 (L, M) 306 [.ref 92, .int p0, .int p1, .int p2, .int v4, .int v5, junk, .int v7] []) (fun K306 v4 v5 v7 M hb hK => t_X12_worth_306 hL  hb hK21 hK)
                          · have hw := hw.1 c20
                            refine X_aload_n 270 dX12_worth_269 rfl rfl ?_
                            refine X_iload 272 dX12_worth_270 rfl rfl ?_
                            refine Y_cVV 275 (as := [.int v4]) m_X12_382 (s_X12_tests hL  hw) (hL.ob (c := 12) (by decide) rfl) rfl (by decide) (Nat.le_of_ble_eq_true rfl) dX12_worth_272 rfl rfl (fun M24 hw => ?_)
                            refine X_aload_n 276 dX12_worth_275 rfl rfl ?_
                            refine X_getR 279 f_X12_146 (hL.ob (c := 12) (by decide) rfl) rfl (hL.rr (by decide) rfl) dX12_worth_276 rfl ?_
                            refine X_iload 281 dX12_worth_279 rfl rfl ?_
                            obtain ⟨c25, hw⟩ := hw
                            refine Y_iald 282 (k := (tn v4)) (hL.ar (t := 0) (n := 6) (by decide) rfl) c25 rfl dX12_worth_281 rfl ?_
                            refine X_nmI (fun x26 ex26 => ?_)
                            have hw := hw x26 ex26
                            refine X_istore 284 (ls' := [.ref 92, .int p0, .int p1, .int p2, .int v4, .int v5, .int x8, .int x26]) dX12_worth_282 rfl (Nat.le_of_ble_eq_true rfl) rfl (Or.inr (Or.inr ⟨_, rfl, rfl⟩)) ?_
                            obtain ⟨x27, ex27⟩ : ∃ x27 : Int32, x27 = v4 + (-1 : Int32) := ⟨_, rfl⟩
                            have hw := hw x27 ex27
                            refine X_iinc 287 (v := x27) (ls' := [.ref 92, .int p0, .int p1, .int p2, .int x27, .int v5, .int x8, .int x26]) dX12_worth_284 rfl rfl (by rw [ex27]; rfl) rfl (Or.inr (Or.inr ⟨_, rfl, rfl⟩)) ?_
                            refine X_goto 306 dX12_worth_287 rfl ?_
                            refine X_weak (ls' := [.ref 92, .int p0, .int p1, .int p2, .int x27, .int v5, junk, .int x26]) (WK.s (WK.s (WK.s (WK.s (WK.s (WK.s (WK.j (WK.s WK.n)))))))) (Nat.le_of_ble_eq_true rfl) ?_
                            exact LP4_s hw (G := fun v4 v5 v7 M => X (FM (QI L Q)) RX12 cX12_worth (some .int) 8 "worth" 4 0 0 (L, M) 306 [.ref 92, .int p0, .int p1, .int p2, .int v4, .int v5, junk, .int v7] []) (fun K306 v4 v5 v7 M hb hK => t_X12_worth_306 hL  hb hK21 hK)
                        refine X_icmp_lt 259 251 dX12_worth_248 rfl rfl (fun c28 => ?_) (fun c28 => ?_)
                        · refine X_iconst 260 (v := 0) dX12_worth_259 rfl rfl ?_
                          rw [if_pos c28] at ex19
                          rw [ex19] at hJ
                          exact hJ
                        · refine X_iload 253 dX12_worth_251 rfl rfl ?_
                          refine X_bipush 255 (v := 100) dX12_worth_253 rfl rfl ?_
                          refine X_isub 256 dX12_worth_255 rfl ?_
                          refine X_goto 260 dX12_worth_256 rfl ?_
                          rw [if_neg c28] at ex19
                          rw [ex19] at hJ
                          exact hJ
                      · have hw := hw.1 c18
                        exact t_X12_worth_226 hL   hw hK21
                  · have hw := hw.1 c16
                    exact t_X12_worth_163 hL   hw hK21
              · have hw := hw.1 c14
                exact t_X12_worth_137 hL   hw hK21
          · have hw := hw.1 c12
            exact t_X12_worth_105 hL   hw hK21
      · have hw := hw.1 c10
        exact t_X12_worth_60 hL   hw hK21
def w_X12_worth (L : Lay) (p0 : Int32) (p1 : Int32) (p2 : Int32) (M : Mem) (Q : Int32 → Mem → Prop) : Prop := w_X12_opens L (0 : Int32) M (fun M1 => (vp_in (((11 : Int32) * p1) + p2) 286 ∧ (∀ x3 : Int32, x3 = (mi M1 130 (tn (((11 : Int32) * p1) + p2))) → (LP3 (fun K21 v4 v5 M => w_X12_worth_21 L p0 p1 p2  K21 v4 v5 M Q) (0 : Int32) x3 M1))))
set_option maxRecDepth 20000 in
theorem s_X12_worth {L : Lay} (hL : LY L) {p0 : Int32} {p1 : Int32} {p2 : Int32}  {M : Mem} {Q : Int32 → Mem → Prop} (hw : w_X12_worth L p0 p1 p2 M Q) : MX yX12_worth cX12_worth (some .int) 8 4 0 0 [.ref 92, .int p0, .int p1, .int p2] (L, M) (QI L Q) := by
  unfold w_X12_worth at hw
  refine MX_of (by decide) [.ref 92, .int p0, .int p1, .int p2, junk, junk, junk, junk] (by rfl) (by exact Nat.le_of_ble_eq_true rfl) ?_
  show X (FM (QI L Q)) RX12 cX12_worth (some .int) 8 "worth" 4 0 0 (L, M) 0 [.ref 92, .int p0, .int p1, .int p2, junk, junk, junk, junk] []
  refine X_iconst 1 (v := 0) dX12_worth_0 rfl rfl ?_
  refine X_istore 3 (ls' := [.ref 92, .int p0, .int p1, .int p2, .int (0 : Int32), junk, junk, junk]) dX12_worth_1 rfl (Nat.le_of_ble_eq_true rfl) rfl (Or.inr (Or.inr ⟨_, rfl, rfl⟩)) ?_
  refine X_aload_n 4 dX12_worth_3 rfl rfl ?_
  refine X_iconst 5 (v := 0) dX12_worth_4 rfl rfl ?_
  refine Y_cVV 8 (as := [.int (0 : Int32)]) m_X12_379 (s_X12_opens hL  hw) (hL.ob (c := 12) (by decide) rfl) rfl (by decide) (Nat.le_of_ble_eq_true rfl) dX12_worth_5 rfl rfl (fun M1 hw => ?_)
  refine X_aload_n 9 dX12_worth_8 rfl rfl ?_
  refine X_getR 12 f_X12_122 (hL.ob (c := 12) (by decide) rfl) rfl (hL.rr (by decide) rfl) dX12_worth_9 rfl ?_
  refine X_bipush 14 (v := 11) dX12_worth_12 rfl rfl ?_
  refine X_iload_n 15 dX12_worth_14 rfl rfl ?_
  refine X_imul 16 dX12_worth_15 rfl ?_
  refine X_iload_n 17 dX12_worth_16 rfl rfl ?_
  refine X_iadd 18 dX12_worth_17 rfl ?_
  obtain ⟨c2, hw⟩ := hw
  refine Y_iald 19 (k := (tn (((11 : Int32) * p1) + p2))) (hL.ar (t := 0) (n := 286) (by decide) rfl) c2 rfl dX12_worth_18 rfl ?_
  refine X_nmI (fun x3 ex3 => ?_)
  have hw := hw x3 ex3
  refine X_istore 21 (ls' := [.ref 92, .int p0, .int p1, .int p2, .int (0 : Int32), .int x3, junk, junk]) dX12_worth_19 rfl (Nat.le_of_ble_eq_true rfl) rfl (Or.inr (Or.inr ⟨_, rfl, rfl⟩)) ?_
  exact LP3_s hw (G := fun v4 v5 M => X (FM (QI L Q)) RX12 cX12_worth (some .int) 8 "worth" 4 0 0 (L, M) 21 [.ref 92, .int p0, .int p1, .int p2, .int v4, .int v5, junk, junk] []) (fun K21 v4 v5 M hb hK => t_X12_worth_21 hL  hb  hK)
def w_X12_worthWithin (L : Lay) (p0 : Int32) (p1 : Int32) (p2 : Int32) (M : Mem) (Q : Int32 → Mem → Prop) : Prop := w_X12_worth L p0 p1 p2 M (fun x2 M1 => (Q (jmax (0 : Int32) (jmin (9999 : Int32) x2)) M1))
set_option maxRecDepth 20000 in
theorem s_X12_worthWithin {L : Lay} (hL : LY L) {p0 : Int32} {p1 : Int32} {p2 : Int32}  {M : Mem} {Q : Int32 → Mem → Prop} (hw : w_X12_worthWithin L p0 p1 p2 M Q) : MX yX12_worthWithin cX12_worthWithin (some .int) 4 5 0 0 [.ref 92, .int p0, .int p1, .int p2] (L, M) (QI L Q) := by
  unfold w_X12_worthWithin at hw
  refine MX_of (by decide) [.ref 92, .int p0, .int p1, .int p2] (by rfl) (by exact Nat.le_of_ble_eq_true rfl) ?_
  show X (FM (QI L Q)) RX12 cX12_worthWithin (some .int) 4 "worthWithin" 5 0 0 (L, M) 0 [.ref 92, .int p0, .int p1, .int p2] []
  refine X_iconst 1 (v := 0) dX12_worthWithin_0 rfl rfl ?_
  refine X_sipush 4 (v := 9999) dX12_worthWithin_1 rfl rfl ?_
  refine X_aload_n 5 dX12_worthWithin_4 rfl rfl ?_
  refine X_iload_n 6 dX12_worthWithin_5 rfl rfl ?_
  refine X_iload_n 7 dX12_worthWithin_6 rfl rfl ?_
  refine X_iload_n 8 dX12_worthWithin_7 rfl rfl ?_
  refine Y_cVI 11 (as := [.int p0, .int p1, .int p2]) m_X12_388 (s_X12_worth hL  hw) (hL.ob (c := 12) (by decide) rfl) rfl (by decide) (Nat.le_of_ble_eq_true rfl) dX12_worthWithin_8 rfl rfl (fun x2 M1 hw => ?_)
  refine Y_mmin 14 l_X12_392 (by decide) (Nat.le_of_ble_eq_true rfl) dX12_worthWithin_11 rfl ?_
  refine Y_mmax 17 l_X12_228 (by decide) (Nat.le_of_ble_eq_true rfl) dX12_worthWithin_14 rfl ?_
  exact X_ret rfl rfl dX12_worthWithin_17 ⟨_, _, rfl, rfl, hw⟩
def w_X12_isTold (L : Lay) (p0 : Int32) (p1 : Int32) (p2 : Int32) (M : Mem) (Q : Int32 → Mem → Prop) : Prop := vp_in p0 2 ∧ (vp_in (((11 : Int32) * (mi M 99 (tn p0))) + p1) 286 ∧ ((((mi M 130 (tn (((11 : Int32) * (mi M 99 (tn p0))) + p1))) < 0 → (Q (0 : Int32) M)) ∧ (¬ (mi M 130 (tn (((11 : Int32) * (mi M 99 (tn p0))) + p1))) < 0 → (∀ x4 : Int32, x4 = (if ((mi M 103 (tn p0)) &&& p2) = 0 then (1 : Int32) else (0 : Int32)) → (Q x4 M))))))
set_option maxRecDepth 20000 in
theorem s_X12_isTold {L : Lay} (hL : LY L) {p0 : Int32} {p1 : Int32} {p2 : Int32}  {M : Mem} {Q : Int32 → Mem → Prop} (hw : w_X12_isTold L p0 p1 p2 M Q) : MX yX12_isTold cX12_isTold (some .boolean) 4 1 0 0 [.ref 92, .int p0, .int p1, .int p2] (L, M) (QZ L Q) := by
  unfold w_X12_isTold at hw
  refine MX_of (by decide) [.ref 92, .int p0, .int p1, .int p2] (by rfl) (by exact Nat.le_of_ble_eq_true rfl) ?_
  show X (FM (QZ L Q)) RX12 cX12_isTold (some .boolean) 4 "isTold" 1 0 0 (L, M) 0 [.ref 92, .int p0, .int p1, .int p2] []
  refine X_aload_n 1 dX12_isTold_0 rfl rfl ?_
  refine X_getR 4 f_X12_122 (hL.ob (c := 12) (by decide) rfl) rfl (hL.rr (by decide) rfl) dX12_isTold_1 rfl ?_
  refine X_bipush 6 (v := 11) dX12_isTold_4 rfl rfl ?_
  refine X_aload_n 7 dX12_isTold_6 rfl rfl ?_
  refine X_getR 10 f_X12_28 (hL.ob (c := 12) (by decide) rfl) rfl (hL.rr (by decide) rfl) dX12_isTold_7 rfl ?_
  refine X_iload_n 11 dX12_isTold_10 rfl rfl ?_
  obtain ⟨c1, hw⟩ := hw
  refine Y_iald 12 (k := (tn p0)) (hL.ar (t := 0) (n := 2) (by decide) rfl) c1 rfl dX12_isTold_11 rfl ?_
  refine X_imul 13 dX12_isTold_12 rfl ?_
  refine X_iload_n 14 dX12_isTold_13 rfl rfl ?_
  refine X_iadd 15 dX12_isTold_14 rfl ?_
  obtain ⟨c2, hw⟩ := hw
  refine Y_iald 16 (k := (tn (((11 : Int32) * (mi M 99 (tn p0))) + p1))) (hL.ar (t := 0) (n := 286) (by decide) rfl) c2 rfl dX12_isTold_15 rfl ?_
  refine X_if_lt 34 19 (y := 0) dX12_isTold_16 rfl rfl (fun c3 => ?_) (fun c3 => ?_)
  · have hw := hw.1 c3
    refine X_iconst 35 (v := 0) dX12_isTold_34 rfl rfl ?_
    exact X_ret rfl (nar_bool (Or.inl rfl)) dX12_isTold_35 ⟨_, _, rfl, Or.inl rfl, rfl, hw⟩
  · have hw := hw.2 c3
    refine X_aload_n 20 dX12_isTold_19 rfl rfl ?_
    refine X_getR 23 f_X12_40 (hL.ob (c := 12) (by decide) rfl) rfl (hL.rr (by decide) rfl) dX12_isTold_20 rfl ?_
    refine X_iload_n 24 dX12_isTold_23 rfl rfl ?_
    refine Y_iald 25 (k := (tn p0)) (hL.ar (t := 0) (n := 2) (by decide) rfl) c1 rfl dX12_isTold_24 rfl ?_
    refine X_iload_n 26 dX12_isTold_25 rfl rfl ?_
    refine X_iand 27 dX12_isTold_26 rfl ?_
    obtain ⟨x4, ex4⟩ : ∃ x4 : Int32, x4 = (if ((mi M 103 (tn p0)) &&& p2) = 0 then (1 : Int32) else (0 : Int32)) := ⟨_, rfl⟩
    have hw := hw x4 ex4
    have bx4 : BZ x4 := by rw [ex4]; (repeat' split) <;> first | exact Or.inl rfl | exact Or.inr rfl
    have hJ : X (FM (QZ L Q)) RX12 cX12_isTold (some .boolean) 4 "isTold" 1 0 0 (L, M) 35 [.ref 92, .int p0, .int p1, .int p2] [.int x4] := by
      exact X_ret rfl (nar_bool (bx4)) dX12_isTold_35 ⟨_, _, rfl, bx4, rfl, hw⟩
    refine X_if_ne 34 30 (y := 0) dX12_isTold_27 rfl rfl (fun c5 => ?_) (fun c5 => ?_)
    · refine X_iconst 35 (v := 0) dX12_isTold_34 rfl rfl ?_
      rw [if_neg c5] at ex4
      rw [ex4] at hJ
      exact hJ
    · refine X_iconst 31 (v := 1) dX12_isTold_30 rfl rfl ?_
      refine X_goto 35 dX12_isTold_31 rfl ?_
      rw [if_pos c5] at ex4
      rw [ex4] at hJ
      exact hJ
def w_X12_better (L : Lay) (p0 : Int32) (p1 : Int32) (p2 : Int32) (M : Mem) (Q : Int32 → Mem → Prop) : Prop := ((p0 = 0 → (vp_in p1 10 ∧ (vp_in p2 10 ∧ (∀ x14 : Int32, x14 = (if (mi M 121 (tn p2)) < (mi M 121 (tn p1)) then (1 : Int32) else (0 : Int32)) → (Q x14 M))))) ∧ (¬ p0 = 0 → (((p0 = (1 : Int32) → (vp_in p1 10 ∧ (vp_in p2 10 ∧ (∀ x10 : Int32, x10 = (if (mi M 120 (tn p2)) < (mi M 120 (tn p1)) then (1 : Int32) else (0 : Int32)) → (Q x10 M))))) ∧ (¬ p0 = (1 : Int32) → (((p0 < 0 → (vp_in p1 10 ∧ (vp_in p2 10 ∧ (∀ x6 : Int32, x6 = (if (mi M 148 (tn p2)) < (mi M 148 (tn p1)) then (1 : Int32) else (0 : Int32)) → (Q x6 M))))) ∧ (¬ p0 < 0 → (Q (0 : Int32) M)))))))))
set_option maxRecDepth 20000 in
theorem s_X12_better {L : Lay} (hL : LY L) {p0 : Int32} {p1 : Int32} {p2 : Int32}  {M : Mem} {Q : Int32 → Mem → Prop} (hw : w_X12_better L p0 p1 p2 M Q) : MX yX12_better cX12_better (some .boolean) 4 1 0 0 [.ref 92, .int p0, .int p1, .int p2] (L, M) (QZ L Q) := by
  unfold w_X12_better at hw
  refine MX_of (by decide) [.ref 92, .int p0, .int p1, .int p2] (by rfl) (by exact Nat.le_of_ble_eq_true rfl) ?_
  show X (FM (QZ L Q)) RX12 cX12_better (some .boolean) 4 "better" 1 0 0 (L, M) 0 [.ref 92, .int p0, .int p1, .int p2] []
  refine X_iload_n 1 dX12_better_0 rfl rfl ?_
  refine X_if_ne 27 4 (y := 0) dX12_better_1 rfl rfl (fun c1 => ?_) (fun c1 => ?_)
  · have hw := hw.2 c1
    refine X_iload_n 28 dX12_better_27 rfl rfl ?_
    refine X_iconst 29 (v := 1) dX12_better_28 rfl rfl ?_
    refine X_icmp_ne 55 32 dX12_better_29 rfl rfl (fun c2 => ?_) (fun c2 => ?_)
    · have hw := hw.2 c2
      refine X_iload_n 56 dX12_better_55 rfl rfl ?_
      refine X_if_ge 78 59 (y := 0) dX12_better_56 rfl rfl (fun c3 => ?_) (fun c3 => ?_)
      · have hw := hw.2 c3
        refine X_iconst 79 (v := 0) dX12_better_78 rfl rfl ?_
        exact X_ret rfl (nar_bool (Or.inl rfl)) dX12_better_79 ⟨_, _, rfl, Or.inl rfl, rfl, hw⟩
      · have hw := hw.1 c3
        refine X_aload_n 60 dX12_better_59 rfl rfl ?_
        refine X_getR 63 f_X12_176 (hL.ob (c := 12) (by decide) rfl) rfl (hL.rr (by decide) rfl) dX12_better_60 rfl ?_
        refine X_iload_n 64 dX12_better_63 rfl rfl ?_
        obtain ⟨c4, hw⟩ := hw
        refine Y_iald 65 (k := (tn p1)) (hL.ar (t := 0) (n := 10) (by decide) rfl) c4 rfl dX12_better_64 rfl ?_
        refine X_aload_n 66 dX12_better_65 rfl rfl ?_
        refine X_getR 69 f_X12_176 (hL.ob (c := 12) (by decide) rfl) rfl (hL.rr (by decide) rfl) dX12_better_66 rfl ?_
        refine X_iload_n 70 dX12_better_69 rfl rfl ?_
        obtain ⟨c5, hw⟩ := hw
        refine Y_iald 71 (k := (tn p2)) (hL.ar (t := 0) (n := 10) (by decide) rfl) c5 rfl dX12_better_70 rfl ?_
        obtain ⟨x6, ex6⟩ : ∃ x6 : Int32, x6 = (if (mi M 148 (tn p2)) < (mi M 148 (tn p1)) then (1 : Int32) else (0 : Int32)) := ⟨_, rfl⟩
        have hw := hw x6 ex6
        have bx6 : BZ x6 := by rw [ex6]; (repeat' split) <;> first | exact Or.inl rfl | exact Or.inr rfl
        have hJ : X (FM (QZ L Q)) RX12 cX12_better (some .boolean) 4 "better" 1 0 0 (L, M) 79 [.ref 92, .int p0, .int p1, .int p2] [.int x6] := by
          exact X_ret rfl (nar_bool (bx6)) dX12_better_79 ⟨_, _, rfl, bx6, rfl, hw⟩
        refine X_icmp_le 78 74 dX12_better_71 rfl rfl (fun c7 => ?_) (fun c7 => ?_)
        · refine X_iconst 79 (v := 0) dX12_better_78 rfl rfl ?_
          rw [if_neg c7] at ex6
          rw [ex6] at hJ
          exact hJ
        · refine X_iconst 75 (v := 1) dX12_better_74 rfl rfl ?_
          refine X_goto 79 dX12_better_75 rfl ?_
          rw [if_pos c7] at ex6
          rw [ex6] at hJ
          exact hJ
    · have hw := hw.1 c2
      refine X_aload_n 33 dX12_better_32 rfl rfl ?_
      refine X_getR 36 f_X12_92 (hL.ob (c := 12) (by decide) rfl) rfl (hL.rr (by decide) rfl) dX12_better_33 rfl ?_
      refine X_iload_n 37 dX12_better_36 rfl rfl ?_
      obtain ⟨c8, hw⟩ := hw
      refine Y_iald 38 (k := (tn p1)) (hL.ar (t := 0) (n := 10) (by decide) rfl) c8 rfl dX12_better_37 rfl ?_
      refine X_aload_n 39 dX12_better_38 rfl rfl ?_
      refine X_getR 42 f_X12_92 (hL.ob (c := 12) (by decide) rfl) rfl (hL.rr (by decide) rfl) dX12_better_39 rfl ?_
      refine X_iload_n 43 dX12_better_42 rfl rfl ?_
      obtain ⟨c9, hw⟩ := hw
      refine Y_iald 44 (k := (tn p2)) (hL.ar (t := 0) (n := 10) (by decide) rfl) c9 rfl dX12_better_43 rfl ?_
      obtain ⟨x10, ex10⟩ : ∃ x10 : Int32, x10 = (if (mi M 120 (tn p2)) < (mi M 120 (tn p1)) then (1 : Int32) else (0 : Int32)) := ⟨_, rfl⟩
      have hw := hw x10 ex10
      have bx10 : BZ x10 := by rw [ex10]; (repeat' split) <;> first | exact Or.inl rfl | exact Or.inr rfl
      have hJ : X (FM (QZ L Q)) RX12 cX12_better (some .boolean) 4 "better" 1 0 0 (L, M) 79 [.ref 92, .int p0, .int p1, .int p2] [.int x10] := by
        exact X_ret rfl (nar_bool (bx10)) dX12_better_79 ⟨_, _, rfl, bx10, rfl, hw⟩
      refine X_icmp_le 51 47 dX12_better_44 rfl rfl (fun c11 => ?_) (fun c11 => ?_)
      · refine X_iconst 52 (v := 0) dX12_better_51 rfl rfl ?_
        refine X_goto 79 dX12_better_52 rfl ?_
        rw [if_neg c11] at ex10
        rw [ex10] at hJ
        exact hJ
      · refine X_iconst 48 (v := 1) dX12_better_47 rfl rfl ?_
        refine X_goto 79 dX12_better_48 rfl ?_
        rw [if_pos c11] at ex10
        rw [ex10] at hJ
        exact hJ
  · have hw := hw.1 c1
    refine X_aload_n 5 dX12_better_4 rfl rfl ?_
    refine X_getR 8 f_X12_95 (hL.ob (c := 12) (by decide) rfl) rfl (hL.rr (by decide) rfl) dX12_better_5 rfl ?_
    refine X_iload_n 9 dX12_better_8 rfl rfl ?_
    obtain ⟨c12, hw⟩ := hw
    refine Y_iald 10 (k := (tn p1)) (hL.ar (t := 0) (n := 10) (by decide) rfl) c12 rfl dX12_better_9 rfl ?_
    refine X_aload_n 11 dX12_better_10 rfl rfl ?_
    refine X_getR 14 f_X12_95 (hL.ob (c := 12) (by decide) rfl) rfl (hL.rr (by decide) rfl) dX12_better_11 rfl ?_
    refine X_iload_n 15 dX12_better_14 rfl rfl ?_
    obtain ⟨c13, hw⟩ := hw
    refine Y_iald 16 (k := (tn p2)) (hL.ar (t := 0) (n := 10) (by decide) rfl) c13 rfl dX12_better_15 rfl ?_
    obtain ⟨x14, ex14⟩ : ∃ x14 : Int32, x14 = (if (mi M 121 (tn p2)) < (mi M 121 (tn p1)) then (1 : Int32) else (0 : Int32)) := ⟨_, rfl⟩
    have hw := hw x14 ex14
    have bx14 : BZ x14 := by rw [ex14]; (repeat' split) <;> first | exact Or.inl rfl | exact Or.inr rfl
    have hJ : X (FM (QZ L Q)) RX12 cX12_better (some .boolean) 4 "better" 1 0 0 (L, M) 79 [.ref 92, .int p0, .int p1, .int p2] [.int x14] := by
      exact X_ret rfl (nar_bool (bx14)) dX12_better_79 ⟨_, _, rfl, bx14, rfl, hw⟩
    refine X_icmp_le 23 19 dX12_better_16 rfl rfl (fun c15 => ?_) (fun c15 => ?_)
    · refine X_iconst 24 (v := 0) dX12_better_23 rfl rfl ?_
      refine X_goto 79 dX12_better_24 rfl ?_
      rw [if_neg c15] at ex14
      rw [ex14] at hJ
      exact hJ
    · refine X_iconst 20 (v := 1) dX12_better_19 rfl rfl ?_
      refine X_goto 79 dX12_better_20 rfl ?_
      rw [if_pos c15] at ex14
      rw [ex14] at hJ
      exact hJ
