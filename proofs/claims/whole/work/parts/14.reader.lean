-- printed walks (by program: wip/whole/gen.py)
def w_X5_addBytes_3 (L : Lay) (p0 : Int64) (K3 : Int32 → Mem → Prop) (v3 : Int32) (M : Mem) (Q : Mem → Prop) : Prop := ((v3 < 0 → (Q M)) ∧ (¬ v3 < 0 → (∀ x2 : Int32, x2 = ((jlushr p0 v3) &&& (255 : Int64)).toInt32 → (∀ x3 : Int32, x3 = (if x2 = (10 : Int32) then (1 : Int32) else (if x2 < (32 : Int32) then (0 : Int32) else (if (126 : Int32) < x2 then (0 : Int32) else (1 : Int32)))) → (((x3 = 0 → (∀ x5 : Int32, x5 = v3 + (-8 : Int32) → (K3 x5 M))) ∧ (¬ x3 = 0 → ((((mi M 71 1) < (nI 1000) → (vp_in (mi M 71 1) 1000 ∧ (∀ M9 : Mem, M9 = si M 72 (tn (mi M 71 1)) (narC (jchr x2)) → (∀ M10 : Mem, M10 = si M9 71 1 ((mi M9 71 1) + (1 : Int32)) → (∀ x11 : Int32, x11 = v3 + (-8 : Int32) → (K3 x11 M10)))))) ∧ (¬ (mi M 71 1) < (nI 1000) → (∀ x7 : Int32, x7 = v3 + (-8 : Int32) → (K3 x7 M))))))))))))
set_option maxRecDepth 20000 in
theorem t_X5_addBytes_3 {L : Lay} (hL : LY L) {p0 : Int64}  {K3 : Int32 → Mem → Prop} {v3 : Int32}  {M : Mem} {Q : Mem → Prop} (hw : w_X5_addBytes_3 L p0 K3 v3 M Q) (hK3 : ∀ (v3 : Int32) (M : Mem), K3 v3 M → X (FM (QV L Q)) RX5 cX5_addBytes none 6 "addBytes" 1 0 0 (L, M) 3 [.ref 71, .long p0, junk, .int v3, junk, junk] []) : X (FM (QV L Q)) RX5 cX5_addBytes none 6 "addBytes" 1 0 0 (L, M) 3 [.ref 71, .long p0, junk, .int v3, junk, junk] [] := by
  unfold w_X5_addBytes_3 at hw
  refine X_iload_n 4 dX5_addBytes_3 rfl rfl ?_
  refine X_if_lt 90 7 (y := 0) dX5_addBytes_4 rfl rfl (fun c1 => ?_) (fun c1 => ?_)
  · have hw := hw.1 c1
    exact X_retV rfl dX5_addBytes_90 ⟨_, rfl, rfl, hw⟩
  · have hw := hw.2 c1
    refine X_lload_n 8 dX5_addBytes_7 rfl rfl ?_
    refine X_iload_n 9 dX5_addBytes_8 rfl rfl ?_
    refine Y_lushr 10 dX5_addBytes_9 rfl ?_
    refine X_ldc2 13 dX5_addBytes_10 rfl k_X5_22 ?_
    refine X_land 14 dX5_addBytes_13 rfl ?_
    refine X_l2i 15 dX5_addBytes_14 rfl ?_
    refine X_nmI (fun x2 ex2 => ?_)
    have hw := hw x2 ex2
    refine X_istore 17 (ls' := [.ref 71, .long p0, junk, .int v3, .int x2, junk]) dX5_addBytes_15 rfl (Nat.le_of_ble_eq_true rfl) rfl (Or.inr (Or.inr ⟨_, rfl, rfl⟩)) ?_
    refine X_iload 19 dX5_addBytes_17 rfl rfl ?_
    refine X_bipush 21 (v := 10) dX5_addBytes_19 rfl rfl ?_
    obtain ⟨x3, ex3⟩ : ∃ x3 : Int32, x3 = (if x2 = (10 : Int32) then (1 : Int32) else (if x2 < (32 : Int32) then (0 : Int32) else (if (126 : Int32) < x2 then (0 : Int32) else (1 : Int32)))) := ⟨_, rfl⟩
    have hw := hw x3 ex3
    have bx3 : BZ x3 := by rw [ex3]; (repeat' split) <;> first | exact Or.inl rfl | exact Or.inr rfl
    have hJ : X (FM (QV L Q)) RX5 cX5_addBytes none 6 "addBytes" 1 0 0 (L, M) 43 [.ref 71, .long p0, junk, .int v3, .int x2, junk] [.int x3] := by
      refine X_istore 45 (ls' := [.ref 71, .long p0, junk, .int v3, .int x2, .int x3]) dX5_addBytes_43 rfl (Nat.le_of_ble_eq_true rfl) rfl (Or.inr (Or.inr ⟨_, rfl, rfl⟩)) ?_
      refine X_iload 47 dX5_addBytes_45 rfl rfl ?_
      refine X_if_eq 84 50 (y := 0) dX5_addBytes_47 rfl rfl (fun c4 => ?_) (fun c4 => ?_)
      · have hw := hw.1 c4
        obtain ⟨x5, ex5⟩ : ∃ x5 : Int32, x5 = v3 + (-8 : Int32) := ⟨_, rfl⟩
        have hw := hw x5 ex5
        refine X_iinc 87 (v := x5) (ls' := [.ref 71, .long p0, junk, .int x5, .int x2, .int x3]) dX5_addBytes_84 rfl rfl (by rw [ex5]; rfl) rfl (Or.inr (Or.inl rfl)) ?_
        refine X_goto 3 dX5_addBytes_87 rfl ?_
        refine X_weak (ls' := [.ref 71, .long p0, junk, .int x5, junk, junk]) (WK.s (WK.s (WK.s (WK.s (WK.j (WK.j WK.n)))))) (Nat.le_of_ble_eq_true rfl) ?_
        exact hK3 x5 M hw
      · have hw := hw.2 c4
        refine X_aload_n 51 dX5_addBytes_50 rfl rfl ?_
        refine X_getI 54 f_X5_24 (hL.ob (c := 5) (by decide) rfl) rfl dX5_addBytes_51 rfl ?_
        refine X_aload_n 55 dX5_addBytes_54 rfl rfl ?_
        refine X_getR 58 f_X5_9 (hL.ob (c := 5) (by decide) rfl) rfl (hL.rr (by decide) rfl) dX5_addBytes_55 rfl ?_
        refine X_alen 59 (t := 3) (by decide) (hL.ar (t := 3) (n := 1000) (by decide) rfl) dX5_addBytes_58 rfl ?_
        refine X_icmp_ge 84 62 dX5_addBytes_59 rfl rfl (fun c6 => ?_) (fun c6 => ?_)
        · have hw := hw.2 c6
          obtain ⟨x7, ex7⟩ : ∃ x7 : Int32, x7 = v3 + (-8 : Int32) := ⟨_, rfl⟩
          have hw := hw x7 ex7
          refine X_iinc 87 (v := x7) (ls' := [.ref 71, .long p0, junk, .int x7, .int x2, .int x3]) dX5_addBytes_84 rfl rfl (by rw [ex7]; rfl) rfl (Or.inr (Or.inl rfl)) ?_
          refine X_goto 3 dX5_addBytes_87 rfl ?_
          refine X_weak (ls' := [.ref 71, .long p0, junk, .int x7, junk, junk]) (WK.s (WK.s (WK.s (WK.s (WK.j (WK.j WK.n)))))) (Nat.le_of_ble_eq_true rfl) ?_
          exact hK3 x7 M hw
        · have hw := hw.1 c6
          refine X_aload_n 63 dX5_addBytes_62 rfl rfl ?_
          refine X_getR 66 f_X5_9 (hL.ob (c := 5) (by decide) rfl) rfl (hL.rr (by decide) rfl) dX5_addBytes_63 rfl ?_
          refine X_aload_n 67 dX5_addBytes_66 rfl rfl ?_
          refine X_getI 70 f_X5_24 (hL.ob (c := 5) (by decide) rfl) rfl dX5_addBytes_67 rfl ?_
          refine X_iload 72 dX5_addBytes_70 rfl rfl ?_
          refine Y_i2c 73 dX5_addBytes_72 rfl ?_
          obtain ⟨c8, hw⟩ := hw
          refine Y_cast 74 (k := (tn (mi M 71 1))) (hL.ar (t := 3) (n := 1000) (by decide) rfl) c8 rfl dX5_addBytes_73 rfl ?_
          refine X_nmM (fun M9 eM9 => ?_)
          have hw := hw M9 eM9
          refine X_aload_n 75 dX5_addBytes_74 rfl rfl ?_
          refine X_dup 76 dX5_addBytes_75 rfl rfl ?_
          refine X_getI 79 f_X5_24 (hL.ob (c := 5) (by decide) rfl) rfl dX5_addBytes_76 rfl ?_
          refine X_iconst 80 (v := 1) dX5_addBytes_79 rfl rfl ?_
          refine X_iadd 81 dX5_addBytes_80 rfl ?_
          refine X_putI 84 f_X5_24 (Or.inl rfl) (hL.ob (c := 5) (by decide) rfl) rfl dX5_addBytes_81 rfl ?_
          refine X_nmM (fun M10 eM10 => ?_)
          have hw := hw M10 eM10
          obtain ⟨x11, ex11⟩ : ∃ x11 : Int32, x11 = v3 + (-8 : Int32) := ⟨_, rfl⟩
          have hw := hw x11 ex11
          refine X_iinc 87 (v := x11) (ls' := [.ref 71, .long p0, junk, .int x11, .int x2, .int x3]) dX5_addBytes_84 rfl rfl (by rw [ex11]; rfl) rfl (Or.inr (Or.inl rfl)) ?_
          refine X_goto 3 dX5_addBytes_87 rfl ?_
          refine X_weak (ls' := [.ref 71, .long p0, junk, .int x11, junk, junk]) (WK.s (WK.s (WK.s (WK.s (WK.j (WK.j WK.n)))))) (Nat.le_of_ble_eq_true rfl) ?_
          exact hK3 x11 M10 hw
    refine X_icmp_eq 38 24 dX5_addBytes_21 rfl rfl (fun c12 => ?_) (fun c12 => ?_)
    · refine X_iconst 39 (v := 1) dX5_addBytes_38 rfl rfl ?_
      refine X_goto 43 dX5_addBytes_39 rfl ?_
      rw [if_pos c12] at ex3
      rw [ex3] at hJ
      exact hJ
    · refine X_iload 26 dX5_addBytes_24 rfl rfl ?_
      refine X_bipush 28 (v := 32) dX5_addBytes_26 rfl rfl ?_
      refine X_icmp_lt 42 31 dX5_addBytes_28 rfl rfl (fun c13 => ?_) (fun c13 => ?_)
      · refine X_iconst 43 (v := 0) dX5_addBytes_42 rfl rfl ?_
        rw [if_neg c12, if_pos c13] at ex3
        rw [ex3] at hJ
        exact hJ
      · refine X_iload 33 dX5_addBytes_31 rfl rfl ?_
        refine X_bipush 35 (v := 126) dX5_addBytes_33 rfl rfl ?_
        refine X_icmp_gt 42 38 dX5_addBytes_35 rfl rfl (fun c14 => ?_) (fun c14 => ?_)
        · refine X_iconst 43 (v := 0) dX5_addBytes_42 rfl rfl ?_
          rw [if_neg c12, if_neg c13, if_pos c14] at ex3
          rw [ex3] at hJ
          exact hJ
        · refine X_iconst 39 (v := 1) dX5_addBytes_38 rfl rfl ?_
          refine X_goto 43 dX5_addBytes_39 rfl ?_
          rw [if_neg c12, if_neg c13, if_neg c14] at ex3
          rw [ex3] at hJ
          exact hJ
def w_X5_addBytes (L : Lay) (p0 : Int64) (M : Mem) (Q : Mem → Prop) : Prop := LP2 (fun K3 v3 M => w_X5_addBytes_3 L p0  K3 v3 M Q) (56 : Int32) M
set_option maxRecDepth 20000 in
theorem s_X5_addBytes {L : Lay} (hL : LY L) {p0 : Int64}  {M : Mem} {Q : Mem → Prop} (hw : w_X5_addBytes L p0 M Q) : MX yX5_addBytes cX5_addBytes none 6 1 0 0 [.ref 71, .long p0] (L, M) (QV L Q) := by
  unfold w_X5_addBytes at hw
  refine MX_of (by decide) [.ref 71, .long p0, junk, junk, junk, junk] (by rfl) (by exact Nat.le_of_ble_eq_true rfl) ?_
  show X (FM (QV L Q)) RX5 cX5_addBytes none 6 "addBytes" 1 0 0 (L, M) 0 [.ref 71, .long p0, junk, junk, junk, junk] []
  refine X_bipush 2 (v := 56) dX5_addBytes_0 rfl rfl ?_
  refine X_istore_n 3 (ls' := [.ref 71, .long p0, junk, .int (56 : Int32), junk, junk]) dX5_addBytes_2 rfl rfl (Nat.le_of_ble_eq_true rfl) rfl (Or.inr (Or.inl rfl)) ?_
  exact LP2_s hw (G := fun v3 M => X (FM (QV L Q)) RX5 cX5_addBytes none 6 "addBytes" 1 0 0 (L, M) 3 [.ref 71, .long p0, junk, .int v3, junk, junk] []) (fun K3 v3 M hb hK => t_X5_addBytes_3 hL  hb  hK)
def w_X5_refuse (L : Lay) (p0 : Int32) (M : Mem) (Q : Mem → Prop) : Prop := (((mi M 71 2) = 0 → (∀ M2 : Mem, M2 = si M 71 2 (p0 + ((16 : Int32) * (mi M 71 5))) → (Q M2))) ∧ (¬ (mi M 71 2) = 0 → (Q M)))
set_option maxRecDepth 20000 in
theorem s_X5_refuse {L : Lay} (hL : LY L) {p0 : Int32}  {M : Mem} {Q : Mem → Prop} (hw : w_X5_refuse L p0 M Q) : MX yX5_refuse cX5_refuse none 2 1 0 0 [.ref 71, .int p0] (L, M) (QV L Q) := by
  unfold w_X5_refuse at hw
  refine MX_of (by decide) [.ref 71, .int p0] (by rfl) (by exact Nat.le_of_ble_eq_true rfl) ?_
  show X (FM (QV L Q)) RX5 cX5_refuse none 2 "refuse" 1 0 0 (L, M) 0 [.ref 71, .int p0] []
  refine X_aload_n 1 dX5_refuse_0 rfl rfl ?_
  refine X_getI 4 f_X5_37 (hL.ob (c := 5) (by decide) rfl) rfl dX5_refuse_1 rfl ?_
  refine X_if_ne 20 7 (y := 0) dX5_refuse_4 rfl rfl (fun c1 => ?_) (fun c1 => ?_)
  · have hw := hw.2 c1
    exact X_retV rfl dX5_refuse_20 ⟨_, rfl, rfl, hw⟩
  · have hw := hw.1 c1
    refine X_aload_n 8 dX5_refuse_7 rfl rfl ?_
    refine X_iload_n 9 dX5_refuse_8 rfl rfl ?_
    refine X_bipush 11 (v := 16) dX5_refuse_9 rfl rfl ?_
    refine X_aload_n 12 dX5_refuse_11 rfl rfl ?_
    refine X_getI 15 f_X5_100 (hL.ob (c := 5) (by decide) rfl) rfl dX5_refuse_12 rfl ?_
    refine X_imul 16 dX5_refuse_15 rfl ?_
    refine X_iadd 17 dX5_refuse_16 rfl ?_
    refine X_putI 20 f_X5_37 (Or.inl rfl) (hL.ob (c := 5) (by decide) rfl) rfl dX5_refuse_17 rfl ?_
    refine X_nmM (fun M2 eM2 => ?_)
    have hw := hw M2 eM2
    exact X_retV rfl dX5_refuse_20 ⟨_, rfl, rfl, hw⟩
def w_X5_isLetter (L : Lay) (p0 : Int32) (M : Mem) (Q : Int32 → Mem → Prop) : Prop := ∀ x1 : Int32, x1 = (if p0 < (97 : Int32) then (0 : Int32) else (if (122 : Int32) < p0 then (0 : Int32) else (1 : Int32))) → (Q x1 M)
set_option maxRecDepth 20000 in
theorem s_X5_isLetter {L : Lay} (hL : LY L) {p0 : Int32}  {M : Mem} {Q : Int32 → Mem → Prop} (hw : w_X5_isLetter L p0 M Q) : MX yX5_isLetter cX5_isLetter (some .boolean) 1 1 0 0 [.int p0] (L, M) (QZ L Q) := by
  unfold w_X5_isLetter at hw
  refine MX_of (by decide) [.int p0] (by rfl) (by exact Nat.le_of_ble_eq_true rfl) ?_
  show X (FM (QZ L Q)) RX5 cX5_isLetter (some .boolean) 1 "isLetter" 1 0 0 (L, M) 0 [.int p0] []
  refine X_iload_n 1 dX5_isLetter_0 rfl rfl ?_
  refine X_bipush 3 (v := 97) dX5_isLetter_1 rfl rfl ?_
  obtain ⟨x1, ex1⟩ : ∃ x1 : Int32, x1 = (if p0 < (97 : Int32) then (0 : Int32) else (if (122 : Int32) < p0 then (0 : Int32) else (1 : Int32))) := ⟨_, rfl⟩
  have hw := hw x1 ex1
  have bx1 : BZ x1 := by rw [ex1]; (repeat' split) <;> first | exact Or.inl rfl | exact Or.inr rfl
  have hJ : X (FM (QZ L Q)) RX5 cX5_isLetter (some .boolean) 1 "isLetter" 1 0 0 (L, M) 17 [.int p0] [.int x1] := by
    exact X_ret rfl (nar_bool (bx1)) dX5_isLetter_17 ⟨_, _, rfl, bx1, rfl, hw⟩
  refine X_icmp_lt 16 6 dX5_isLetter_3 rfl rfl (fun c2 => ?_) (fun c2 => ?_)
  · refine X_iconst 17 (v := 0) dX5_isLetter_16 rfl rfl ?_
    rw [if_pos c2] at ex1
    rw [ex1] at hJ
    exact hJ
  · refine X_iload_n 7 dX5_isLetter_6 rfl rfl ?_
    refine X_bipush 9 (v := 122) dX5_isLetter_7 rfl rfl ?_
    refine X_icmp_gt 16 12 dX5_isLetter_9 rfl rfl (fun c3 => ?_) (fun c3 => ?_)
    · refine X_iconst 17 (v := 0) dX5_isLetter_16 rfl rfl ?_
      rw [if_neg c2, if_pos c3] at ex1
      rw [ex1] at hJ
      exact hJ
    · refine X_iconst 13 (v := 1) dX5_isLetter_12 rfl rfl ?_
      refine X_goto 17 dX5_isLetter_13 rfl ?_
      rw [if_neg c2, if_neg c3] at ex1
      rw [ex1] at hJ
      exact hJ
def w_X5_isWord_37 (L : Lay) (p0 : Int32) (K2 : Int32 → Mem → Prop) (v2 : Int32) (y0 : Int32) (M : Mem) (Q : Int32 → Mem → Prop) : Prop := vp_in ((p0 * (8 : Int32)) + v2) 216 ∧ ((((jword ((p0 * (8 : Int32)) + v2)) = y0 → (∀ x6 : Int32, x6 = v2 + (1 : Int32) → (K2 x6 M))) ∧ (¬ (jword ((p0 * (8 : Int32)) + v2)) = y0 → (Q (0 : Int32) M))))
set_option maxRecDepth 20000 in
theorem t_X5_isWord_37 {L : Lay} (hL : LY L) {p0 : Int32}  {K2 : Int32 → Mem → Prop} {v2 : Int32} {y0 : Int32}  {M : Mem} {Q : Int32 → Mem → Prop} (hw : w_X5_isWord_37 L p0 K2 v2 y0 M Q) (hK2 : ∀ (v2 : Int32) (M : Mem), K2 v2 M → X (FM (QZ L Q)) RX5 cX5_isWord (some .boolean) 4 "isWord" 5 0 0 (L, M) 2 [.ref 71, .int p0, .int v2, junk] []) : X (FM (QZ L Q)) RX5 cX5_isWord (some .boolean) 4 "isWord" 5 0 0 (L, M) 37 [.ref 71, .int p0, .int v2, junk] [.int y0] := by
  unfold w_X5_isWord_37 at hw
  refine X_istore_n 38 (ls' := [.ref 71, .int p0, .int v2, .int y0]) dX5_isWord_37 rfl rfl (Nat.le_of_ble_eq_true rfl) rfl (Or.inr (Or.inr ⟨_, rfl, rfl⟩)) ?_
  refine X_ldcT 40 (i := 2) dX5_isWord_38 rfl (by decide) (by decide) ?_
  refine X_iload_n 41 dX5_isWord_40 rfl rfl ?_
  refine X_bipush 43 (v := 8) dX5_isWord_41 rfl rfl ?_
  refine X_imul 44 dX5_isWord_43 rfl ?_
  refine X_iload_n 45 dX5_isWord_44 rfl rfl ?_
  refine X_iadd 46 dX5_isWord_45 rfl ?_
  obtain ⟨c4, hw⟩ := hw
  refine Y_charAt 49 c4 (by decide) (Nat.le_of_ble_eq_true rfl) dX5_isWord_46 rfl ?_
  refine X_iload_n 50 dX5_isWord_49 rfl rfl ?_
  refine X_icmp_eq 55 53 dX5_isWord_50 rfl rfl (fun c5 => ?_) (fun c5 => ?_)
  · have hw := hw.1 c5
    obtain ⟨x6, ex6⟩ : ∃ x6 : Int32, x6 = v2 + (1 : Int32) := ⟨_, rfl⟩
    have hw := hw x6 ex6
    refine X_iinc 58 (v := x6) (ls' := [.ref 71, .int p0, .int x6, .int y0]) dX5_isWord_55 rfl rfl (by rw [ex6]; rfl) rfl (Or.inr (Or.inr ⟨_, rfl, rfl⟩)) ?_
    refine X_goto 2 dX5_isWord_58 rfl ?_
    refine X_weak (ls' := [.ref 71, .int p0, .int x6, junk]) (WK.s (WK.s (WK.s (WK.j WK.n)))) (Nat.le_of_ble_eq_true rfl) ?_
    exact hK2 x6 M hw
  · have hw := hw.2 c5
    refine X_iconst 54 (v := 0) dX5_isWord_53 rfl rfl ?_
    exact X_ret rfl (nar_bool (Or.inl rfl)) dX5_isWord_54 ⟨_, _, rfl, Or.inl rfl, rfl, hw⟩
def w_X5_isWord_2 (L : Lay) (p0 : Int32) (K2 : Int32 → Mem → Prop) (v2 : Int32) (M : Mem) (Q : Int32 → Mem → Prop) : Prop := ((v2 < (8 : Int32) → (((((mi M 71 5) + v2) < (mi M 71 6) → (vp_in ((mi M 71 5) + v2) 1000 ∧ (w_X5_isWord_37 L p0 K2 v2 (mi M 72 (tn ((mi M 71 5) + v2))) M Q))) ∧ (¬ ((mi M 71 5) + v2) < (mi M 71 6) → (w_X5_isWord_37 L p0 K2 v2 (32 : Int32) M Q))))) ∧ (¬ v2 < (8 : Int32) → (Q (1 : Int32) M)))
set_option maxRecDepth 20000 in
theorem t_X5_isWord_2 {L : Lay} (hL : LY L) {p0 : Int32}  {K2 : Int32 → Mem → Prop} {v2 : Int32}  {M : Mem} {Q : Int32 → Mem → Prop} (hw : w_X5_isWord_2 L p0 K2 v2 M Q) (hK2 : ∀ (v2 : Int32) (M : Mem), K2 v2 M → X (FM (QZ L Q)) RX5 cX5_isWord (some .boolean) 4 "isWord" 5 0 0 (L, M) 2 [.ref 71, .int p0, .int v2, junk] []) : X (FM (QZ L Q)) RX5 cX5_isWord (some .boolean) 4 "isWord" 5 0 0 (L, M) 2 [.ref 71, .int p0, .int v2, junk] [] := by
  unfold w_X5_isWord_2 at hw
  refine X_iload_n 3 dX5_isWord_2 rfl rfl ?_
  refine X_bipush 5 (v := 8) dX5_isWord_3 rfl rfl ?_
  refine X_icmp_ge 61 8 dX5_isWord_5 rfl rfl (fun c1 => ?_) (fun c1 => ?_)
  · have hw := hw.2 c1
    refine X_iconst 62 (v := 1) dX5_isWord_61 rfl rfl ?_
    exact X_ret rfl (nar_bool (Or.inr rfl)) dX5_isWord_62 ⟨_, _, rfl, Or.inr rfl, rfl, hw⟩
  · have hw := hw.1 c1
    refine X_aload_n 9 dX5_isWord_8 rfl rfl ?_
    refine X_getI 12 f_X5_100 (hL.ob (c := 5) (by decide) rfl) rfl dX5_isWord_9 rfl ?_
    refine X_iload_n 13 dX5_isWord_12 rfl rfl ?_
    refine X_iadd 14 dX5_isWord_13 rfl ?_
    refine X_aload_n 15 dX5_isWord_14 rfl rfl ?_
    refine X_getI 18 f_X5_147 (hL.ob (c := 5) (by decide) rfl) rfl dX5_isWord_15 rfl ?_
    refine X_icmp_ge 35 21 dX5_isWord_18 rfl rfl (fun c2 => ?_) (fun c2 => ?_)
    · have hw := hw.2 c2
      refine X_bipush 37 (v := 32) dX5_isWord_35 rfl rfl ?_
      exact t_X5_isWord_37 hL   hw hK2
    · have hw := hw.1 c2
      refine X_aload_n 22 dX5_isWord_21 rfl rfl ?_
      refine X_getR 25 f_X5_9 (hL.ob (c := 5) (by decide) rfl) rfl (hL.rr (by decide) rfl) dX5_isWord_22 rfl ?_
      refine X_aload_n 26 dX5_isWord_25 rfl rfl ?_
      refine X_getI 29 f_X5_100 (hL.ob (c := 5) (by decide) rfl) rfl dX5_isWord_26 rfl ?_
      refine X_iload_n 30 dX5_isWord_29 rfl rfl ?_
      refine X_iadd 31 dX5_isWord_30 rfl ?_
      obtain ⟨c3, hw⟩ := hw
      refine Y_cald 32 (k := (tn ((mi M 71 5) + v2))) (hL.ar (t := 3) (n := 1000) (by decide) rfl) c3 rfl dX5_isWord_31 rfl ?_
      refine X_goto 37 dX5_isWord_32 rfl ?_
      exact t_X5_isWord_37 hL   hw hK2
def w_X5_isWord (L : Lay) (p0 : Int32) (M : Mem) (Q : Int32 → Mem → Prop) : Prop := LP2 (fun K2 v2 M => w_X5_isWord_2 L p0  K2 v2 M Q) (0 : Int32) M
set_option maxRecDepth 20000 in
theorem s_X5_isWord {L : Lay} (hL : LY L) {p0 : Int32}  {M : Mem} {Q : Int32 → Mem → Prop} (hw : w_X5_isWord L p0 M Q) : MX yX5_isWord cX5_isWord (some .boolean) 4 5 0 0 [.ref 71, .int p0] (L, M) (QZ L Q) := by
  unfold w_X5_isWord at hw
  refine MX_of (by decide) [.ref 71, .int p0, junk, junk] (by rfl) (by exact Nat.le_of_ble_eq_true rfl) ?_
  show X (FM (QZ L Q)) RX5 cX5_isWord (some .boolean) 4 "isWord" 5 0 0 (L, M) 0 [.ref 71, .int p0, junk, junk] []
  refine X_iconst 1 (v := 0) dX5_isWord_0 rfl rfl ?_
  refine X_istore_n 2 (ls' := [.ref 71, .int p0, .int (0 : Int32), junk]) dX5_isWord_1 rfl rfl (Nat.le_of_ble_eq_true rfl) rfl (Or.inr (Or.inr ⟨_, rfl, rfl⟩)) ?_
  exact LP2_s hw (G := fun v2 M => X (FM (QZ L Q)) RX5 cX5_isWord (some .boolean) 4 "isWord" 5 0 0 (L, M) 2 [.ref 71, .int p0, .int v2, junk] []) (fun K2 v2 M hb hK => t_X5_isWord_2 hL  hb  hK)
def w_X5_takeWord_47 (L : Lay)  (K47 : Int32 → Mem → Prop) (v1 : Int32) (M : Mem) (Q : Mem → Prop) : Prop := (((26 : Int32) < v1 → (Q M)) ∧ (¬ (26 : Int32) < v1 → ((((8 : Int32) < ((mi M 71 6) - (mi M 71 5)) → (Q M)) ∧ (¬ (8 : Int32) < ((mi M 71 6) - (mi M 71 5)) → (w_X5_isWord L v1 M (fun x11 M10 => (((x11 = 0 → (∀ x13 : Int32, x13 = v1 + (1 : Int32) → (K47 x13 M10))) ∧ (¬ x11 = 0 → (∀ M14 : Mem, M14 = si M10 71 3 v1 → (Q M14))))))))))))
set_option maxRecDepth 20000 in
theorem t_X5_takeWord_47 {L : Lay} (hL : LY L)   {K47 : Int32 → Mem → Prop} {v1 : Int32}  {M : Mem} {Q : Mem → Prop} (hw : w_X5_takeWord_47 L  K47 v1 M Q) (hK47 : ∀ (v1 : Int32) (M : Mem), K47 v1 M → X (FM (QV L Q)) RX5 cX5_takeWord none 2 "takeWord" 6 0 0 (L, M) 47 [.ref 71, .int v1] []) : X (FM (QV L Q)) RX5 cX5_takeWord none 2 "takeWord" 6 0 0 (L, M) 47 [.ref 71, .int v1] [] := by
  unfold w_X5_takeWord_47 at hw
  refine X_iload_n 48 dX5_takeWord_47 rfl rfl ?_
  refine X_bipush 50 (v := 26) dX5_takeWord_48 rfl rfl ?_
  refine X_icmp_gt 87 53 dX5_takeWord_50 rfl rfl (fun c8 => ?_) (fun c8 => ?_)
  · have hw := hw.1 c8
    exact X_retV rfl dX5_takeWord_87 ⟨_, rfl, rfl, hw⟩
  · have hw := hw.2 c8
    refine X_aload_n 54 dX5_takeWord_53 rfl rfl ?_
    refine X_getI 57 f_X5_147 (hL.ob (c := 5) (by decide) rfl) rfl dX5_takeWord_54 rfl ?_
    refine X_aload_n 58 dX5_takeWord_57 rfl rfl ?_
    refine X_getI 61 f_X5_100 (hL.ob (c := 5) (by decide) rfl) rfl dX5_takeWord_58 rfl ?_
    refine X_isub 62 dX5_takeWord_61 rfl ?_
    refine X_bipush 64 (v := 8) dX5_takeWord_62 rfl rfl ?_
    refine X_icmp_gt 87 67 dX5_takeWord_64 rfl rfl (fun c9 => ?_) (fun c9 => ?_)
    · have hw := hw.1 c9
      exact X_retV rfl dX5_takeWord_87 ⟨_, rfl, rfl, hw⟩
    · have hw := hw.2 c9
      refine X_aload_n 68 dX5_takeWord_67 rfl rfl ?_
      refine X_iload_n 69 dX5_takeWord_68 rfl rfl ?_
      refine Y_cVZ 72 (as := [.int v1]) m_X5_170 (s_X5_isWord hL  hw) (hL.ob (c := 5) (by decide) rfl) rfl (by decide) (Nat.le_of_ble_eq_true rfl) dX5_takeWord_69 rfl rfl (fun x11 M10 bx11 hw => ?_)
      refine X_if_eq 81 75 (y := 0) dX5_takeWord_72 rfl rfl (fun c12 => ?_) (fun c12 => ?_)
      · have hw := hw.1 c12
        obtain ⟨x13, ex13⟩ : ∃ x13 : Int32, x13 = v1 + (1 : Int32) := ⟨_, rfl⟩
        have hw := hw x13 ex13
        refine X_iinc 84 (v := x13) (ls' := [.ref 71, .int x13]) dX5_takeWord_81 rfl rfl (by rw [ex13]; rfl) rfl (Or.inr (Or.inr ⟨_, rfl, rfl⟩)) ?_
        refine X_goto 47 dX5_takeWord_84 rfl ?_
        exact hK47 x13 M10 hw
      · have hw := hw.2 c12
        refine X_aload_n 76 dX5_takeWord_75 rfl rfl ?_
        refine X_iload_n 77 dX5_takeWord_76 rfl rfl ?_
        refine X_putI 80 f_X5_34 (Or.inl rfl) (hL.ob (c := 5) (by decide) rfl) rfl dX5_takeWord_77 rfl ?_
        refine X_nmM (fun M14 eM14 => ?_)
        have hw := hw M14 eM14
        exact X_retV rfl dX5_takeWord_80 ⟨_, rfl, rfl, hw⟩
def w_X5_takeWord_39 (L : Lay)    (M : Mem) (Q : Mem → Prop) : Prop := ∀ M7 : Mem, M7 = si M 71 3 (31 : Int32) → (LP2 (fun K47 v1 M => w_X5_takeWord_47 L   K47 v1 M Q) (0 : Int32) M7)
set_option maxRecDepth 20000 in
theorem t_X5_takeWord_39 {L : Lay} (hL : LY L)      {M : Mem} {Q : Mem → Prop} (hw : w_X5_takeWord_39 L    M Q)  : X (FM (QV L Q)) RX5 cX5_takeWord none 2 "takeWord" 6 0 0 (L, M) 39 [.ref 71, junk] [] := by
  unfold w_X5_takeWord_39 at hw
  refine X_aload_n 40 dX5_takeWord_39 rfl rfl ?_
  refine X_bipush 42 (v := 31) dX5_takeWord_40 rfl rfl ?_
  refine X_putI 45 f_X5_34 (Or.inl rfl) (hL.ob (c := 5) (by decide) rfl) rfl dX5_takeWord_42 rfl ?_
  refine X_nmM (fun M7 eM7 => ?_)
  have hw := hw M7 eM7
  refine X_iconst 46 (v := 0) dX5_takeWord_45 rfl rfl ?_
  refine X_istore_n 47 (ls' := [.ref 71, .int (0 : Int32)]) dX5_takeWord_46 rfl rfl (Nat.le_of_ble_eq_true rfl) rfl (Or.inr (Or.inr ⟨_, rfl, rfl⟩)) ?_
  exact LP2_s hw (G := fun v1 M => X (FM (QV L Q)) RX5 cX5_takeWord none 2 "takeWord" 6 0 0 (L, M) 47 [.ref 71, .int v1] []) (fun K47 v1 M hb hK => t_X5_takeWord_47 hL  hb  hK)
def w_X5_takeWord_0 (L : Lay)  (K0 : Mem → Prop)  (M : Mem) (Q : Mem → Prop) : Prop := (((mi M 71 6) < (mi M 71 1) → (vp_in (mi M 71 6) 1000 ∧ (w_X5_isLetter L (mi M 72 (tn (mi M 71 6))) M (fun x4 M3 => (((x4 = 0 → (w_X5_takeWord_39 L    M3 Q)) ∧ (¬ x4 = 0 → (∀ M6 : Mem, M6 = si M3 71 6 ((mi M3 71 6) + (1 : Int32)) → (K0  M6))))))))) ∧ (¬ (mi M 71 6) < (mi M 71 1) → (w_X5_takeWord_39 L    M Q)))
set_option maxRecDepth 20000 in
theorem t_X5_takeWord_0 {L : Lay} (hL : LY L)   {K0 : Mem → Prop}   {M : Mem} {Q : Mem → Prop} (hw : w_X5_takeWord_0 L  K0  M Q) (hK0 : ∀  (M : Mem), K0  M → X (FM (QV L Q)) RX5 cX5_takeWord none 2 "takeWord" 6 0 0 (L, M) 0 [.ref 71, junk] []) : X (FM (QV L Q)) RX5 cX5_takeWord none 2 "takeWord" 6 0 0 (L, M) 0 [.ref 71, junk] [] := by
  unfold w_X5_takeWord_0 at hw
  refine X_aload_n 1 dX5_takeWord_0 rfl rfl ?_
  refine X_getI 4 f_X5_147 (hL.ob (c := 5) (by decide) rfl) rfl dX5_takeWord_1 rfl ?_
  refine X_aload_n 5 dX5_takeWord_4 rfl rfl ?_
  refine X_getI 8 f_X5_24 (hL.ob (c := 5) (by decide) rfl) rfl dX5_takeWord_5 rfl ?_
  refine X_icmp_ge 39 11 dX5_takeWord_8 rfl rfl (fun c1 => ?_) (fun c1 => ?_)
  · have hw := hw.2 c1
    exact t_X5_takeWord_39 hL   hw 
  · have hw := hw.1 c1
    refine X_aload_n 12 dX5_takeWord_11 rfl rfl ?_
    refine X_getR 15 f_X5_9 (hL.ob (c := 5) (by decide) rfl) rfl (hL.rr (by decide) rfl) dX5_takeWord_12 rfl ?_
    refine X_aload_n 16 dX5_takeWord_15 rfl rfl ?_
    refine X_getI 19 f_X5_147 (hL.ob (c := 5) (by decide) rfl) rfl dX5_takeWord_16 rfl ?_
    obtain ⟨c2, hw⟩ := hw
    refine Y_cald 20 (k := (tn (mi M 71 6))) (hL.ar (t := 3) (n := 1000) (by decide) rfl) c2 rfl dX5_takeWord_19 rfl ?_
    refine Y_cSZ 23 (as := [.int ((mi M 72 (tn (mi M 71 6))))]) m_X5_150 (s_X5_isLetter hL  hw) rfl (by decide) (Nat.le_of_ble_eq_true rfl) dX5_takeWord_20 rfl rfl (fun x4 M3 bx4 hw => ?_)
    refine X_if_eq 39 26 (y := 0) dX5_takeWord_23 rfl rfl (fun c5 => ?_) (fun c5 => ?_)
    · have hw := hw.1 c5
      exact t_X5_takeWord_39 hL   hw 
    · have hw := hw.2 c5
      refine X_aload_n 27 dX5_takeWord_26 rfl rfl ?_
      refine X_dup 28 dX5_takeWord_27 rfl rfl ?_
      refine X_getI 31 f_X5_147 (hL.ob (c := 5) (by decide) rfl) rfl dX5_takeWord_28 rfl ?_
      refine X_iconst 32 (v := 1) dX5_takeWord_31 rfl rfl ?_
      refine X_iadd 33 dX5_takeWord_32 rfl ?_
      refine X_putI 36 f_X5_147 (Or.inl rfl) (hL.ob (c := 5) (by decide) rfl) rfl dX5_takeWord_33 rfl ?_
      refine X_nmM (fun M6 eM6 => ?_)
      have hw := hw M6 eM6
      refine X_goto 0 dX5_takeWord_36 rfl ?_
      exact hK0  M6 hw
def w_X5_takeWord (L : Lay)  (M : Mem) (Q : Mem → Prop) : Prop := LP1 (fun K0  M => w_X5_takeWord_0 L   K0  M Q)  M
set_option maxRecDepth 20000 in
theorem s_X5_takeWord {L : Lay} (hL : LY L)   {M : Mem} {Q : Mem → Prop} (hw : w_X5_takeWord L  M Q) : MX yX5_takeWord cX5_takeWord none 2 6 0 0 [.ref 71] (L, M) (QV L Q) := by
  unfold w_X5_takeWord at hw
  refine MX_of (by decide) [.ref 71, junk] (by rfl) (by exact Nat.le_of_ble_eq_true rfl) ?_
  show X (FM (QV L Q)) RX5 cX5_takeWord none 2 "takeWord" 6 0 0 (L, M) 0 [.ref 71, junk] []
  exact LP1_s hw (G := fun  M => X (FM (QV L Q)) RX5 cX5_takeWord none 2 "takeWord" 6 0 0 (L, M) 0 [.ref 71, junk] []) (fun K0  M hb hK => t_X5_takeWord_0 hL  hb  hK)
def w_X5_isDigit (L : Lay) (p0 : Int32) (M : Mem) (Q : Int32 → Mem → Prop) : Prop := ∀ x1 : Int32, x1 = (if p0 < (48 : Int32) then (0 : Int32) else (if (57 : Int32) < p0 then (0 : Int32) else (1 : Int32))) → (Q x1 M)
set_option maxRecDepth 20000 in
theorem s_X5_isDigit {L : Lay} (hL : LY L) {p0 : Int32}  {M : Mem} {Q : Int32 → Mem → Prop} (hw : w_X5_isDigit L p0 M Q) : MX yX5_isDigit cX5_isDigit (some .boolean) 1 1 0 0 [.int p0] (L, M) (QZ L Q) := by
  unfold w_X5_isDigit at hw
  refine MX_of (by decide) [.int p0] (by rfl) (by exact Nat.le_of_ble_eq_true rfl) ?_
  show X (FM (QZ L Q)) RX5 cX5_isDigit (some .boolean) 1 "isDigit" 1 0 0 (L, M) 0 [.int p0] []
  refine X_iload_n 1 dX5_isDigit_0 rfl rfl ?_
  refine X_bipush 3 (v := 48) dX5_isDigit_1 rfl rfl ?_
  obtain ⟨x1, ex1⟩ : ∃ x1 : Int32, x1 = (if p0 < (48 : Int32) then (0 : Int32) else (if (57 : Int32) < p0 then (0 : Int32) else (1 : Int32))) := ⟨_, rfl⟩
  have hw := hw x1 ex1
  have bx1 : BZ x1 := by rw [ex1]; (repeat' split) <;> first | exact Or.inl rfl | exact Or.inr rfl
  have hJ : X (FM (QZ L Q)) RX5 cX5_isDigit (some .boolean) 1 "isDigit" 1 0 0 (L, M) 17 [.int p0] [.int x1] := by
    exact X_ret rfl (nar_bool (bx1)) dX5_isDigit_17 ⟨_, _, rfl, bx1, rfl, hw⟩
  refine X_icmp_lt 16 6 dX5_isDigit_3 rfl rfl (fun c2 => ?_) (fun c2 => ?_)
  · refine X_iconst 17 (v := 0) dX5_isDigit_16 rfl rfl ?_
    rw [if_pos c2] at ex1
    rw [ex1] at hJ
    exact hJ
  · refine X_iload_n 7 dX5_isDigit_6 rfl rfl ?_
    refine X_bipush 9 (v := 57) dX5_isDigit_7 rfl rfl ?_
    refine X_icmp_gt 16 12 dX5_isDigit_9 rfl rfl (fun c3 => ?_) (fun c3 => ?_)
    · refine X_iconst 17 (v := 0) dX5_isDigit_16 rfl rfl ?_
      rw [if_neg c2, if_pos c3] at ex1
      rw [ex1] at hJ
      exact hJ
    · refine X_iconst 13 (v := 1) dX5_isDigit_12 rfl rfl ?_
      refine X_goto 17 dX5_isDigit_13 rfl ?_
      rw [if_neg c2, if_neg c3] at ex1
      rw [ex1] at hJ
      exact hJ
def w_X5_takeNumber_68 (L : Lay)    (M : Mem) (Q : Mem → Prop) : Prop := ∀ x10 : Int32, x10 = (if (4 : Int32) < ((mi M 71 6) - (mi M 71 5)) then (31 : Int32) else (30 : Int32)) → (∀ M11 : Mem, M11 = si M 71 3 x10 → (Q M11))
set_option maxRecDepth 20000 in
theorem t_X5_takeNumber_68 {L : Lay} (hL : LY L)      {M : Mem} {Q : Mem → Prop} (hw : w_X5_takeNumber_68 L    M Q)  : X (FM (QV L Q)) RX5 cX5_takeNumber none 1 "takeNumber" 2 0 0 (L, M) 68 [.ref 71] [] := by
  unfold w_X5_takeNumber_68 at hw
  refine X_aload_n 69 dX5_takeNumber_68 rfl rfl ?_
  refine X_aload_n 70 dX5_takeNumber_69 rfl rfl ?_
  refine X_getI 73 f_X5_147 (hL.ob (c := 5) (by decide) rfl) rfl dX5_takeNumber_70 rfl ?_
  refine X_aload_n 74 dX5_takeNumber_73 rfl rfl ?_
  refine X_getI 77 f_X5_100 (hL.ob (c := 5) (by decide) rfl) rfl dX5_takeNumber_74 rfl ?_
  refine X_isub 78 dX5_takeNumber_77 rfl ?_
  refine X_iconst 79 (v := 4) dX5_takeNumber_78 rfl rfl ?_
  obtain ⟨x10, ex10⟩ : ∃ x10 : Int32, x10 = (if (4 : Int32) < ((mi M 71 6) - (mi M 71 5)) then (31 : Int32) else (30 : Int32)) := ⟨_, rfl⟩
  have hw := hw x10 ex10
  have hJ : X (FM (QV L Q)) RX5 cX5_takeNumber none 1 "takeNumber" 2 0 0 (L, M) 89 [.ref 71] [.int x10, .ref 71] := by
    refine X_putI 92 f_X5_34 (Or.inl rfl) (hL.ob (c := 5) (by decide) rfl) rfl dX5_takeNumber_89 rfl ?_
    refine X_nmM (fun M11 eM11 => ?_)
    have hw := hw M11 eM11
    exact X_retV rfl dX5_takeNumber_92 ⟨_, rfl, rfl, hw⟩
  refine X_icmp_le 87 82 dX5_takeNumber_79 rfl rfl (fun c12 => ?_) (fun c12 => ?_)
  · refine X_bipush 89 (v := 30) dX5_takeNumber_87 rfl rfl ?_
    rw [if_neg c12] at ex10
    rw [ex10] at hJ
    exact hJ
  · refine X_bipush 84 (v := 31) dX5_takeNumber_82 rfl rfl ?_
    refine X_goto 89 dX5_takeNumber_84 rfl ?_
    rw [if_pos c12] at ex10
    rw [ex10] at hJ
    exact hJ
def w_X5_takeNumber_5 (L : Lay)  (K5 : Mem → Prop)  (M : Mem) (Q : Mem → Prop) : Prop := (((mi M 71 6) < (mi M 71 1) → (vp_in (mi M 71 6) 1000 ∧ (w_X5_isDigit L (mi M 72 (tn (mi M 71 6))) M (fun x5 M4 => (((x5 = 0 → (w_X5_takeNumber_68 L    M4 Q)) ∧ (¬ x5 = 0 → (vp_in (mi M4 71 6) 1000 ∧ (∀ M8 : Mem, M8 = si M4 71 4 (((mi M4 71 4) * (10 : Int32)) + ((mi M4 72 (tn (mi M4 71 6))) - (48 : Int32))) → (∀ M9 : Mem, M9 = si M8 71 6 ((mi M8 71 6) + (1 : Int32)) → (K5  M9))))))))))) ∧ (¬ (mi M 71 6) < (mi M 71 1) → (w_X5_takeNumber_68 L    M Q)))
set_option maxRecDepth 20000 in
theorem t_X5_takeNumber_5 {L : Lay} (hL : LY L)   {K5 : Mem → Prop}   {M : Mem} {Q : Mem → Prop} (hw : w_X5_takeNumber_5 L  K5  M Q) (hK5 : ∀  (M : Mem), K5  M → X (FM (QV L Q)) RX5 cX5_takeNumber none 1 "takeNumber" 2 0 0 (L, M) 5 [.ref 71] []) : X (FM (QV L Q)) RX5 cX5_takeNumber none 1 "takeNumber" 2 0 0 (L, M) 5 [.ref 71] [] := by
  unfold w_X5_takeNumber_5 at hw
  refine X_aload_n 6 dX5_takeNumber_5 rfl rfl ?_
  refine X_getI 9 f_X5_147 (hL.ob (c := 5) (by decide) rfl) rfl dX5_takeNumber_6 rfl ?_
  refine X_aload_n 10 dX5_takeNumber_9 rfl rfl ?_
  refine X_getI 13 f_X5_24 (hL.ob (c := 5) (by decide) rfl) rfl dX5_takeNumber_10 rfl ?_
  refine X_icmp_ge 68 16 dX5_takeNumber_13 rfl rfl (fun c2 => ?_) (fun c2 => ?_)
  · have hw := hw.2 c2
    exact t_X5_takeNumber_68 hL   hw 
  · have hw := hw.1 c2
    refine X_aload_n 17 dX5_takeNumber_16 rfl rfl ?_
    refine X_getR 20 f_X5_9 (hL.ob (c := 5) (by decide) rfl) rfl (hL.rr (by decide) rfl) dX5_takeNumber_17 rfl ?_
    refine X_aload_n 21 dX5_takeNumber_20 rfl rfl ?_
    refine X_getI 24 f_X5_147 (hL.ob (c := 5) (by decide) rfl) rfl dX5_takeNumber_21 rfl ?_
    obtain ⟨c3, hw⟩ := hw
    refine Y_cald 25 (k := (tn (mi M 71 6))) (hL.ar (t := 3) (n := 1000) (by decide) rfl) c3 rfl dX5_takeNumber_24 rfl ?_
    refine Y_cSZ 28 (as := [.int ((mi M 72 (tn (mi M 71 6))))]) m_X5_157 (s_X5_isDigit hL  hw) rfl (by decide) (Nat.le_of_ble_eq_true rfl) dX5_takeNumber_25 rfl rfl (fun x5 M4 bx5 hw => ?_)
    refine X_if_eq 68 31 (y := 0) dX5_takeNumber_28 rfl rfl (fun c6 => ?_) (fun c6 => ?_)
    · have hw := hw.1 c6
      exact t_X5_takeNumber_68 hL   hw 
    · have hw := hw.2 c6
      refine X_aload_n 32 dX5_takeNumber_31 rfl rfl ?_
      refine X_aload_n 33 dX5_takeNumber_32 rfl rfl ?_
      refine X_getI 36 f_X5_97 (hL.ob (c := 5) (by decide) rfl) rfl dX5_takeNumber_33 rfl ?_
      refine X_bipush 38 (v := 10) dX5_takeNumber_36 rfl rfl ?_
      refine X_imul 39 dX5_takeNumber_38 rfl ?_
      refine X_aload_n 40 dX5_takeNumber_39 rfl rfl ?_
      refine X_getR 43 f_X5_9 (hL.ob (c := 5) (by decide) rfl) rfl (hL.rr (by decide) rfl) dX5_takeNumber_40 rfl ?_
      refine X_aload_n 44 dX5_takeNumber_43 rfl rfl ?_
      refine X_getI 47 f_X5_147 (hL.ob (c := 5) (by decide) rfl) rfl dX5_takeNumber_44 rfl ?_
      obtain ⟨c7, hw⟩ := hw
      refine Y_cald 48 (k := (tn (mi M4 71 6))) (hL.ar (t := 3) (n := 1000) (by decide) rfl) c7 rfl dX5_takeNumber_47 rfl ?_
      refine X_bipush 50 (v := 48) dX5_takeNumber_48 rfl rfl ?_
      refine X_isub 51 dX5_takeNumber_50 rfl ?_
      refine X_iadd 52 dX5_takeNumber_51 rfl ?_
      refine X_putI 55 f_X5_97 (Or.inl rfl) (hL.ob (c := 5) (by decide) rfl) rfl dX5_takeNumber_52 rfl ?_
      refine X_nmM (fun M8 eM8 => ?_)
      have hw := hw M8 eM8
      refine X_aload_n 56 dX5_takeNumber_55 rfl rfl ?_
      refine X_dup 57 dX5_takeNumber_56 rfl rfl ?_
      refine X_getI 60 f_X5_147 (hL.ob (c := 5) (by decide) rfl) rfl dX5_takeNumber_57 rfl ?_
      refine X_iconst 61 (v := 1) dX5_takeNumber_60 rfl rfl ?_
      refine X_iadd 62 dX5_takeNumber_61 rfl ?_
      refine X_putI 65 f_X5_147 (Or.inl rfl) (hL.ob (c := 5) (by decide) rfl) rfl dX5_takeNumber_62 rfl ?_
      refine X_nmM (fun M9 eM9 => ?_)
      have hw := hw M9 eM9
      refine X_goto 5 dX5_takeNumber_65 rfl ?_
      exact hK5  M9 hw
def w_X5_takeNumber (L : Lay)  (M : Mem) (Q : Mem → Prop) : Prop := ∀ M1 : Mem, M1 = si M 71 4 (0 : Int32) → (LP1 (fun K5  M => w_X5_takeNumber_5 L   K5  M Q)  M1)
set_option maxRecDepth 20000 in
theorem s_X5_takeNumber {L : Lay} (hL : LY L)   {M : Mem} {Q : Mem → Prop} (hw : w_X5_takeNumber L  M Q) : MX yX5_takeNumber cX5_takeNumber none 1 2 0 0 [.ref 71] (L, M) (QV L Q) := by
  unfold w_X5_takeNumber at hw
  refine MX_of (by decide) [.ref 71] (by rfl) (by exact Nat.le_of_ble_eq_true rfl) ?_
  show X (FM (QV L Q)) RX5 cX5_takeNumber none 1 "takeNumber" 2 0 0 (L, M) 0 [.ref 71] []
  refine X_aload_n 1 dX5_takeNumber_0 rfl rfl ?_
  refine X_iconst 2 (v := 0) dX5_takeNumber_1 rfl rfl ?_
  refine X_putI 5 f_X5_97 (Or.inl rfl) (hL.ob (c := 5) (by decide) rfl) rfl dX5_takeNumber_2 rfl ?_
  refine X_nmM (fun M1 eM1 => ?_)
  have hw := hw M1 eM1
  exact LP1_s hw (G := fun  M => X (FM (QV L Q)) RX5 cX5_takeNumber none 1 "takeNumber" 2 0 0 (L, M) 5 [.ref 71] []) (fun K5  M hb hK => t_X5_takeNumber_5 hL  hb  hK)
def w_X5_next_39 (L : Lay)  (K0 : Mem → Prop)  (M : Mem) (Q : Mem → Prop) : Prop := ∀ M23 : Mem, M23 = si M 71 6 ((mi M 71 6) + (1 : Int32)) → (K0  M23)
set_option maxRecDepth 20000 in
theorem t_X5_next_39 {L : Lay} (hL : LY L)   {K0 : Mem → Prop}   {M : Mem} {Q : Mem → Prop} (hw : w_X5_next_39 L  K0  M Q) (hK0 : ∀  (M : Mem), K0  M → X (FM (QV L Q)) RX5 cX5_next none 1 "next" 7 0 0 (L, M) 0 [.ref 71] []) : X (FM (QV L Q)) RX5 cX5_next none 1 "next" 7 0 0 (L, M) 39 [.ref 71] [] := by
  unfold w_X5_next_39 at hw
  refine X_aload_n 40 dX5_next_39 rfl rfl ?_
  refine X_dup 41 dX5_next_40 rfl rfl ?_
  refine X_getI 44 f_X5_147 (hL.ob (c := 5) (by decide) rfl) rfl dX5_next_41 rfl ?_
  refine X_iconst 45 (v := 1) dX5_next_44 rfl rfl ?_
  refine X_iadd 46 dX5_next_45 rfl ?_
  refine X_putI 49 f_X5_147 (Or.inl rfl) (hL.ob (c := 5) (by decide) rfl) rfl dX5_next_46 rfl ?_
  refine X_nmM (fun M23 eM23 => ?_)
  have hw := hw M23 eM23
  refine X_goto 0 dX5_next_49 rfl ?_
  exact hK0  M23 hw
def w_X5_next_52 (L : Lay)    (M : Mem) (Q : Mem → Prop) : Prop := ∀ M5 : Mem, M5 = si M 71 5 (mi M 71 6) → ((((mi M5 71 5) < (mi M5 71 1) → (vp_in (mi M5 71 5) 1000 ∧ (w_X5_isLetter L (mi M5 72 (tn (mi M5 71 5))) M5 (fun x9 M8 => (((x9 = 0 → (vp_in (mi M8 71 5) 1000 ∧ (w_X5_isDigit L (mi M8 72 (tn (mi M8 71 5))) M8 (fun x13 M12 => (((x13 = 0 → (∀ M15 : Mem, M15 = si M12 71 6 ((mi M12 71 6) + (1 : Int32)) → (vp_in (mi M15 71 5) 1000 ∧ ((((jsign (mi M15 72 (tn (mi M15 71 5)))) < 0 → (∀ M18 : Mem, M18 = si M15 71 3 (31 : Int32) → (Q M18))) ∧ (¬ (jsign (mi M15 72 (tn (mi M15 71 5)))) < 0 → (∀ M19 : Mem, M19 = si M15 71 3 (mi M15 72 (tn (mi M15 71 5))) → (Q M19)))))))) ∧ (¬ x13 = 0 → (w_X5_takeNumber L  M12 (fun M20 => (Q M20)))))))))) ∧ (¬ x9 = 0 → (w_X5_takeWord L  M8 (fun M21 => (Q M21)))))))))) ∧ (¬ (mi M5 71 5) < (mi M5 71 1) → (∀ M22 : Mem, M22 = si M5 71 3 (32 : Int32) → (Q M22)))))
set_option maxRecDepth 20000 in
theorem t_X5_next_52 {L : Lay} (hL : LY L)      {M : Mem} {Q : Mem → Prop} (hw : w_X5_next_52 L    M Q)  : X (FM (QV L Q)) RX5 cX5_next none 1 "next" 7 0 0 (L, M) 52 [.ref 71] [] := by
  unfold w_X5_next_52 at hw
  refine X_aload_n 53 dX5_next_52 rfl rfl ?_
  refine X_aload_n 54 dX5_next_53 rfl rfl ?_
  refine X_getI 57 f_X5_147 (hL.ob (c := 5) (by decide) rfl) rfl dX5_next_54 rfl ?_
  refine X_putI 60 f_X5_100 (Or.inl rfl) (hL.ob (c := 5) (by decide) rfl) rfl dX5_next_57 rfl ?_
  refine X_nmM (fun M5 eM5 => ?_)
  have hw := hw M5 eM5
  refine X_aload_n 61 dX5_next_60 rfl rfl ?_
  refine X_getI 64 f_X5_100 (hL.ob (c := 5) (by decide) rfl) rfl dX5_next_61 rfl ?_
  refine X_aload_n 65 dX5_next_64 rfl rfl ?_
  refine X_getI 68 f_X5_24 (hL.ob (c := 5) (by decide) rfl) rfl dX5_next_65 rfl ?_
  refine X_icmp_lt 80 71 dX5_next_68 rfl rfl (fun c6 => ?_) (fun c6 => ?_)
  · have hw := hw.1 c6
    refine X_aload_n 81 dX5_next_80 rfl rfl ?_
    refine X_getR 84 f_X5_9 (hL.ob (c := 5) (by decide) rfl) rfl (hL.rr (by decide) rfl) dX5_next_81 rfl ?_
    refine X_aload_n 85 dX5_next_84 rfl rfl ?_
    refine X_getI 88 f_X5_100 (hL.ob (c := 5) (by decide) rfl) rfl dX5_next_85 rfl ?_
    obtain ⟨c7, hw⟩ := hw
    refine Y_cald 89 (k := (tn (mi M5 71 5))) (hL.ar (t := 3) (n := 1000) (by decide) rfl) c7 rfl dX5_next_88 rfl ?_
    refine Y_cSZ 92 (as := [.int ((mi M5 72 (tn (mi M5 71 5))))]) m_X5_150 (s_X5_isLetter hL  hw) rfl (by decide) (Nat.le_of_ble_eq_true rfl) dX5_next_89 rfl rfl (fun x9 M8 bx9 hw => ?_)
    refine X_if_eq 102 95 (y := 0) dX5_next_92 rfl rfl (fun c10 => ?_) (fun c10 => ?_)
    · have hw := hw.1 c10
      refine X_aload_n 103 dX5_next_102 rfl rfl ?_
      refine X_getR 106 f_X5_9 (hL.ob (c := 5) (by decide) rfl) rfl (hL.rr (by decide) rfl) dX5_next_103 rfl ?_
      refine X_aload_n 107 dX5_next_106 rfl rfl ?_
      refine X_getI 110 f_X5_100 (hL.ob (c := 5) (by decide) rfl) rfl dX5_next_107 rfl ?_
      obtain ⟨c11, hw⟩ := hw
      refine Y_cald 111 (k := (tn (mi M8 71 5))) (hL.ar (t := 3) (n := 1000) (by decide) rfl) c11 rfl dX5_next_110 rfl ?_
      refine Y_cSZ 114 (as := [.int ((mi M8 72 (tn (mi M8 71 5))))]) m_X5_157 (s_X5_isDigit hL  hw) rfl (by decide) (Nat.le_of_ble_eq_true rfl) dX5_next_111 rfl rfl (fun x13 M12 bx13 hw => ?_)
      refine X_if_eq 124 117 (y := 0) dX5_next_114 rfl rfl (fun c14 => ?_) (fun c14 => ?_)
      · have hw := hw.1 c14
        refine X_aload_n 125 dX5_next_124 rfl rfl ?_
        refine X_dup 126 dX5_next_125 rfl rfl ?_
        refine X_getI 129 f_X5_147 (hL.ob (c := 5) (by decide) rfl) rfl dX5_next_126 rfl ?_
        refine X_iconst 130 (v := 1) dX5_next_129 rfl rfl ?_
        refine X_iadd 131 dX5_next_130 rfl ?_
        refine X_putI 134 f_X5_147 (Or.inl rfl) (hL.ob (c := 5) (by decide) rfl) rfl dX5_next_131 rfl ?_
        refine X_nmM (fun M15 eM15 => ?_)
        have hw := hw M15 eM15
        refine X_aload_n 135 dX5_next_134 rfl rfl ?_
        refine X_ldcT 137 (i := 1) dX5_next_135 rfl (by decide) (by decide) ?_
        refine X_aload_n 138 dX5_next_137 rfl rfl ?_
        refine X_getR 141 f_X5_9 (hL.ob (c := 5) (by decide) rfl) rfl (hL.rr (by decide) rfl) dX5_next_138 rfl ?_
        refine X_aload_n 142 dX5_next_141 rfl rfl ?_
        refine X_getI 145 f_X5_100 (hL.ob (c := 5) (by decide) rfl) rfl dX5_next_142 rfl ?_
        obtain ⟨c16, hw⟩ := hw
        refine Y_cald 146 (k := (tn (mi M15 71 5))) (hL.ar (t := 3) (n := 1000) (by decide) rfl) c16 rfl dX5_next_145 rfl ?_
        refine Y_indexOf 149 (by decide) (Nat.le_of_ble_eq_true rfl) dX5_next_146 rfl ?_
        refine X_if_lt 164 152 (y := 0) dX5_next_149 rfl rfl (fun c17 => ?_) (fun c17 => ?_)
        · have hw := hw.1 c17
          refine X_bipush 166 (v := 31) dX5_next_164 rfl rfl ?_
          refine X_putI 169 f_X5_34 (Or.inl rfl) (hL.ob (c := 5) (by decide) rfl) rfl dX5_next_166 rfl ?_
          refine X_nmM (fun M18 eM18 => ?_)
          have hw := hw M18 eM18
          exact X_retV rfl dX5_next_169 ⟨_, rfl, rfl, hw⟩
        · have hw := hw.2 c17
          refine X_aload_n 153 dX5_next_152 rfl rfl ?_
          refine X_getR 156 f_X5_9 (hL.ob (c := 5) (by decide) rfl) rfl (hL.rr (by decide) rfl) dX5_next_153 rfl ?_
          refine X_aload_n 157 dX5_next_156 rfl rfl ?_
          refine X_getI 160 f_X5_100 (hL.ob (c := 5) (by decide) rfl) rfl dX5_next_157 rfl ?_
          refine Y_cald 161 (k := (tn (mi M15 71 5))) (hL.ar (t := 3) (n := 1000) (by decide) rfl) c16 rfl dX5_next_160 rfl ?_
          refine X_goto 166 dX5_next_161 rfl ?_
          refine X_putI 169 f_X5_34 (Or.inl rfl) (hL.ob (c := 5) (by decide) rfl) rfl dX5_next_166 rfl ?_
          refine X_nmM (fun M19 eM19 => ?_)
          have hw := hw M19 eM19
          exact X_retV rfl dX5_next_169 ⟨_, rfl, rfl, hw⟩
      · have hw := hw.2 c14
        refine X_aload_n 118 dX5_next_117 rfl rfl ?_
        refine Y_cVV 121 (as := []) m_X5_160 (s_X5_takeNumber hL  hw) (hL.ob (c := 5) (by decide) rfl) rfl (by decide) (Nat.le_of_ble_eq_true rfl) dX5_next_118 rfl rfl (fun M20 hw => ?_)
        refine X_goto 169 dX5_next_121 rfl ?_
        exact X_retV rfl dX5_next_169 ⟨_, rfl, rfl, hw⟩
    · have hw := hw.2 c10
      refine X_aload_n 96 dX5_next_95 rfl rfl ?_
      refine Y_cVV 99 (as := []) m_X5_154 (s_X5_takeWord hL  hw) (hL.ob (c := 5) (by decide) rfl) rfl (by decide) (Nat.le_of_ble_eq_true rfl) dX5_next_96 rfl rfl (fun M21 hw => ?_)
      refine X_goto 169 dX5_next_99 rfl ?_
      exact X_retV rfl dX5_next_169 ⟨_, rfl, rfl, hw⟩
  · have hw := hw.2 c6
    refine X_aload_n 72 dX5_next_71 rfl rfl ?_
    refine X_bipush 74 (v := 32) dX5_next_72 rfl rfl ?_
    refine X_putI 77 f_X5_34 (Or.inl rfl) (hL.ob (c := 5) (by decide) rfl) rfl dX5_next_74 rfl ?_
    refine X_nmM (fun M22 eM22 => ?_)
    have hw := hw M22 eM22
    refine X_goto 169 dX5_next_77 rfl ?_
    exact X_retV rfl dX5_next_169 ⟨_, rfl, rfl, hw⟩
def w_X5_next_0 (L : Lay)  (K0 : Mem → Prop)  (M : Mem) (Q : Mem → Prop) : Prop := (((mi M 71 6) < (mi M 71 1) → (vp_in (mi M 71 6) 1000 ∧ ((((mi M 72 (tn (mi M 71 6))) = (10 : Int32) → (w_X5_next_39 L  K0  M Q)) ∧ (¬ (mi M 72 (tn (mi M 71 6))) = (10 : Int32) → ((((mi M 72 (tn (mi M 71 6))) = (32 : Int32) → (w_X5_next_39 L  K0  M Q)) ∧ (¬ (mi M 72 (tn (mi M 71 6))) = (32 : Int32) → (w_X5_next_52 L    M Q))))))))) ∧ (¬ (mi M 71 6) < (mi M 71 1) → (w_X5_next_52 L    M Q)))
set_option maxRecDepth 20000 in
theorem t_X5_next_0 {L : Lay} (hL : LY L)   {K0 : Mem → Prop}   {M : Mem} {Q : Mem → Prop} (hw : w_X5_next_0 L  K0  M Q) (hK0 : ∀  (M : Mem), K0  M → X (FM (QV L Q)) RX5 cX5_next none 1 "next" 7 0 0 (L, M) 0 [.ref 71] []) : X (FM (QV L Q)) RX5 cX5_next none 1 "next" 7 0 0 (L, M) 0 [.ref 71] [] := by
  unfold w_X5_next_0 at hw
  refine X_aload_n 1 dX5_next_0 rfl rfl ?_
  refine X_getI 4 f_X5_147 (hL.ob (c := 5) (by decide) rfl) rfl dX5_next_1 rfl ?_
  refine X_aload_n 5 dX5_next_4 rfl rfl ?_
  refine X_getI 8 f_X5_24 (hL.ob (c := 5) (by decide) rfl) rfl dX5_next_5 rfl ?_
  refine X_icmp_ge 52 11 dX5_next_8 rfl rfl (fun c1 => ?_) (fun c1 => ?_)
  · have hw := hw.2 c1
    exact t_X5_next_52 hL   hw 
  · have hw := hw.1 c1
    refine X_aload_n 12 dX5_next_11 rfl rfl ?_
    refine X_getR 15 f_X5_9 (hL.ob (c := 5) (by decide) rfl) rfl (hL.rr (by decide) rfl) dX5_next_12 rfl ?_
    refine X_aload_n 16 dX5_next_15 rfl rfl ?_
    refine X_getI 19 f_X5_147 (hL.ob (c := 5) (by decide) rfl) rfl dX5_next_16 rfl ?_
    obtain ⟨c2, hw⟩ := hw
    refine Y_cald 20 (k := (tn (mi M 71 6))) (hL.ar (t := 3) (n := 1000) (by decide) rfl) c2 rfl dX5_next_19 rfl ?_
    refine X_bipush 22 (v := 10) dX5_next_20 rfl rfl ?_
    refine X_icmp_eq 39 25 dX5_next_22 rfl rfl (fun c3 => ?_) (fun c3 => ?_)
    · have hw := hw.1 c3
      exact t_X5_next_39 hL   hw hK0
    · have hw := hw.2 c3
      refine X_aload_n 26 dX5_next_25 rfl rfl ?_
      refine X_getR 29 f_X5_9 (hL.ob (c := 5) (by decide) rfl) rfl (hL.rr (by decide) rfl) dX5_next_26 rfl ?_
      refine X_aload_n 30 dX5_next_29 rfl rfl ?_
      refine X_getI 33 f_X5_147 (hL.ob (c := 5) (by decide) rfl) rfl dX5_next_30 rfl ?_
      refine Y_cald 34 (k := (tn (mi M 71 6))) (hL.ar (t := 3) (n := 1000) (by decide) rfl) c2 rfl dX5_next_33 rfl ?_
      refine X_bipush 36 (v := 32) dX5_next_34 rfl rfl ?_
      refine X_icmp_ne 52 39 dX5_next_36 rfl rfl (fun c4 => ?_) (fun c4 => ?_)
      · have hw := hw.2 c4
        exact t_X5_next_52 hL   hw 
      · have hw := hw.1 c4
        exact t_X5_next_39 hL   hw hK0
def w_X5_next (L : Lay)  (M : Mem) (Q : Mem → Prop) : Prop := LP1 (fun K0  M => w_X5_next_0 L   K0  M Q)  M
set_option maxRecDepth 20000 in
theorem s_X5_next {L : Lay} (hL : LY L)   {M : Mem} {Q : Mem → Prop} (hw : w_X5_next L  M Q) : MX yX5_next cX5_next none 1 7 0 0 [.ref 71] (L, M) (QV L Q) := by
  unfold w_X5_next at hw
  refine MX_of (by decide) [.ref 71] (by rfl) (by exact Nat.le_of_ble_eq_true rfl) ?_
  show X (FM (QV L Q)) RX5 cX5_next none 1 "next" 7 0 0 (L, M) 0 [.ref 71] []
  exact LP1_s hw (G := fun  M => X (FM (QV L Q)) RX5 cX5_next none 1 "next" 7 0 0 (L, M) 0 [.ref 71] []) (fun K0  M hb hK => t_X5_next_0 hL  hb  hK)
def w_X5_readVoidKind_32 (L : Lay) (p0 : Int32)   (M : Mem) (Q : Int32 → Mem → Prop) : Prop := ∀ x5 : Int32, x5 = (jshl (1 : Int32) (mi M 71 3)) → (w_X5_next L  M (fun M6 => (Q x5 M6)))
set_option maxRecDepth 20000 in
theorem t_X5_readVoidKind_32 {L : Lay} (hL : LY L) {p0 : Int32}     {M : Mem} {Q : Int32 → Mem → Prop} (hw : w_X5_readVoidKind_32 L p0   M Q)  : X (FM (QI L Q)) RX5 cX5_readVoidKind (some .int) 3 "readVoidKind" 8 0 0 (L, M) 32 [.ref 71, junk, junk] [] := by
  unfold w_X5_readVoidKind_32 at hw
  refine X_iconst 33 (v := 1) dX5_readVoidKind_32 rfl rfl ?_
  refine X_aload_n 34 dX5_readVoidKind_33 rfl rfl ?_
  refine X_getI 37 f_X5_34 (hL.ob (c := 5) (by decide) rfl) rfl dX5_readVoidKind_34 rfl ?_
  refine Y_ishl 38 dX5_readVoidKind_37 rfl ?_
  refine X_nmI (fun x5 ex5 => ?_)
  have hw := hw x5 ex5
  refine X_istore_n 39 (ls' := [.ref 71, junk, .int x5]) dX5_readVoidKind_38 rfl rfl (Nat.le_of_ble_eq_true rfl) rfl (Or.inr (Or.inl rfl)) ?_
  refine X_aload_n 40 dX5_readVoidKind_39 rfl rfl ?_
  refine Y_cVV 43 (as := []) m_X5_55 (s_X5_next hL  hw) (hL.ob (c := 5) (by decide) rfl) rfl (by decide) (Nat.le_of_ble_eq_true rfl) dX5_readVoidKind_40 rfl rfl (fun M6 hw => ?_)
  refine X_iload_n 44 dX5_readVoidKind_43 rfl rfl ?_
  exact X_ret rfl rfl dX5_readVoidKind_44 ⟨_, _, rfl, rfl, hw⟩
def w_X5_readVoidKind (L : Lay) (p0 : Int32) (M : Mem) (Q : Int32 → Mem → Prop) : Prop := (((5 : Int32) < (mi M 71 3) → (w_X5_refuse L (1 : Int32) M (fun M4 => (Q (0 : Int32) M4)))) ∧ (¬ (5 : Int32) < (mi M 71 3) → (((((jshr p0 (mi M 71 3)) &&& (1 : Int32)) = (1 : Int32) → (w_X5_refuse L (3 : Int32) M (fun M3 => (w_X5_readVoidKind_32 L p0   M3 Q)))) ∧ (¬ ((jshr p0 (mi M 71 3)) &&& (1 : Int32)) = (1 : Int32) → (w_X5_readVoidKind_32 L p0   M Q))))))
set_option maxRecDepth 20000 in
theorem s_X5_readVoidKind {L : Lay} (hL : LY L) {p0 : Int32}  {M : Mem} {Q : Int32 → Mem → Prop} (hw : w_X5_readVoidKind L p0 M Q) : MX yX5_readVoidKind cX5_readVoidKind (some .int) 3 8 0 0 [.ref 71, .int p0] (L, M) (QI L Q) := by
  unfold w_X5_readVoidKind at hw
  refine MX_of (by decide) [.ref 71, .int p0, junk] (by rfl) (by exact Nat.le_of_ble_eq_true rfl) ?_
  show X (FM (QI L Q)) RX5 cX5_readVoidKind (some .int) 3 "readVoidKind" 8 0 0 (L, M) 0 [.ref 71, .int p0, junk] []
  refine X_aload_n 1 dX5_readVoidKind_0 rfl rfl ?_
  refine X_getI 4 f_X5_34 (hL.ob (c := 5) (by decide) rfl) rfl dX5_readVoidKind_1 rfl ?_
  refine X_iconst 5 (v := 5) dX5_readVoidKind_4 rfl rfl ?_
  refine X_icmp_le 15 8 dX5_readVoidKind_5 rfl rfl (fun c1 => ?_) (fun c1 => ?_)
  · have hw := hw.2 c1
    refine X_iload_n 16 dX5_readVoidKind_15 rfl rfl ?_
    refine X_aload_n 17 dX5_readVoidKind_16 rfl rfl ?_
    refine X_getI 20 f_X5_34 (hL.ob (c := 5) (by decide) rfl) rfl dX5_readVoidKind_17 rfl ?_
    refine Y_ishr 21 dX5_readVoidKind_20 rfl ?_
    refine X_iconst 22 (v := 1) dX5_readVoidKind_21 rfl rfl ?_
    refine X_iand 23 dX5_readVoidKind_22 rfl ?_
    refine X_iconst 24 (v := 1) dX5_readVoidKind_23 rfl rfl ?_
    refine X_icmp_ne 32 27 dX5_readVoidKind_24 rfl rfl (fun c2 => ?_) (fun c2 => ?_)
    · have hw := hw.2 c2
      refine X_weak (ls' := [.ref 71, junk, junk]) (WK.s (WK.j (WK.s WK.n))) (Nat.le_of_ble_eq_true rfl) ?_
      exact t_X5_readVoidKind_32 hL   hw 
    · have hw := hw.1 c2
      refine X_aload_n 28 dX5_readVoidKind_27 rfl rfl ?_
      refine X_iconst 29 (v := 3) dX5_readVoidKind_28 rfl rfl ?_
      refine Y_cVV 32 (as := [.int (3 : Int32)]) m_X5_44 (s_X5_refuse hL  hw) (hL.ob (c := 5) (by decide) rfl) rfl (by decide) (Nat.le_of_ble_eq_true rfl) dX5_readVoidKind_29 rfl rfl (fun M3 hw => ?_)
      refine X_weak (ls' := [.ref 71, junk, junk]) (WK.s (WK.j (WK.s WK.n))) (Nat.le_of_ble_eq_true rfl) ?_
      exact t_X5_readVoidKind_32 hL   hw 
  · have hw := hw.1 c1
    refine X_aload_n 9 dX5_readVoidKind_8 rfl rfl ?_
    refine X_iconst 10 (v := 1) dX5_readVoidKind_9 rfl rfl ?_
    refine Y_cVV 13 (as := [.int (1 : Int32)]) m_X5_44 (s_X5_refuse hL  hw) (hL.ob (c := 5) (by decide) rfl) rfl (by decide) (Nat.le_of_ble_eq_true rfl) dX5_readVoidKind_10 rfl rfl (fun M4 hw => ?_)
    refine X_iconst 14 (v := 0) dX5_readVoidKind_13 rfl rfl ?_
    exact X_ret rfl rfl dX5_readVoidKind_14 ⟨_, _, rfl, rfl, hw⟩
def w_X5_readNumber_32 (L : Lay) (p0 : Int32)  (v2 : Int32) (M : Mem) (Q : Int32 → Mem → Prop) : Prop := w_X5_next L  M (fun M6 => (Q v2 M6))
set_option maxRecDepth 20000 in
theorem t_X5_readNumber_32 {L : Lay} (hL : LY L) {p0 : Int32}   {v2 : Int32}  {M : Mem} {Q : Int32 → Mem → Prop} (hw : w_X5_readNumber_32 L p0  v2 M Q)  : X (FM (QI L Q)) RX5 cX5_readNumber (some .int) 3 "readNumber" 8 0 0 (L, M) 32 [.ref 71, junk, .int v2] [] := by
  unfold w_X5_readNumber_32 at hw
  refine X_aload_n 33 dX5_readNumber_32 rfl rfl ?_
  refine Y_cVV 36 (as := []) m_X5_55 (s_X5_next hL  hw) (hL.ob (c := 5) (by decide) rfl) rfl (by decide) (Nat.le_of_ble_eq_true rfl) dX5_readNumber_33 rfl rfl (fun M6 hw => ?_)
  refine X_iload_n 37 dX5_readNumber_36 rfl rfl ?_
  exact X_ret rfl rfl dX5_readNumber_37 ⟨_, _, rfl, rfl, hw⟩
def w_X5_readNumber (L : Lay) (p0 : Int32) (M : Mem) (Q : Int32 → Mem → Prop) : Prop := ∀ x1 : Int32, x1 = (mi M 71 4) → ((((mi M 71 3) = (30 : Int32) → (((p0 < x1 → (w_X5_refuse L (4 : Int32) M (fun M4 => (w_X5_readNumber_32 L p0  x1 M4 Q)))) ∧ (¬ p0 < x1 → (w_X5_readNumber_32 L p0  x1 M Q))))) ∧ (¬ (mi M 71 3) = (30 : Int32) → (w_X5_refuse L (1 : Int32) M (fun M5 => (w_X5_readNumber_32 L p0  x1 M5 Q))))))
set_option maxRecDepth 20000 in
theorem s_X5_readNumber {L : Lay} (hL : LY L) {p0 : Int32}  {M : Mem} {Q : Int32 → Mem → Prop} (hw : w_X5_readNumber L p0 M Q) : MX yX5_readNumber cX5_readNumber (some .int) 3 8 0 0 [.ref 71, .int p0] (L, M) (QI L Q) := by
  unfold w_X5_readNumber at hw
  refine MX_of (by decide) [.ref 71, .int p0, junk] (by rfl) (by exact Nat.le_of_ble_eq_true rfl) ?_
  show X (FM (QI L Q)) RX5 cX5_readNumber (some .int) 3 "readNumber" 8 0 0 (L, M) 0 [.ref 71, .int p0, junk] []
  refine X_aload_n 1 dX5_readNumber_0 rfl rfl ?_
  refine X_getI 4 f_X5_97 (hL.ob (c := 5) (by decide) rfl) rfl dX5_readNumber_1 rfl ?_
  refine X_nmI (fun x1 ex1 => ?_)
  have hw := hw x1 ex1
  refine X_istore_n 5 (ls' := [.ref 71, .int p0, .int x1]) dX5_readNumber_4 rfl rfl (Nat.le_of_ble_eq_true rfl) rfl (Or.inr (Or.inr ⟨_, rfl, rfl⟩)) ?_
  refine X_aload_n 6 dX5_readNumber_5 rfl rfl ?_
  refine X_getI 9 f_X5_34 (hL.ob (c := 5) (by decide) rfl) rfl dX5_readNumber_6 rfl ?_
  refine X_bipush 11 (v := 30) dX5_readNumber_9 rfl rfl ?_
  refine X_icmp_eq 22 14 dX5_readNumber_11 rfl rfl (fun c2 => ?_) (fun c2 => ?_)
  · have hw := hw.1 c2
    refine X_iload_n 23 dX5_readNumber_22 rfl rfl ?_
    refine X_iload_n 24 dX5_readNumber_23 rfl rfl ?_
    refine X_icmp_le 32 27 dX5_readNumber_24 rfl rfl (fun c3 => ?_) (fun c3 => ?_)
    · have hw := hw.2 c3
      refine X_weak (ls' := [.ref 71, junk, .int x1]) (WK.s (WK.j (WK.s WK.n))) (Nat.le_of_ble_eq_true rfl) ?_
      exact t_X5_readNumber_32 hL   hw 
    · have hw := hw.1 c3
      refine X_aload_n 28 dX5_readNumber_27 rfl rfl ?_
      refine X_iconst 29 (v := 4) dX5_readNumber_28 rfl rfl ?_
      refine Y_cVV 32 (as := [.int (4 : Int32)]) m_X5_44 (s_X5_refuse hL  hw) (hL.ob (c := 5) (by decide) rfl) rfl (by decide) (Nat.le_of_ble_eq_true rfl) dX5_readNumber_29 rfl rfl (fun M4 hw => ?_)
      refine X_weak (ls' := [.ref 71, junk, .int x1]) (WK.s (WK.j (WK.s WK.n))) (Nat.le_of_ble_eq_true rfl) ?_
      exact t_X5_readNumber_32 hL   hw 
  · have hw := hw.2 c2
    refine X_aload_n 15 dX5_readNumber_14 rfl rfl ?_
    refine X_iconst 16 (v := 1) dX5_readNumber_15 rfl rfl ?_
    refine Y_cVV 19 (as := [.int (1 : Int32)]) m_X5_44 (s_X5_refuse hL  hw) (hL.ob (c := 5) (by decide) rfl) rfl (by decide) (Nat.le_of_ble_eq_true rfl) dX5_readNumber_16 rfl rfl (fun M5 hw => ?_)
    refine X_goto 32 dX5_readNumber_19 rfl ?_
    refine X_weak (ls' := [.ref 71, junk, .int x1]) (WK.s (WK.j (WK.s WK.n))) (Nat.le_of_ble_eq_true rfl) ?_
    exact t_X5_readNumber_32 hL   hw 
def w_X5_expect_13 (L : Lay) (p0 : Int32)   (M : Mem) (Q : Mem → Prop) : Prop := w_X5_next L  M (fun M3 => (Q M3))
set_option maxRecDepth 20000 in
theorem t_X5_expect_13 {L : Lay} (hL : LY L) {p0 : Int32}     {M : Mem} {Q : Mem → Prop} (hw : w_X5_expect_13 L p0   M Q)  : X (FM (QV L Q)) RX5 cX5_expect none 2 "expect" 8 0 0 (L, M) 13 [.ref 71, junk] [] := by
  unfold w_X5_expect_13 at hw
  refine X_aload_n 14 dX5_expect_13 rfl rfl ?_
  refine Y_cVV 17 (as := []) m_X5_55 (s_X5_next hL  hw) (hL.ob (c := 5) (by decide) rfl) rfl (by decide) (Nat.le_of_ble_eq_true rfl) dX5_expect_14 rfl rfl (fun M3 hw => ?_)
  exact X_retV rfl dX5_expect_17 ⟨_, rfl, rfl, hw⟩
def w_X5_expect (L : Lay) (p0 : Int32) (M : Mem) (Q : Mem → Prop) : Prop := (((mi M 71 3) = p0 → (w_X5_expect_13 L p0   M Q)) ∧ (¬ (mi M 71 3) = p0 → (w_X5_refuse L (1 : Int32) M (fun M2 => (w_X5_expect_13 L p0   M2 Q)))))
set_option maxRecDepth 20000 in
theorem s_X5_expect {L : Lay} (hL : LY L) {p0 : Int32}  {M : Mem} {Q : Mem → Prop} (hw : w_X5_expect L p0 M Q) : MX yX5_expect cX5_expect none 2 8 0 0 [.ref 71, .int p0] (L, M) (QV L Q) := by
  unfold w_X5_expect at hw
  refine MX_of (by decide) [.ref 71, .int p0] (by rfl) (by exact Nat.le_of_ble_eq_true rfl) ?_
  show X (FM (QV L Q)) RX5 cX5_expect none 2 "expect" 8 0 0 (L, M) 0 [.ref 71, .int p0] []
  refine X_aload_n 1 dX5_expect_0 rfl rfl ?_
  refine X_getI 4 f_X5_34 (hL.ob (c := 5) (by decide) rfl) rfl dX5_expect_1 rfl ?_
  refine X_iload_n 5 dX5_expect_4 rfl rfl ?_
  refine X_icmp_eq 13 8 dX5_expect_5 rfl rfl (fun c1 => ?_) (fun c1 => ?_)
  · have hw := hw.1 c1
    refine X_weak (ls' := [.ref 71, junk]) (WK.s (WK.j WK.n)) (Nat.le_of_ble_eq_true rfl) ?_
    exact t_X5_expect_13 hL   hw 
  · have hw := hw.2 c1
    refine X_aload_n 9 dX5_expect_8 rfl rfl ?_
    refine X_iconst 10 (v := 1) dX5_expect_9 rfl rfl ?_
    refine Y_cVV 13 (as := [.int (1 : Int32)]) m_X5_44 (s_X5_refuse hL  hw) (hL.ob (c := 5) (by decide) rfl) rfl (by decide) (Nat.le_of_ble_eq_true rfl) dX5_expect_10 rfl rfl (fun M2 hw => ?_)
    refine X_weak (ls' := [.ref 71, junk]) (WK.s (WK.j WK.n)) (Nat.le_of_ble_eq_true rfl) ?_
    exact t_X5_expect_13 hL   hw 
def w_X5_pushWaiting (L : Lay)  (M : Mem) (Q : Mem → Prop) : Prop := (((mi M 71 10) < (nI 64) → (vp_in (mi M 71 10) 64 ∧ (∀ M3 : Mem, M3 = si M 74 (tn (mi M 71 10)) (mi M 71 3) → (∀ M4 : Mem, M4 = si M3 71 10 ((mi M3 71 10) + (1 : Int32)) → (Q M4))))) ∧ (¬ (mi M 71 10) < (nI 64) → (Q M)))
set_option maxRecDepth 20000 in
theorem s_X5_pushWaiting {L : Lay} (hL : LY L)   {M : Mem} {Q : Mem → Prop} (hw : w_X5_pushWaiting L  M Q) : MX yX5_pushWaiting cX5_pushWaiting none 1 1 0 0 [.ref 71] (L, M) (QV L Q) := by
  unfold w_X5_pushWaiting at hw
  refine MX_of (by decide) [.ref 71] (by rfl) (by exact Nat.le_of_ble_eq_true rfl) ?_
  show X (FM (QV L Q)) RX5 cX5_pushWaiting none 1 "pushWaiting" 1 0 0 (L, M) 0 [.ref 71] []
  refine X_aload_n 1 dX5_pushWaiting_0 rfl rfl ?_
  refine X_getI 4 f_X5_106 (hL.ob (c := 5) (by decide) rfl) rfl dX5_pushWaiting_1 rfl ?_
  refine X_aload_n 5 dX5_pushWaiting_4 rfl rfl ?_
  refine X_getR 8 f_X5_19 (hL.ob (c := 5) (by decide) rfl) rfl (hL.rr (by decide) rfl) dX5_pushWaiting_5 rfl ?_
  refine X_alen 9 (t := 0) (by decide) (hL.ar (t := 0) (n := 64) (by decide) rfl) dX5_pushWaiting_8 rfl ?_
  refine X_icmp_ge 35 12 dX5_pushWaiting_9 rfl rfl (fun c1 => ?_) (fun c1 => ?_)
  · have hw := hw.2 c1
    exact X_retV rfl dX5_pushWaiting_35 ⟨_, rfl, rfl, hw⟩
  · have hw := hw.1 c1
    refine X_aload_n 13 dX5_pushWaiting_12 rfl rfl ?_
    refine X_getR 16 f_X5_19 (hL.ob (c := 5) (by decide) rfl) rfl (hL.rr (by decide) rfl) dX5_pushWaiting_13 rfl ?_
    refine X_aload_n 17 dX5_pushWaiting_16 rfl rfl ?_
    refine X_getI 20 f_X5_106 (hL.ob (c := 5) (by decide) rfl) rfl dX5_pushWaiting_17 rfl ?_
    refine X_aload_n 21 dX5_pushWaiting_20 rfl rfl ?_
    refine X_getI 24 f_X5_34 (hL.ob (c := 5) (by decide) rfl) rfl dX5_pushWaiting_21 rfl ?_
    obtain ⟨c2, hw⟩ := hw
    refine Y_iast 25 (k := (tn (mi M 71 10))) (hL.ar (t := 0) (n := 64) (by decide) rfl) c2 rfl dX5_pushWaiting_24 rfl ?_
    refine X_nmM (fun M3 eM3 => ?_)
    have hw := hw M3 eM3
    refine X_aload_n 26 dX5_pushWaiting_25 rfl rfl ?_
    refine X_dup 27 dX5_pushWaiting_26 rfl rfl ?_
    refine X_getI 30 f_X5_106 (hL.ob (c := 5) (by decide) rfl) rfl dX5_pushWaiting_27 rfl ?_
    refine X_iconst 31 (v := 1) dX5_pushWaiting_30 rfl rfl ?_
    refine X_iadd 32 dX5_pushWaiting_31 rfl ?_
    refine X_putI 35 f_X5_106 (Or.inl rfl) (hL.ob (c := 5) (by decide) rfl) rfl dX5_pushWaiting_32 rfl ?_
    refine X_nmM (fun M4 eM4 => ?_)
    have hw := hw M4 eM4
    exact X_retV rfl dX5_pushWaiting_35 ⟨_, rfl, rfl, hw⟩
def w_X5_emit (L : Lay) (p0 : Int32) (M : Mem) (Q : Mem → Prop) : Prop := (((mi M 71 8) < (nI 1000) → (vp_in (mi M 71 8) 1000 ∧ (∀ M3 : Mem, M3 = si M 73 (tn (mi M 71 8)) p0 → (∀ M4 : Mem, M4 = si M3 71 8 ((mi M3 71 8) + (1 : Int32)) → (Q M4))))) ∧ (¬ (mi M 71 8) < (nI 1000) → (Q M)))
set_option maxRecDepth 20000 in
theorem s_X5_emit {L : Lay} (hL : LY L) {p0 : Int32}  {M : Mem} {Q : Mem → Prop} (hw : w_X5_emit L p0 M Q) : MX yX5_emit cX5_emit none 2 1 0 0 [.ref 71, .int p0] (L, M) (QV L Q) := by
  unfold w_X5_emit at hw
  refine MX_of (by decide) [.ref 71, .int p0] (by rfl) (by exact Nat.le_of_ble_eq_true rfl) ?_
  show X (FM (QV L Q)) RX5 cX5_emit none 2 "emit" 1 0 0 (L, M) 0 [.ref 71, .int p0] []
  refine X_aload_n 1 dX5_emit_0 rfl rfl ?_
  refine X_getI 4 f_X5_103 (hL.ob (c := 5) (by decide) rfl) rfl dX5_emit_1 rfl ?_
  refine X_aload_n 5 dX5_emit_4 rfl rfl ?_
  refine X_getR 8 f_X5_15 (hL.ob (c := 5) (by decide) rfl) rfl (hL.rr (by decide) rfl) dX5_emit_5 rfl ?_
  refine X_alen 9 (t := 0) (by decide) (hL.ar (t := 0) (n := 1000) (by decide) rfl) dX5_emit_8 rfl ?_
  refine X_icmp_ge 32 12 dX5_emit_9 rfl rfl (fun c1 => ?_) (fun c1 => ?_)
  · have hw := hw.2 c1
    exact X_retV rfl dX5_emit_32 ⟨_, rfl, rfl, hw⟩
  · have hw := hw.1 c1
    refine X_aload_n 13 dX5_emit_12 rfl rfl ?_
    refine X_getR 16 f_X5_15 (hL.ob (c := 5) (by decide) rfl) rfl (hL.rr (by decide) rfl) dX5_emit_13 rfl ?_
    refine X_aload_n 17 dX5_emit_16 rfl rfl ?_
    refine X_getI 20 f_X5_103 (hL.ob (c := 5) (by decide) rfl) rfl dX5_emit_17 rfl ?_
    refine X_iload_n 21 dX5_emit_20 rfl rfl ?_
    obtain ⟨c2, hw⟩ := hw
    refine Y_iast 22 (k := (tn (mi M 71 8))) (hL.ar (t := 0) (n := 1000) (by decide) rfl) c2 rfl dX5_emit_21 rfl ?_
    refine X_nmM (fun M3 eM3 => ?_)
    have hw := hw M3 eM3
    refine X_aload_n 23 dX5_emit_22 rfl rfl ?_
    refine X_dup 24 dX5_emit_23 rfl rfl ?_
    refine X_getI 27 f_X5_103 (hL.ob (c := 5) (by decide) rfl) rfl dX5_emit_24 rfl ?_
    refine X_iconst 28 (v := 1) dX5_emit_27 rfl rfl ?_
    refine X_iadd 29 dX5_emit_28 rfl ?_
    refine X_putI 32 f_X5_103 (Or.inl rfl) (hL.ob (c := 5) (by decide) rfl) rfl dX5_emit_29 rfl ?_
    refine X_nmM (fun M4 eM4 => ?_)
    have hw := hw M4 eM4
    exact X_retV rfl dX5_emit_32 ⟨_, rfl, rfl, hw⟩
def w_X5_endPart_5 (L : Lay)  (K5 : Mem → Prop)  (M : Mem) (Q : Mem → Prop) : Prop := ((0 < (mi M 71 10) → (vp_in ((mi M 71 10) - (1 : Int32)) 64 ∧ ((((mi M 74 (tn ((mi M 71 10) - (1 : Int32)))) = (11 : Int32) → (w_X5_emit L ((20000 : Int32) + (mi M 74 (tn ((mi M 71 10) - (1 : Int32))))) M (fun M5 => (∀ M6 : Mem, M6 = si M5 71 13 ((mi M5 71 13) - (1 : Int32)) → (∀ M7 : Mem, M7 = si M6 71 10 ((mi M6 71 10) - (1 : Int32)) → (K5  M7)))))) ∧ (¬ (mi M 74 (tn ((mi M 71 10) - (1 : Int32)))) = (11 : Int32) → (Q M)))))) ∧ (¬ 0 < (mi M 71 10) → (Q M)))
set_option maxRecDepth 20000 in
theorem t_X5_endPart_5 {L : Lay} (hL : LY L)   {K5 : Mem → Prop}   {M : Mem} {Q : Mem → Prop} (hw : w_X5_endPart_5 L  K5  M Q) (hK5 : ∀  (M : Mem), K5  M → X (FM (QV L Q)) RX5 cX5_endPart none 1 "endPart" 2 0 0 (L, M) 5 [.ref 71] []) : X (FM (QV L Q)) RX5 cX5_endPart none 1 "endPart" 2 0 0 (L, M) 5 [.ref 71] [] := by
  unfold w_X5_endPart_5 at hw
  refine X_aload_n 6 dX5_endPart_5 rfl rfl ?_
  refine X_getI 9 f_X5_106 (hL.ob (c := 5) (by decide) rfl) rfl dX5_endPart_6 rfl ?_
  refine X_if_le 70 12 (y := 0) dX5_endPart_9 rfl rfl (fun c2 => ?_) (fun c2 => ?_)
  · have hw := hw.2 c2
    exact X_retV rfl dX5_endPart_70 ⟨_, rfl, rfl, hw⟩
  · have hw := hw.1 c2
    refine X_aload_n 13 dX5_endPart_12 rfl rfl ?_
    refine X_getR 16 f_X5_19 (hL.ob (c := 5) (by decide) rfl) rfl (hL.rr (by decide) rfl) dX5_endPart_13 rfl ?_
    refine X_aload_n 17 dX5_endPart_16 rfl rfl ?_
    refine X_getI 20 f_X5_106 (hL.ob (c := 5) (by decide) rfl) rfl dX5_endPart_17 rfl ?_
    refine X_iconst 21 (v := 1) dX5_endPart_20 rfl rfl ?_
    refine X_isub 22 dX5_endPart_21 rfl ?_
    obtain ⟨c3, hw⟩ := hw
    refine Y_iald 23 (k := (tn ((mi M 71 10) - (1 : Int32)))) (hL.ar (t := 0) (n := 64) (by decide) rfl) c3 rfl dX5_endPart_22 rfl ?_
    refine X_bipush 25 (v := 11) dX5_endPart_23 rfl rfl ?_
    refine X_icmp_ne 70 28 dX5_endPart_25 rfl rfl (fun c4 => ?_) (fun c4 => ?_)
    · have hw := hw.2 c4
      exact X_retV rfl dX5_endPart_70 ⟨_, rfl, rfl, hw⟩
    · have hw := hw.1 c4
      refine X_aload_n 29 dX5_endPart_28 rfl rfl ?_
      refine X_sipush 32 (v := 20000) dX5_endPart_29 rfl rfl ?_
      refine X_aload_n 33 dX5_endPart_32 rfl rfl ?_
      refine X_getR 36 f_X5_19 (hL.ob (c := 5) (by decide) rfl) rfl (hL.rr (by decide) rfl) dX5_endPart_33 rfl ?_
      refine X_aload_n 37 dX5_endPart_36 rfl rfl ?_
      refine X_getI 40 f_X5_106 (hL.ob (c := 5) (by decide) rfl) rfl dX5_endPart_37 rfl ?_
      refine X_iconst 41 (v := 1) dX5_endPart_40 rfl rfl ?_
      refine X_isub 42 dX5_endPart_41 rfl ?_
      refine Y_iald 43 (k := (tn ((mi M 71 10) - (1 : Int32)))) (hL.ar (t := 0) (n := 64) (by decide) rfl) c3 rfl dX5_endPart_42 rfl ?_
      refine X_iadd 44 dX5_endPart_43 rfl ?_
      refine Y_cVV 47 (as := [.int (((20000 : Int32) + (mi M 74 (tn ((mi M 71 10) - (1 : Int32))))))]) m_X5_129 (s_X5_emit hL  hw) (hL.ob (c := 5) (by decide) rfl) rfl (by decide) (Nat.le_of_ble_eq_true rfl) dX5_endPart_44 rfl rfl (fun M5 hw => ?_)
      refine X_aload_n 48 dX5_endPart_47 rfl rfl ?_
      refine X_dup 49 dX5_endPart_48 rfl rfl ?_
      refine X_getI 52 f_X5_116 (hL.ob (c := 5) (by decide) rfl) rfl dX5_endPart_49 rfl ?_
      refine X_iconst 53 (v := 1) dX5_endPart_52 rfl rfl ?_
      refine X_isub 54 dX5_endPart_53 rfl ?_
      refine X_putI 57 f_X5_116 (Or.inl rfl) (hL.ob (c := 5) (by decide) rfl) rfl dX5_endPart_54 rfl ?_
      refine X_nmM (fun M6 eM6 => ?_)
      have hw := hw M6 eM6
      refine X_aload_n 58 dX5_endPart_57 rfl rfl ?_
      refine X_dup 59 dX5_endPart_58 rfl rfl ?_
      refine X_getI 62 f_X5_106 (hL.ob (c := 5) (by decide) rfl) rfl dX5_endPart_59 rfl ?_
      refine X_iconst 63 (v := 1) dX5_endPart_62 rfl rfl ?_
      refine X_isub 64 dX5_endPart_63 rfl ?_
      refine X_putI 67 f_X5_106 (Or.inl rfl) (hL.ob (c := 5) (by decide) rfl) rfl dX5_endPart_64 rfl ?_
      refine X_nmM (fun M7 eM7 => ?_)
      have hw := hw M7 eM7
      refine X_goto 5 dX5_endPart_67 rfl ?_
      exact hK5  M7 hw
def w_X5_endPart (L : Lay)  (M : Mem) (Q : Mem → Prop) : Prop := ∀ M1 : Mem, M1 = si M 71 11 (0 : Int32) → (LP1 (fun K5  M => w_X5_endPart_5 L   K5  M Q)  M1)
set_option maxRecDepth 20000 in
theorem s_X5_endPart {L : Lay} (hL : LY L)   {M : Mem} {Q : Mem → Prop} (hw : w_X5_endPart L  M Q) : MX yX5_endPart cX5_endPart none 1 2 0 0 [.ref 71] (L, M) (QV L Q) := by
  unfold w_X5_endPart at hw
  refine MX_of (by decide) [.ref 71] (by rfl) (by exact Nat.le_of_ble_eq_true rfl) ?_
  show X (FM (QV L Q)) RX5 cX5_endPart none 1 "endPart" 2 0 0 (L, M) 0 [.ref 71] []
  refine X_aload_n 1 dX5_endPart_0 rfl rfl ?_
  refine X_iconst 2 (v := 0) dX5_endPart_1 rfl rfl ?_
  refine X_putZ 5 f_X5_109 (Or.inl rfl) (Or.inl rfl) (hL.ob (c := 5) (by decide) rfl) rfl dX5_endPart_2 rfl ?_
  refine X_nmM (fun M1 eM1 => ?_)
  have hw := hw M1 eM1
  exact LP1_s hw (G := fun  M => X (FM (QV L Q)) RX5 cX5_endPart none 1 "endPart" 2 0 0 (L, M) 5 [.ref 71] []) (fun K5  M hb hK => t_X5_endPart_5 hL  hb  hK)
def w_X5_takePart_67 (L : Lay)   (v1 : Int32) (v2 : Int32) (M : Mem) (Q : Int32 → Mem → Prop) : Prop := (((mi M 71 13) < (5 : Int32) → (((v2 = 0 → (∀ x12 : Int32, x12 = (if v1 = 0 then (mi M 71 4) else ((10000 : Int32) + (mi M 71 3))) → (w_X5_emit L x12 M (fun M13 => (w_X5_endPart L  M13 (fun M14 => (Q (1 : Int32) M14))))))) ∧ (¬ v2 = 0 → (∀ M16 : Mem, M16 = si M 71 13 ((mi M 71 13) + (1 : Int32)) → (∀ x17 : Int32, x17 = (if (mi M16 71 3) = (40 : Int32) then (1 : Int32) else (0 : Int32)) → (∀ M18 : Mem, M18 = si M16 71 12 ((mi M16 71 12) + x17) → (w_X5_pushWaiting L  M18 (fun M19 => (Q (1 : Int32) M19)))))))))) ∧ (¬ (mi M 71 13) < (5 : Int32) → (w_X5_refuse L (5 : Int32) M (fun M21 => (Q (0 : Int32) M21)))))
set_option maxRecDepth 20000 in
theorem t_X5_takePart_67 {L : Lay} (hL : LY L)    {v1 : Int32} {v2 : Int32}  {M : Mem} {Q : Int32 → Mem → Prop} (hw : w_X5_takePart_67 L   v1 v2 M Q)  : X (FM (QZ L Q)) RX5 cX5_takePart (some .boolean) 3 "takePart" 3 0 0 (L, M) 67 [.ref 71, .int v1, .int v2] [] := by
  unfold w_X5_takePart_67 at hw
  refine X_aload_n 68 dX5_takePart_67 rfl rfl ?_
  refine X_getI 71 f_X5_116 (hL.ob (c := 5) (by decide) rfl) rfl dX5_takePart_68 rfl ?_
  refine X_iconst 72 (v := 5) dX5_takePart_71 rfl rfl ?_
  refine X_icmp_lt 82 75 dX5_takePart_72 rfl rfl (fun c10 => ?_) (fun c10 => ?_)
  · have hw := hw.1 c10
    refine X_iload_n 83 dX5_takePart_82 rfl rfl ?_
    refine X_if_eq 125 86 (y := 0) dX5_takePart_83 rfl rfl (fun c11 => ?_) (fun c11 => ?_)
    · have hw := hw.1 c11
      refine X_aload_n 126 dX5_takePart_125 rfl rfl ?_
      refine X_iload_n 127 dX5_takePart_126 rfl rfl ?_
      obtain ⟨x12, ex12⟩ : ∃ x12 : Int32, x12 = (if v1 = 0 then (mi M 71 4) else ((10000 : Int32) + (mi M 71 3))) := ⟨_, rfl⟩
      have hw := hw x12 ex12
      have hJ : X (FM (QZ L Q)) RX5 cX5_takePart (some .boolean) 3 "takePart" 3 0 0 (L, M) 145 [.ref 71, .int v1, .int v2] [.int x12, .ref 71] := by
        refine Y_cVV 148 (as := [.int x12]) m_X5_129 (s_X5_emit hL  hw) (hL.ob (c := 5) (by decide) rfl) rfl (by decide) (Nat.le_of_ble_eq_true rfl) dX5_takePart_145 rfl rfl (fun M13 hw => ?_)
        refine X_aload_n 149 dX5_takePart_148 rfl rfl ?_
        refine Y_cVV 152 (as := []) m_X5_141 (s_X5_endPart hL  hw) (hL.ob (c := 5) (by decide) rfl) rfl (by decide) (Nat.le_of_ble_eq_true rfl) dX5_takePart_149 rfl rfl (fun M14 hw => ?_)
        refine X_iconst 153 (v := 1) dX5_takePart_152 rfl rfl ?_
        exact X_ret rfl (nar_bool (Or.inr rfl)) dX5_takePart_153 ⟨_, _, rfl, Or.inr rfl, rfl, hw⟩
      refine X_if_eq 141 130 (y := 0) dX5_takePart_127 rfl rfl (fun c15 => ?_) (fun c15 => ?_)
      · refine X_aload_n 142 dX5_takePart_141 rfl rfl ?_
        refine X_getI 145 f_X5_97 (hL.ob (c := 5) (by decide) rfl) rfl dX5_takePart_142 rfl ?_
        rw [if_pos c15] at ex12
        rw [ex12] at hJ
        exact hJ
      · refine X_sipush 133 (v := 10000) dX5_takePart_130 rfl rfl ?_
        refine X_aload_n 134 dX5_takePart_133 rfl rfl ?_
        refine X_getI 137 f_X5_34 (hL.ob (c := 5) (by decide) rfl) rfl dX5_takePart_134 rfl ?_
        refine X_iadd 138 dX5_takePart_137 rfl ?_
        refine X_goto 145 dX5_takePart_138 rfl ?_
        rw [if_neg c15] at ex12
        rw [ex12] at hJ
        exact hJ
    · have hw := hw.2 c11
      refine X_aload_n 87 dX5_takePart_86 rfl rfl ?_
      refine X_dup 88 dX5_takePart_87 rfl rfl ?_
      refine X_getI 91 f_X5_116 (hL.ob (c := 5) (by decide) rfl) rfl dX5_takePart_88 rfl ?_
      refine X_iconst 92 (v := 1) dX5_takePart_91 rfl rfl ?_
      refine X_iadd 93 dX5_takePart_92 rfl ?_
      refine X_putI 96 f_X5_116 (Or.inl rfl) (hL.ob (c := 5) (by decide) rfl) rfl dX5_takePart_93 rfl ?_
      refine X_nmM (fun M16 eM16 => ?_)
      have hw := hw M16 eM16
      refine X_aload_n 97 dX5_takePart_96 rfl rfl ?_
      refine X_dup 98 dX5_takePart_97 rfl rfl ?_
      refine X_getI 101 f_X5_113 (hL.ob (c := 5) (by decide) rfl) rfl dX5_takePart_98 rfl ?_
      refine X_aload_n 102 dX5_takePart_101 rfl rfl ?_
      refine X_getI 105 f_X5_34 (hL.ob (c := 5) (by decide) rfl) rfl dX5_takePart_102 rfl ?_
      refine X_bipush 107 (v := 40) dX5_takePart_105 rfl rfl ?_
      obtain ⟨x17, ex17⟩ : ∃ x17 : Int32, x17 = (if (mi M16 71 3) = (40 : Int32) then (1 : Int32) else (0 : Int32)) := ⟨_, rfl⟩
      have hw := hw x17 ex17
      have bx17 : BZ x17 := by rw [ex17]; (repeat' split) <;> first | exact Or.inl rfl | exact Or.inr rfl
      have hJ : X (FM (QZ L Q)) RX5 cX5_takePart (some .boolean) 3 "takePart" 3 0 0 (L, M16) 115 [.ref 71, .int v1, .int v2] [.int x17, .int ((mi M16 71 12)), .ref 71] := by
        refine X_iadd 116 dX5_takePart_115 rfl ?_
        refine X_putI 119 f_X5_113 (Or.inl rfl) (hL.ob (c := 5) (by decide) rfl) rfl dX5_takePart_116 rfl ?_
        refine X_nmM (fun M18 eM18 => ?_)
        have hw := hw M18 eM18
        refine X_aload_n 120 dX5_takePart_119 rfl rfl ?_
        refine Y_cVV 123 (as := []) m_X5_138 (s_X5_pushWaiting hL  hw) (hL.ob (c := 5) (by decide) rfl) rfl (by decide) (Nat.le_of_ble_eq_true rfl) dX5_takePart_120 rfl rfl (fun M19 hw => ?_)
        refine X_iconst 124 (v := 1) dX5_takePart_123 rfl rfl ?_
        exact X_ret rfl (nar_bool (Or.inr rfl)) dX5_takePart_124 ⟨_, _, rfl, Or.inr rfl, rfl, hw⟩
      refine X_icmp_ne 114 110 dX5_takePart_107 rfl rfl (fun c20 => ?_) (fun c20 => ?_)
      · refine X_iconst 115 (v := 0) dX5_takePart_114 rfl rfl ?_
        rw [if_neg c20] at ex17
        rw [ex17] at hJ
        exact hJ
      · refine X_iconst 111 (v := 1) dX5_takePart_110 rfl rfl ?_
        refine X_goto 115 dX5_takePart_111 rfl ?_
        rw [if_pos c20] at ex17
        rw [ex17] at hJ
        exact hJ
  · have hw := hw.2 c10
    refine X_aload_n 76 dX5_takePart_75 rfl rfl ?_
    refine X_iconst 77 (v := 5) dX5_takePart_76 rfl rfl ?_
    refine Y_cVV 80 (as := [.int (5 : Int32)]) m_X5_44 (s_X5_refuse hL  hw) (hL.ob (c := 5) (by decide) rfl) rfl (by decide) (Nat.le_of_ble_eq_true rfl) dX5_takePart_77 rfl rfl (fun M21 hw => ?_)
    refine X_iconst 81 (v := 0) dX5_takePart_80 rfl rfl ?_
    exact X_ret rfl (nar_bool (Or.inl rfl)) dX5_takePart_81 ⟨_, _, rfl, Or.inl rfl, rfl, hw⟩
def w_X5_takePart (L : Lay)  (M : Mem) (Q : Int32 → Mem → Prop) : Prop := ∀ x1 : Int32, x1 = (if (mi M 71 3) < (13 : Int32) then (0 : Int32) else (if (26 : Int32) < (mi M 71 3) then (0 : Int32) else (1 : Int32))) → (∀ x2 : Int32, x2 = (if (mi M 71 3) = (11 : Int32) then (1 : Int32) else (if (mi M 71 3) = (40 : Int32) then (1 : Int32) else (0 : Int32))) → (((x1 = 0 → (((x2 = 0 → ((((mi M 71 3) = (30 : Int32) → (w_X5_takePart_67 L   x1 x2 M Q)) ∧ (¬ (mi M 71 3) = (30 : Int32) → (Q (0 : Int32) M))))) ∧ (¬ x2 = 0 → (w_X5_takePart_67 L   x1 x2 M Q))))) ∧ (¬ x1 = 0 → (w_X5_takePart_67 L   x1 x2 M Q)))))
set_option maxRecDepth 20000 in
theorem s_X5_takePart {L : Lay} (hL : LY L)   {M : Mem} {Q : Int32 → Mem → Prop} (hw : w_X5_takePart L  M Q) : MX yX5_takePart cX5_takePart (some .boolean) 3 3 0 0 [.ref 71] (L, M) (QZ L Q) := by
  unfold w_X5_takePart at hw
  refine MX_of (by decide) [.ref 71, junk, junk] (by rfl) (by exact Nat.le_of_ble_eq_true rfl) ?_
  show X (FM (QZ L Q)) RX5 cX5_takePart (some .boolean) 3 "takePart" 3 0 0 (L, M) 0 [.ref 71, junk, junk] []
  refine X_aload_n 1 dX5_takePart_0 rfl rfl ?_
  refine X_getI 4 f_X5_34 (hL.ob (c := 5) (by decide) rfl) rfl dX5_takePart_1 rfl ?_
  refine X_bipush 6 (v := 13) dX5_takePart_4 rfl rfl ?_
  obtain ⟨x1, ex1⟩ : ∃ x1 : Int32, x1 = (if (mi M 71 3) < (13 : Int32) then (0 : Int32) else (if (26 : Int32) < (mi M 71 3) then (0 : Int32) else (1 : Int32))) := ⟨_, rfl⟩
  have hw := hw x1 ex1
  have bx1 : BZ x1 := by rw [ex1]; (repeat' split) <;> first | exact Or.inl rfl | exact Or.inr rfl
  have hJ : X (FM (QZ L Q)) RX5 cX5_takePart (some .boolean) 3 "takePart" 3 0 0 (L, M) 23 [.ref 71, junk, junk] [.int x1] := by
    refine X_istore_n 24 (ls' := [.ref 71, .int x1, junk]) dX5_takePart_23 rfl rfl (Nat.le_of_ble_eq_true rfl) rfl (Or.inr (Or.inr ⟨_, rfl, rfl⟩)) ?_
    refine X_aload_n 25 dX5_takePart_24 rfl rfl ?_
    refine X_getI 28 f_X5_34 (hL.ob (c := 5) (by decide) rfl) rfl dX5_takePart_25 rfl ?_
    refine X_bipush 30 (v := 11) dX5_takePart_28 rfl rfl ?_
    obtain ⟨x2, ex2⟩ : ∃ x2 : Int32, x2 = (if (mi M 71 3) = (11 : Int32) then (1 : Int32) else (if (mi M 71 3) = (40 : Int32) then (1 : Int32) else (0 : Int32))) := ⟨_, rfl⟩
    have hw := hw x2 ex2
    have bx2 : BZ x2 := by rw [ex2]; (repeat' split) <;> first | exact Or.inl rfl | exact Or.inr rfl
    have hJ : X (FM (QZ L Q)) RX5 cX5_takePart (some .boolean) 3 "takePart" 3 0 0 (L, M) 47 [.ref 71, .int x1, junk] [.int x2] := by
      refine X_istore_n 48 (ls' := [.ref 71, .int x1, .int x2]) dX5_takePart_47 rfl rfl (Nat.le_of_ble_eq_true rfl) rfl (Or.inr (Or.inr ⟨_, rfl, rfl⟩)) ?_
      refine X_iload_n 49 dX5_takePart_48 rfl rfl ?_
      refine X_if_ne 67 52 (y := 0) dX5_takePart_49 rfl rfl (fun c3 => ?_) (fun c3 => ?_)
      · have hw := hw.2 c3
        exact t_X5_takePart_67 hL   hw 
      · have hw := hw.1 c3
        refine X_iload_n 53 dX5_takePart_52 rfl rfl ?_
        refine X_if_ne 67 56 (y := 0) dX5_takePart_53 rfl rfl (fun c4 => ?_) (fun c4 => ?_)
        · have hw := hw.2 c4
          exact t_X5_takePart_67 hL   hw 
        · have hw := hw.1 c4
          refine X_aload_n 57 dX5_takePart_56 rfl rfl ?_
          refine X_getI 60 f_X5_34 (hL.ob (c := 5) (by decide) rfl) rfl dX5_takePart_57 rfl ?_
          refine X_bipush 62 (v := 30) dX5_takePart_60 rfl rfl ?_
          refine X_icmp_eq 67 65 dX5_takePart_62 rfl rfl (fun c5 => ?_) (fun c5 => ?_)
          · have hw := hw.1 c5
            exact t_X5_takePart_67 hL   hw 
          · have hw := hw.2 c5
            refine X_iconst 66 (v := 0) dX5_takePart_65 rfl rfl ?_
            exact X_ret rfl (nar_bool (Or.inl rfl)) dX5_takePart_66 ⟨_, _, rfl, Or.inl rfl, rfl, hw⟩
    refine X_icmp_eq 42 33 dX5_takePart_30 rfl rfl (fun c6 => ?_) (fun c6 => ?_)
    · refine X_iconst 43 (v := 1) dX5_takePart_42 rfl rfl ?_
      refine X_goto 47 dX5_takePart_43 rfl ?_
      rw [if_pos c6] at ex2
      rw [ex2] at hJ
      exact hJ
    · refine X_aload_n 34 dX5_takePart_33 rfl rfl ?_
      refine X_getI 37 f_X5_34 (hL.ob (c := 5) (by decide) rfl) rfl dX5_takePart_34 rfl ?_
      refine X_bipush 39 (v := 40) dX5_takePart_37 rfl rfl ?_
      refine X_icmp_ne 46 42 dX5_takePart_39 rfl rfl (fun c7 => ?_) (fun c7 => ?_)
      · refine X_iconst 47 (v := 0) dX5_takePart_46 rfl rfl ?_
        rw [if_neg c6, if_neg c7] at ex2
        rw [ex2] at hJ
        exact hJ
      · refine X_iconst 43 (v := 1) dX5_takePart_42 rfl rfl ?_
        refine X_goto 47 dX5_takePart_43 rfl ?_
        rw [if_neg c6, if_pos c7] at ex2
        rw [ex2] at hJ
        exact hJ
  refine X_icmp_lt 22 9 dX5_takePart_6 rfl rfl (fun c8 => ?_) (fun c8 => ?_)
  · refine X_iconst 23 (v := 0) dX5_takePart_22 rfl rfl ?_
    rw [if_pos c8] at ex1
    rw [ex1] at hJ
    exact hJ
  · refine X_aload_n 10 dX5_takePart_9 rfl rfl ?_
    refine X_getI 13 f_X5_34 (hL.ob (c := 5) (by decide) rfl) rfl dX5_takePart_10 rfl ?_
    refine X_bipush 15 (v := 26) dX5_takePart_13 rfl rfl ?_
    refine X_icmp_gt 22 18 dX5_takePart_15 rfl rfl (fun c9 => ?_) (fun c9 => ?_)
    · refine X_iconst 23 (v := 0) dX5_takePart_22 rfl rfl ?_
      rw [if_neg c8, if_pos c9] at ex1
      rw [ex1] at hJ
      exact hJ
    · refine X_iconst 19 (v := 1) dX5_takePart_18 rfl rfl ?_
      refine X_goto 23 dX5_takePart_19 rfl ?_
      rw [if_neg c8, if_neg c9] at ex1
      rw [ex1] at hJ
      exact hJ
def w_X5_closePart_64 (L : Lay)    (M : Mem) (Q : Int32 → Mem → Prop) : Prop := ∀ M7 : Mem, M7 = si M 71 10 (jmax (0 : Int32) ((mi M 71 10) - (1 : Int32))) → (∀ M8 : Mem, M8 = si M7 71 12 ((mi M7 71 12) - (1 : Int32)) → (∀ M9 : Mem, M9 = si M8 71 13 ((mi M8 71 13) - (1 : Int32)) → (w_X5_endPart L  M9 (fun M10 => (Q (1 : Int32) M10)))))
set_option maxRecDepth 20000 in
theorem t_X5_closePart_64 {L : Lay} (hL : LY L)      {M : Mem} {Q : Int32 → Mem → Prop} (hw : w_X5_closePart_64 L    M Q)  : X (FM (QZ L Q)) RX5 cX5_closePart (some .boolean) 1 "closePart" 3 0 0 (L, M) 64 [.ref 71] [] := by
  unfold w_X5_closePart_64 at hw
  refine X_aload_n 65 dX5_closePart_64 rfl rfl ?_
  refine X_iconst 66 (v := 0) dX5_closePart_65 rfl rfl ?_
  refine X_aload_n 67 dX5_closePart_66 rfl rfl ?_
  refine X_getI 70 f_X5_106 (hL.ob (c := 5) (by decide) rfl) rfl dX5_closePart_67 rfl ?_
  refine X_iconst 71 (v := 1) dX5_closePart_70 rfl rfl ?_
  refine X_isub 72 dX5_closePart_71 rfl ?_
  refine Y_mmax 75 l_X5_88 (by decide) (Nat.le_of_ble_eq_true rfl) dX5_closePart_72 rfl ?_
  refine X_putI 78 f_X5_106 (Or.inl rfl) (hL.ob (c := 5) (by decide) rfl) rfl dX5_closePart_75 rfl ?_
  refine X_nmM (fun M7 eM7 => ?_)
  have hw := hw M7 eM7
  refine X_aload_n 79 dX5_closePart_78 rfl rfl ?_
  refine X_dup 80 dX5_closePart_79 rfl rfl ?_
  refine X_getI 83 f_X5_113 (hL.ob (c := 5) (by decide) rfl) rfl dX5_closePart_80 rfl ?_
  refine X_iconst 84 (v := 1) dX5_closePart_83 rfl rfl ?_
  refine X_isub 85 dX5_closePart_84 rfl ?_
  refine X_putI 88 f_X5_113 (Or.inl rfl) (hL.ob (c := 5) (by decide) rfl) rfl dX5_closePart_85 rfl ?_
  refine X_nmM (fun M8 eM8 => ?_)
  have hw := hw M8 eM8
  refine X_aload_n 89 dX5_closePart_88 rfl rfl ?_
  refine X_dup 90 dX5_closePart_89 rfl rfl ?_
  refine X_getI 93 f_X5_116 (hL.ob (c := 5) (by decide) rfl) rfl dX5_closePart_90 rfl ?_
  refine X_iconst 94 (v := 1) dX5_closePart_93 rfl rfl ?_
  refine X_isub 95 dX5_closePart_94 rfl ?_
  refine X_putI 98 f_X5_116 (Or.inl rfl) (hL.ob (c := 5) (by decide) rfl) rfl dX5_closePart_95 rfl ?_
  refine X_nmM (fun M9 eM9 => ?_)
  have hw := hw M9 eM9
  refine X_aload_n 99 dX5_closePart_98 rfl rfl ?_
  refine Y_cVV 102 (as := []) m_X5_141 (s_X5_endPart hL  hw) (hL.ob (c := 5) (by decide) rfl) rfl (by decide) (Nat.le_of_ble_eq_true rfl) dX5_closePart_99 rfl rfl (fun M10 hw => ?_)
  refine X_iconst 103 (v := 1) dX5_closePart_102 rfl rfl ?_
  exact X_ret rfl (nar_bool (Or.inr rfl)) dX5_closePart_103 ⟨_, _, rfl, Or.inr rfl, rfl, hw⟩
def w_X5_closePart_9 (L : Lay)  (K9 : Mem → Prop)  (M : Mem) (Q : Int32 → Mem → Prop) : Prop := ((0 < (mi M 71 10) → (vp_in ((mi M 71 10) - (1 : Int32)) 64 ∧ ((((mi M 74 (tn ((mi M 71 10) - (1 : Int32)))) = (40 : Int32) → (w_X5_closePart_64 L    M Q)) ∧ (¬ (mi M 74 (tn ((mi M 71 10) - (1 : Int32)))) = (40 : Int32) → (w_X5_emit L ((20000 : Int32) + (mi M 74 (tn ((mi M 71 10) - (1 : Int32))))) M (fun M5 => (∀ M6 : Mem, M6 = si M5 71 10 ((mi M5 71 10) - (1 : Int32)) → (K9  M6))))))))) ∧ (¬ 0 < (mi M 71 10) → (w_X5_closePart_64 L    M Q)))
set_option maxRecDepth 20000 in
theorem t_X5_closePart_9 {L : Lay} (hL : LY L)   {K9 : Mem → Prop}   {M : Mem} {Q : Int32 → Mem → Prop} (hw : w_X5_closePart_9 L  K9  M Q) (hK9 : ∀  (M : Mem), K9  M → X (FM (QZ L Q)) RX5 cX5_closePart (some .boolean) 1 "closePart" 3 0 0 (L, M) 9 [.ref 71] []) : X (FM (QZ L Q)) RX5 cX5_closePart (some .boolean) 1 "closePart" 3 0 0 (L, M) 9 [.ref 71] [] := by
  unfold w_X5_closePart_9 at hw
  refine X_aload_n 10 dX5_closePart_9 rfl rfl ?_
  refine X_getI 13 f_X5_106 (hL.ob (c := 5) (by decide) rfl) rfl dX5_closePart_10 rfl ?_
  refine X_if_le 64 16 (y := 0) dX5_closePart_13 rfl rfl (fun c2 => ?_) (fun c2 => ?_)
  · have hw := hw.2 c2
    exact t_X5_closePart_64 hL   hw 
  · have hw := hw.1 c2
    refine X_aload_n 17 dX5_closePart_16 rfl rfl ?_
    refine X_getR 20 f_X5_19 (hL.ob (c := 5) (by decide) rfl) rfl (hL.rr (by decide) rfl) dX5_closePart_17 rfl ?_
    refine X_aload_n 21 dX5_closePart_20 rfl rfl ?_
    refine X_getI 24 f_X5_106 (hL.ob (c := 5) (by decide) rfl) rfl dX5_closePart_21 rfl ?_
    refine X_iconst 25 (v := 1) dX5_closePart_24 rfl rfl ?_
    refine X_isub 26 dX5_closePart_25 rfl ?_
    obtain ⟨c3, hw⟩ := hw
    refine Y_iald 27 (k := (tn ((mi M 71 10) - (1 : Int32)))) (hL.ar (t := 0) (n := 64) (by decide) rfl) c3 rfl dX5_closePart_26 rfl ?_
    refine X_bipush 29 (v := 40) dX5_closePart_27 rfl rfl ?_
    refine X_icmp_eq 64 32 dX5_closePart_29 rfl rfl (fun c4 => ?_) (fun c4 => ?_)
    · have hw := hw.1 c4
      exact t_X5_closePart_64 hL   hw 
    · have hw := hw.2 c4
      refine X_aload_n 33 dX5_closePart_32 rfl rfl ?_
      refine X_sipush 36 (v := 20000) dX5_closePart_33 rfl rfl ?_
      refine X_aload_n 37 dX5_closePart_36 rfl rfl ?_
      refine X_getR 40 f_X5_19 (hL.ob (c := 5) (by decide) rfl) rfl (hL.rr (by decide) rfl) dX5_closePart_37 rfl ?_
      refine X_aload_n 41 dX5_closePart_40 rfl rfl ?_
      refine X_getI 44 f_X5_106 (hL.ob (c := 5) (by decide) rfl) rfl dX5_closePart_41 rfl ?_
      refine X_iconst 45 (v := 1) dX5_closePart_44 rfl rfl ?_
      refine X_isub 46 dX5_closePart_45 rfl ?_
      refine Y_iald 47 (k := (tn ((mi M 71 10) - (1 : Int32)))) (hL.ar (t := 0) (n := 64) (by decide) rfl) c3 rfl dX5_closePart_46 rfl ?_
      refine X_iadd 48 dX5_closePart_47 rfl ?_
      refine Y_cVV 51 (as := [.int (((20000 : Int32) + (mi M 74 (tn ((mi M 71 10) - (1 : Int32))))))]) m_X5_129 (s_X5_emit hL  hw) (hL.ob (c := 5) (by decide) rfl) rfl (by decide) (Nat.le_of_ble_eq_true rfl) dX5_closePart_48 rfl rfl (fun M5 hw => ?_)
      refine X_aload_n 52 dX5_closePart_51 rfl rfl ?_
      refine X_dup 53 dX5_closePart_52 rfl rfl ?_
      refine X_getI 56 f_X5_106 (hL.ob (c := 5) (by decide) rfl) rfl dX5_closePart_53 rfl ?_
      refine X_iconst 57 (v := 1) dX5_closePart_56 rfl rfl ?_
      refine X_isub 58 dX5_closePart_57 rfl ?_
      refine X_putI 61 f_X5_106 (Or.inl rfl) (hL.ob (c := 5) (by decide) rfl) rfl dX5_closePart_58 rfl ?_
      refine X_nmM (fun M6 eM6 => ?_)
      have hw := hw M6 eM6
      refine X_goto 9 dX5_closePart_61 rfl ?_
      exact hK9  M6 hw
def w_X5_closePart (L : Lay)  (M : Mem) (Q : Int32 → Mem → Prop) : Prop := (((mi M 71 12) = 0 → (Q (0 : Int32) M)) ∧ (¬ (mi M 71 12) = 0 → (LP1 (fun K9  M => w_X5_closePart_9 L   K9  M Q)  M)))
set_option maxRecDepth 20000 in
theorem s_X5_closePart {L : Lay} (hL : LY L)   {M : Mem} {Q : Int32 → Mem → Prop} (hw : w_X5_closePart L  M Q) : MX yX5_closePart cX5_closePart (some .boolean) 1 3 0 0 [.ref 71] (L, M) (QZ L Q) := by
  unfold w_X5_closePart at hw
  refine MX_of (by decide) [.ref 71] (by rfl) (by exact Nat.le_of_ble_eq_true rfl) ?_
  show X (FM (QZ L Q)) RX5 cX5_closePart (some .boolean) 1 "closePart" 3 0 0 (L, M) 0 [.ref 71] []
  refine X_aload_n 1 dX5_closePart_0 rfl rfl ?_
  refine X_getI 4 f_X5_113 (hL.ob (c := 5) (by decide) rfl) rfl dX5_closePart_1 rfl ?_
  refine X_if_ne 9 7 (y := 0) dX5_closePart_4 rfl rfl (fun c1 => ?_) (fun c1 => ?_)
  · have hw := hw.2 c1
    exact LP1_s hw (G := fun  M => X (FM (QZ L Q)) RX5 cX5_closePart (some .boolean) 1 "closePart" 3 0 0 (L, M) 9 [.ref 71] []) (fun K9  M hb hK => t_X5_closePart_9 hL  hb  hK)
  · have hw := hw.1 c1
    refine X_iconst 8 (v := 0) dX5_closePart_7 rfl rfl ?_
    exact X_ret rfl (nar_bool (Or.inl rfl)) dX5_closePart_8 ⟨_, _, rfl, Or.inl rfl, rfl, hw⟩
def w_X5_rankOf (L : Lay) (p0 : Int32) (M : Mem) (Q : Int32 → Mem → Prop) : Prop := ((p0 = (9 : Int32) → (Q (1 : Int32) M)) ∧ (¬ p0 = (9 : Int32) → (((p0 = (10 : Int32) → (Q (1 : Int32) M)) ∧ (¬ p0 = (10 : Int32) → (((p0 = (42 : Int32) → (Q (4 : Int32) M)) ∧ (¬ p0 = (42 : Int32) → (((p0 = (43 : Int32) → (Q (3 : Int32) M)) ∧ (¬ p0 = (43 : Int32) → (((p0 = (45 : Int32) → (Q (3 : Int32) M)) ∧ (¬ p0 = (45 : Int32) → (((p0 = (47 : Int32) → (Q (4 : Int32) M)) ∧ (¬ p0 = (47 : Int32) → (((p0 = (60 : Int32) → (Q (2 : Int32) M)) ∧ (¬ p0 = (60 : Int32) → (((p0 = (61 : Int32) → (Q (2 : Int32) M)) ∧ (¬ p0 = (61 : Int32) → (Q (0 : Int32) M))))))))))))))))))))))))
set_option maxRecDepth 20000 in
theorem s_X5_rankOf {L : Lay} (hL : LY L) {p0 : Int32}  {M : Mem} {Q : Int32 → Mem → Prop} (hw : w_X5_rankOf L p0 M Q) : MX yX5_rankOf cX5_rankOf (some .int) 1 1 0 0 [.int p0] (L, M) (QI L Q) := by
  unfold w_X5_rankOf at hw
  refine MX_of (by decide) [.int p0] (by rfl) (by exact Nat.le_of_ble_eq_true rfl) ?_
  show X (FM (QI L Q)) RX5 cX5_rankOf (some .int) 1 "rankOf" 1 0 0 (L, M) 0 [.int p0] []
  refine X_iload_n 1 dX5_rankOf_0 rfl rfl ?_
  by_cases c1 : p0 = (9 : Int32)
  · have hw := hw.1 c1
    refine Y_lookIn 76 (k := 9) (off := 75) c1 dX5_rankOf_1 (by decide) (by decide) rfl ?_
    refine X_iconst 77 (v := 1) dX5_rankOf_76 rfl rfl ?_
    exact X_ret rfl rfl dX5_rankOf_77 ⟨_, _, rfl, rfl, hw⟩
  · have hw := hw.2 c1
    by_cases c2 : p0 = (10 : Int32)
    · have hw := hw.1 c2
      refine Y_lookIn 76 (k := 10) (off := 75) c2 dX5_rankOf_1 (by decide) (by decide) rfl ?_
      refine X_iconst 77 (v := 1) dX5_rankOf_76 rfl rfl ?_
      exact X_ret rfl rfl dX5_rankOf_77 ⟨_, _, rfl, rfl, hw⟩
    · have hw := hw.2 c2
      by_cases c3 : p0 = (42 : Int32)
      · have hw := hw.1 c3
        refine Y_lookIn 82 (k := 42) (off := 81) c3 dX5_rankOf_1 (by decide) (by decide) rfl ?_
        refine X_iconst 83 (v := 4) dX5_rankOf_82 rfl rfl ?_
        exact X_ret rfl rfl dX5_rankOf_83 ⟨_, _, rfl, rfl, hw⟩
      · have hw := hw.2 c3
        by_cases c4 : p0 = (43 : Int32)
        · have hw := hw.1 c4
          refine Y_lookIn 80 (k := 43) (off := 79) c4 dX5_rankOf_1 (by decide) (by decide) rfl ?_
          refine X_iconst 81 (v := 3) dX5_rankOf_80 rfl rfl ?_
          exact X_ret rfl rfl dX5_rankOf_81 ⟨_, _, rfl, rfl, hw⟩
        · have hw := hw.2 c4
          by_cases c5 : p0 = (45 : Int32)
          · have hw := hw.1 c5
            refine Y_lookIn 80 (k := 45) (off := 79) c5 dX5_rankOf_1 (by decide) (by decide) rfl ?_
            refine X_iconst 81 (v := 3) dX5_rankOf_80 rfl rfl ?_
            exact X_ret rfl rfl dX5_rankOf_81 ⟨_, _, rfl, rfl, hw⟩
          · have hw := hw.2 c5
            by_cases c6 : p0 = (47 : Int32)
            · have hw := hw.1 c6
              refine Y_lookIn 82 (k := 47) (off := 81) c6 dX5_rankOf_1 (by decide) (by decide) rfl ?_
              refine X_iconst 83 (v := 4) dX5_rankOf_82 rfl rfl ?_
              exact X_ret rfl rfl dX5_rankOf_83 ⟨_, _, rfl, rfl, hw⟩
            · have hw := hw.2 c6
              by_cases c7 : p0 = (60 : Int32)
              · have hw := hw.1 c7
                refine Y_lookIn 78 (k := 60) (off := 77) c7 dX5_rankOf_1 (by decide) (by decide) rfl ?_
                refine X_iconst 79 (v := 2) dX5_rankOf_78 rfl rfl ?_
                exact X_ret rfl rfl dX5_rankOf_79 ⟨_, _, rfl, rfl, hw⟩
              · have hw := hw.2 c7
                by_cases c8 : p0 = (61 : Int32)
                · have hw := hw.1 c8
                  refine Y_lookIn 78 (k := 61) (off := 77) c8 dX5_rankOf_1 (by decide) (by decide) rfl ?_
                  refine X_iconst 79 (v := 2) dX5_rankOf_78 rfl rfl ?_
                  exact X_ret rfl rfl dX5_rankOf_79 ⟨_, _, rfl, rfl, hw⟩
                · have hw := hw.2 c8
                  refine X_lookup 84 dX5_rankOf_1 (by decide) ((lv_osw c1 (by decide)).trans ((lv_osw c2 (by decide)).trans ((lv_osw c3 (by decide)).trans ((lv_osw c4 (by decide)).trans ((lv_osw c5 (by decide)).trans ((lv_osw c6 (by decide)).trans ((lv_osw c7 (by decide)).trans ((lv_osw c8 (by decide)).trans rfl)))))))) rfl ?_
                  refine X_iconst 85 (v := 0) dX5_rankOf_84 rfl rfl ?_
                  exact X_ret rfl rfl dX5_rankOf_85 ⟨_, _, rfl, rfl, hw⟩
def w_X5_takeOperator_64 (L : Lay)  (K14 : Int32 → Mem → Prop) (v1 : Int32) (M : Mem) (Q : Int32 → Mem → Prop) : Prop := vp_in ((mi M 71 10) - (1 : Int32)) 64 ∧ (w_X5_emit L ((20000 : Int32) + (mi M 74 (tn ((mi M 71 10) - (1 : Int32))))) M (fun M17 => (∀ M18 : Mem, M18 = si M17 71 10 ((mi M17 71 10) - (1 : Int32)) → (K14 v1 M18))))
set_option maxRecDepth 20000 in
theorem t_X5_takeOperator_64 {L : Lay} (hL : LY L)   {K14 : Int32 → Mem → Prop} {v1 : Int32}  {M : Mem} {Q : Int32 → Mem → Prop} (hw : w_X5_takeOperator_64 L  K14 v1 M Q) (hK14 : ∀ (v1 : Int32) (M : Mem), K14 v1 M → X (FM (QZ L Q)) RX5 cX5_takeOperator (some .boolean) 2 "takeOperator" 2 0 0 (L, M) 14 [.ref 71, .int v1] []) : X (FM (QZ L Q)) RX5 cX5_takeOperator (some .boolean) 2 "takeOperator" 2 0 0 (L, M) 64 [.ref 71, .int v1] [] := by
  unfold w_X5_takeOperator_64 at hw
  refine X_aload_n 65 dX5_takeOperator_64 rfl rfl ?_
  refine X_sipush 68 (v := 20000) dX5_takeOperator_65 rfl rfl ?_
  refine X_aload_n 69 dX5_takeOperator_68 rfl rfl ?_
  refine X_getR 72 f_X5_19 (hL.ob (c := 5) (by decide) rfl) rfl (hL.rr (by decide) rfl) dX5_takeOperator_69 rfl ?_
  refine X_aload_n 73 dX5_takeOperator_72 rfl rfl ?_
  refine X_getI 76 f_X5_106 (hL.ob (c := 5) (by decide) rfl) rfl dX5_takeOperator_73 rfl ?_
  refine X_iconst 77 (v := 1) dX5_takeOperator_76 rfl rfl ?_
  refine X_isub 78 dX5_takeOperator_77 rfl ?_
  obtain ⟨c16, hw⟩ := hw
  refine Y_iald 79 (k := (tn ((mi M 71 10) - (1 : Int32)))) (hL.ar (t := 0) (n := 64) (by decide) rfl) c16 rfl dX5_takeOperator_78 rfl ?_
  refine X_iadd 80 dX5_takeOperator_79 rfl ?_
  refine Y_cVV 83 (as := [.int (((20000 : Int32) + (mi M 74 (tn ((mi M 71 10) - (1 : Int32))))))]) m_X5_129 (s_X5_emit hL  hw) (hL.ob (c := 5) (by decide) rfl) rfl (by decide) (Nat.le_of_ble_eq_true rfl) dX5_takeOperator_80 rfl rfl (fun M17 hw => ?_)
  refine X_aload_n 84 dX5_takeOperator_83 rfl rfl ?_
  refine X_dup 85 dX5_takeOperator_84 rfl rfl ?_
  refine X_getI 88 f_X5_106 (hL.ob (c := 5) (by decide) rfl) rfl dX5_takeOperator_85 rfl ?_
  refine X_iconst 89 (v := 1) dX5_takeOperator_88 rfl rfl ?_
  refine X_isub 90 dX5_takeOperator_89 rfl ?_
  refine X_putI 93 f_X5_106 (Or.inl rfl) (hL.ob (c := 5) (by decide) rfl) rfl dX5_takeOperator_90 rfl ?_
  refine X_nmM (fun M18 eM18 => ?_)
  have hw := hw M18 eM18
  refine X_goto 14 dX5_takeOperator_93 rfl ?_
  exact hK14 v1 M18 hw
def w_X5_takeOperator_96 (L : Lay)    (M : Mem) (Q : Int32 → Mem → Prop) : Prop := w_X5_pushWaiting L  M (fun M14 => (∀ M15 : Mem, M15 = si M14 71 11 (1 : Int32) → (Q (1 : Int32) M15)))
set_option maxRecDepth 20000 in
theorem t_X5_takeOperator_96 {L : Lay} (hL : LY L)      {M : Mem} {Q : Int32 → Mem → Prop} (hw : w_X5_takeOperator_96 L    M Q)  : X (FM (QZ L Q)) RX5 cX5_takeOperator (some .boolean) 2 "takeOperator" 2 0 0 (L, M) 96 [.ref 71, junk] [] := by
  unfold w_X5_takeOperator_96 at hw
  refine X_aload_n 97 dX5_takeOperator_96 rfl rfl ?_
  refine Y_cVV 100 (as := []) m_X5_138 (s_X5_pushWaiting hL  hw) (hL.ob (c := 5) (by decide) rfl) rfl (by decide) (Nat.le_of_ble_eq_true rfl) dX5_takeOperator_97 rfl rfl (fun M14 hw => ?_)
  refine X_aload_n 101 dX5_takeOperator_100 rfl rfl ?_
  refine X_iconst 102 (v := 1) dX5_takeOperator_101 rfl rfl ?_
  refine X_putZ 105 f_X5_109 (Or.inr rfl) (Or.inl rfl) (hL.ob (c := 5) (by decide) rfl) rfl dX5_takeOperator_102 rfl ?_
  refine X_nmM (fun M15 eM15 => ?_)
  have hw := hw M15 eM15
  refine X_iconst 106 (v := 1) dX5_takeOperator_105 rfl rfl ?_
  exact X_ret rfl (nar_bool (Or.inr rfl)) dX5_takeOperator_106 ⟨_, _, rfl, Or.inr rfl, rfl, hw⟩
def w_X5_takeOperator_14 (L : Lay)  (K14 : Int32 → Mem → Prop) (v1 : Int32) (M : Mem) (Q : Int32 → Mem → Prop) : Prop := ((0 < (mi M 71 10) → (vp_in ((mi M 71 10) - (1 : Int32)) 64 ∧ (w_X5_rankOf L (mi M 74 (tn ((mi M 71 10) - (1 : Int32)))) M (fun x7 M6 => (((x7 < v1 → (w_X5_takeOperator_96 L    M6 Q)) ∧ (¬ x7 < v1 → (((v1 = (2 : Int32) → (vp_in ((mi M6 71 10) - (1 : Int32)) 64 ∧ (w_X5_rankOf L (mi M6 74 (tn ((mi M6 71 10) - (1 : Int32)))) M6 (fun x12 M11 => (((x12 = (2 : Int32) → (Q (0 : Int32) M11)) ∧ (¬ x12 = (2 : Int32) → (w_X5_takeOperator_64 L  K14 v1 M11 Q)))))))) ∧ (¬ v1 = (2 : Int32) → (w_X5_takeOperator_64 L  K14 v1 M6 Q))))))))))) ∧ (¬ 0 < (mi M 71 10) → (w_X5_takeOperator_96 L    M Q)))
set_option maxRecDepth 20000 in
theorem t_X5_takeOperator_14 {L : Lay} (hL : LY L)   {K14 : Int32 → Mem → Prop} {v1 : Int32}  {M : Mem} {Q : Int32 → Mem → Prop} (hw : w_X5_takeOperator_14 L  K14 v1 M Q) (hK14 : ∀ (v1 : Int32) (M : Mem), K14 v1 M → X (FM (QZ L Q)) RX5 cX5_takeOperator (some .boolean) 2 "takeOperator" 2 0 0 (L, M) 14 [.ref 71, .int v1] []) : X (FM (QZ L Q)) RX5 cX5_takeOperator (some .boolean) 2 "takeOperator" 2 0 0 (L, M) 14 [.ref 71, .int v1] [] := by
  unfold w_X5_takeOperator_14 at hw
  refine X_aload_n 15 dX5_takeOperator_14 rfl rfl ?_
  refine X_getI 18 f_X5_106 (hL.ob (c := 5) (by decide) rfl) rfl dX5_takeOperator_15 rfl ?_
  refine X_if_le 96 21 (y := 0) dX5_takeOperator_18 rfl rfl (fun c4 => ?_) (fun c4 => ?_)
  · have hw := hw.2 c4
    refine X_weak (ls' := [.ref 71, junk]) (WK.s (WK.j WK.n)) (Nat.le_of_ble_eq_true rfl) ?_
    exact t_X5_takeOperator_96 hL   hw 
  · have hw := hw.1 c4
    refine X_aload_n 22 dX5_takeOperator_21 rfl rfl ?_
    refine X_getR 25 f_X5_19 (hL.ob (c := 5) (by decide) rfl) rfl (hL.rr (by decide) rfl) dX5_takeOperator_22 rfl ?_
    refine X_aload_n 26 dX5_takeOperator_25 rfl rfl ?_
    refine X_getI 29 f_X5_106 (hL.ob (c := 5) (by decide) rfl) rfl dX5_takeOperator_26 rfl ?_
    refine X_iconst 30 (v := 1) dX5_takeOperator_29 rfl rfl ?_
    refine X_isub 31 dX5_takeOperator_30 rfl ?_
    obtain ⟨c5, hw⟩ := hw
    refine Y_iald 32 (k := (tn ((mi M 71 10) - (1 : Int32)))) (hL.ar (t := 0) (n := 64) (by decide) rfl) c5 rfl dX5_takeOperator_31 rfl ?_
    refine Y_cSI 35 (as := [.int ((mi M 74 (tn ((mi M 71 10) - (1 : Int32)))))]) m_X5_144 (s_X5_rankOf hL  hw) rfl (by decide) (Nat.le_of_ble_eq_true rfl) dX5_takeOperator_32 rfl rfl (fun x7 M6 hw => ?_)
    refine X_iload_n 36 dX5_takeOperator_35 rfl rfl ?_
    refine X_icmp_lt 96 39 dX5_takeOperator_36 rfl rfl (fun c8 => ?_) (fun c8 => ?_)
    · have hw := hw.1 c8
      refine X_weak (ls' := [.ref 71, junk]) (WK.s (WK.j WK.n)) (Nat.le_of_ble_eq_true rfl) ?_
      exact t_X5_takeOperator_96 hL   hw 
    · have hw := hw.2 c8
      refine X_iload_n 40 dX5_takeOperator_39 rfl rfl ?_
      refine X_iconst 41 (v := 2) dX5_takeOperator_40 rfl rfl ?_
      refine X_icmp_ne 64 44 dX5_takeOperator_41 rfl rfl (fun c9 => ?_) (fun c9 => ?_)
      · have hw := hw.2 c9
        exact t_X5_takeOperator_64 hL   hw hK14
      · have hw := hw.1 c9
        refine X_aload_n 45 dX5_takeOperator_44 rfl rfl ?_
        refine X_getR 48 f_X5_19 (hL.ob (c := 5) (by decide) rfl) rfl (hL.rr (by decide) rfl) dX5_takeOperator_45 rfl ?_
        refine X_aload_n 49 dX5_takeOperator_48 rfl rfl ?_
        refine X_getI 52 f_X5_106 (hL.ob (c := 5) (by decide) rfl) rfl dX5_takeOperator_49 rfl ?_
        refine X_iconst 53 (v := 1) dX5_takeOperator_52 rfl rfl ?_
        refine X_isub 54 dX5_takeOperator_53 rfl ?_
        obtain ⟨c10, hw⟩ := hw
        refine Y_iald 55 (k := (tn ((mi M6 71 10) - (1 : Int32)))) (hL.ar (t := 0) (n := 64) (by decide) rfl) c10 rfl dX5_takeOperator_54 rfl ?_
        refine Y_cSI 58 (as := [.int ((mi M6 74 (tn ((mi M6 71 10) - (1 : Int32)))))]) m_X5_144 (s_X5_rankOf hL  hw) rfl (by decide) (Nat.le_of_ble_eq_true rfl) dX5_takeOperator_55 rfl rfl (fun x12 M11 hw => ?_)
        refine X_iconst 59 (v := 2) dX5_takeOperator_58 rfl rfl ?_
        refine X_icmp_ne 64 62 dX5_takeOperator_59 rfl rfl (fun c13 => ?_) (fun c13 => ?_)
        · have hw := hw.2 c13
          exact t_X5_takeOperator_64 hL   hw hK14
        · have hw := hw.1 c13
          refine X_iconst 63 (v := 0) dX5_takeOperator_62 rfl rfl ?_
          exact X_ret rfl (nar_bool (Or.inl rfl)) dX5_takeOperator_63 ⟨_, _, rfl, Or.inl rfl, rfl, hw⟩
def w_X5_takeOperator (L : Lay)  (M : Mem) (Q : Int32 → Mem → Prop) : Prop := w_X5_rankOf L (mi M 71 3) M (fun x2 M1 => (((x2 = 0 → (Q (0 : Int32) M1)) ∧ (¬ x2 = 0 → (LP2 (fun K14 v1 M => w_X5_takeOperator_14 L   K14 v1 M Q) x2 M1)))))
set_option maxRecDepth 20000 in
theorem s_X5_takeOperator {L : Lay} (hL : LY L)   {M : Mem} {Q : Int32 → Mem → Prop} (hw : w_X5_takeOperator L  M Q) : MX yX5_takeOperator cX5_takeOperator (some .boolean) 2 2 0 0 [.ref 71] (L, M) (QZ L Q) := by
  unfold w_X5_takeOperator at hw
  refine MX_of (by decide) [.ref 71, junk] (by rfl) (by exact Nat.le_of_ble_eq_true rfl) ?_
  show X (FM (QZ L Q)) RX5 cX5_takeOperator (some .boolean) 2 "takeOperator" 2 0 0 (L, M) 0 [.ref 71, junk] []
  refine X_aload_n 1 dX5_takeOperator_0 rfl rfl ?_
  refine X_getI 4 f_X5_34 (hL.ob (c := 5) (by decide) rfl) rfl dX5_takeOperator_1 rfl ?_
  refine Y_cSI 7 (as := [.int ((mi M 71 3))]) m_X5_144 (s_X5_rankOf hL  hw) rfl (by decide) (Nat.le_of_ble_eq_true rfl) dX5_takeOperator_4 rfl rfl (fun x2 M1 hw => ?_)
  refine X_istore_n 8 (ls' := [.ref 71, .int x2]) dX5_takeOperator_7 rfl rfl (Nat.le_of_ble_eq_true rfl) rfl (Or.inr (Or.inr ⟨_, rfl, rfl⟩)) ?_
  refine X_iload_n 9 dX5_takeOperator_8 rfl rfl ?_
  refine X_if_ne 14 12 (y := 0) dX5_takeOperator_9 rfl rfl (fun c3 => ?_) (fun c3 => ?_)
  · have hw := hw.2 c3
    exact LP2_s hw (G := fun v1 M => X (FM (QZ L Q)) RX5 cX5_takeOperator (some .boolean) 2 "takeOperator" 2 0 0 (L, M) 14 [.ref 71, .int v1] []) (fun K14 v1 M hb hK => t_X5_takeOperator_14 hL  hb  hK)
  · have hw := hw.1 c3
    refine X_iconst 13 (v := 0) dX5_takeOperator_12 rfl rfl ?_
    exact X_ret rfl (nar_bool (Or.inl rfl)) dX5_takeOperator_13 ⟨_, _, rfl, Or.inl rfl, rfl, hw⟩
def w_X5_start (L : Lay)  (M : Mem) (Q : Mem → Prop) : Prop := ∀ M1 : Mem, M1 = si M 71 2 (0 : Int32) → (∀ M2 : Mem, M2 = si M1 71 6 (0 : Int32) → (w_X5_next L  M2 (fun M3 => (Q M3))))
set_option maxRecDepth 20000 in
theorem s_X5_start {L : Lay} (hL : LY L)   {M : Mem} {Q : Mem → Prop} (hw : w_X5_start L  M Q) : MX yX5_start cX5_start none 1 8 0 0 [.ref 71] (L, M) (QV L Q) := by
  unfold w_X5_start at hw
  refine MX_of (by decide) [.ref 71] (by rfl) (by exact Nat.le_of_ble_eq_true rfl) ?_
  show X (FM (QV L Q)) RX5 cX5_start none 1 "start" 8 0 0 (L, M) 0 [.ref 71] []
  refine X_aload_n 1 dX5_start_0 rfl rfl ?_
  refine X_iconst 2 (v := 0) dX5_start_1 rfl rfl ?_
  refine X_putI 5 f_X5_37 (Or.inl rfl) (hL.ob (c := 5) (by decide) rfl) rfl dX5_start_2 rfl ?_
  refine X_nmM (fun M1 eM1 => ?_)
  have hw := hw M1 eM1
  refine X_aload_n 6 dX5_start_5 rfl rfl ?_
  refine X_iconst 7 (v := 0) dX5_start_6 rfl rfl ?_
  refine X_putI 10 f_X5_147 (Or.inl rfl) (hL.ob (c := 5) (by decide) rfl) rfl dX5_start_7 rfl ?_
  refine X_nmM (fun M2 eM2 => ?_)
  have hw := hw M2 eM2
  refine X_aload_n 11 dX5_start_10 rfl rfl ?_
  refine Y_cVV 14 (as := []) m_X5_55 (s_X5_next hL  hw) (hL.ob (c := 5) (by decide) rfl) rfl (by decide) (Nat.le_of_ble_eq_true rfl) dX5_start_11 rfl rfl (fun M3 hw => ?_)
  exact X_retV rfl dX5_start_14 ⟨_, rfl, rfl, hw⟩
