-- printed walks (by program: wip/whole/gen.py)
def w_X5_init (th : Nat) (L : Lay) (rc rs : Nat) (M : Mem) (Q : Lay → Mem → Prop) : Prop := 1 ≤ rc ∧ (1000 ≤ rs ∧ (∀ (L3 : Lay) (M4 : Mem), (L3, M4) = alc (L, M) (23, 1000) → (∀ L6 : Lay, L6 = sr L3 th 0 (some (L.1)) → (1 ≤ (rc - 1) ∧ (1000 ≤ (rs - 1000) ∧ (∀ (L9 : Lay) (M10 : Mem), (L9, M10) = alc (L6, M4) (20, 1000) → (∀ L12 : Lay, L12 = sr L9 th 7 (some (L6.1)) → (1 ≤ ((rc - 1) - 1) ∧ (64 ≤ ((rs - 1000) - 1000) ∧ (∀ (L15 : Lay) (M16 : Mem), (L15, M16) = alc (L12, M10) (20, 64) → (∀ L18 : Lay, L18 = sr L15 th 9 (some (L12.1)) → (Q L18 M16))))))))))))
set_option maxRecDepth 20000 in
theorem s_X5_init {L : Lay} {th : Nat} {rc rs : Nat} {M : Mem} {Q : Lay → Mem → Prop} (hhth : OB L th 5) (hw : w_X5_init th L rc rs M Q) : MX yX5_init cX5_init none 1 2 rc rs [.ref th] (L, M) (QC L Q) := by
  unfold w_X5_init at hw
  obtain ⟨L0, eL0⟩ : ∃ L0, L0 = L := ⟨L, rfl⟩
  rw [show QC L Q = QC L0 Q from by rw [eL0]]
  refine MX_of (by decide) [.ref th] (by rfl) (by exact Nat.le_of_ble_eq_true rfl) ?_
  show X (FM (QC L0 Q)) RX5 cX5_init none 1 "<init>" 2 rc rs (L, M) 0 [.ref th] []
  refine X_aload_n 1 dX5_init_0 rfl rfl ?_
  refine X_objInit 4 l_X5_3 oi_i oi_c (by decide) (Nat.le_of_ble_eq_true rfl) dX5_init_1 rfl ?_
  refine X_aload_n 5 dX5_init_4 rfl rfl ?_
  refine X_sipush 8 (v := 1000) dX5_init_5 rfl rfl ?_
  obtain ⟨c1, hw⟩ := hw
  obtain ⟨c2, hw⟩ := hw
  refine X_newa 10 (t := 3) (n := 1000) (by decide) rfl ac3 (by decide) (by decide) (by decide) c1 c2 dX5_init_8 rfl ?_
  refine X_nmH (fun L3 M4 e5 => ?_)
  have hw := hw L3 M4 e5
  have obL3 := AR.of_alc e5
  have leL3 := LE.of_alc e5
  have hhth := leL3.ob hhth
  refine X_putR (x := (some (L.1))) 13 f_X5_9 (Or.inr ⟨_, rfl⟩) (Or.inr ⟨rfl, _, _, _, cb5⟩) hhth rfl dX5_init_10 rfl ?_
  refine X_nmLy (fun L6 eL6 => ?_)
  have hw := hw L6 eL6
  have hhth := (SRE.mk eL6).ob hhth
  refine X_aload_n 14 dX5_init_13 rfl rfl ?_
  refine X_sipush 17 (v := 1000) dX5_init_14 rfl rfl ?_
  obtain ⟨c7, hw⟩ := hw
  obtain ⟨c8, hw⟩ := hw
  refine X_newa 19 (t := 0) (n := 1000) (by decide) rfl ac0 (by decide) (by decide) (by decide) c7 c8 dX5_init_17 rfl ?_
  refine X_nmH (fun L9 M10 e11 => ?_)
  have hw := hw L9 M10 e11
  have obL9 := AR.of_alc e11
  have leL9 := LE.of_alc e11
  have hhth := leL9.ob hhth
  refine X_putR (x := (some (L6.1))) 22 f_X5_15 (Or.inr ⟨_, rfl⟩) (Or.inr ⟨rfl, _, _, _, cb5⟩) hhth rfl dX5_init_19 rfl ?_
  refine X_nmLy (fun L12 eL12 => ?_)
  have hw := hw L12 eL12
  have hhth := (SRE.mk eL12).ob hhth
  refine X_aload_n 23 dX5_init_22 rfl rfl ?_
  refine X_bipush 25 (v := 64) dX5_init_23 rfl rfl ?_
  obtain ⟨c13, hw⟩ := hw
  obtain ⟨c14, hw⟩ := hw
  refine X_newa 27 (t := 0) (n := 64) (by decide) rfl ac0 (by decide) (by decide) (by decide) c13 c14 dX5_init_25 rfl ?_
  refine X_nmH (fun L15 M16 e17 => ?_)
  have hw := hw L15 M16 e17
  have obL15 := AR.of_alc e17
  have leL15 := LE.of_alc e17
  have hhth := leL15.ob hhth
  refine X_putR (x := (some (L12.1))) 30 f_X5_19 (Or.inr ⟨_, rfl⟩) (Or.inr ⟨rfl, _, _, _, cb5⟩) hhth rfl dX5_init_27 rfl ?_
  refine X_nmLy (fun L18 eL18 => ?_)
  have hw := hw L18 eL18
  have hhth := (SRE.mk eL18).ob hhth
  exact X_retV rfl dX5_init_30 ⟨_, _, rfl, rfl, hw⟩
def w_X5_addBytes_3 (L : Lay) (p0 : Int64) (K3 : Int32 → Mem → Prop) (v3 : Int32) (M : Mem) (Q : Mem → Prop) : Prop := ((v3 < 0 → (Q M)) ∧ (¬ v3 < 0 → (∀ x2 : Int32, x2 = ((jlushr p0 v3) &&& (255 : Int64)).toInt32 → (∀ x3 : Int32, x3 = (if x2 = (10 : Int32) then (1 : Int32) else (if x2 < (32 : Int32) then (0 : Int32) else (if (126 : Int32) < x2 then (0 : Int32) else (1 : Int32)))) → (((x3 = 0 → (∀ x5 : Int32, x5 = v3 + (-8 : Int32) → (K3 x5 M))) ∧ (¬ x3 = 0 → ((((mi M 71 1) < (nI 1000) → (vp_in (mi M 71 1) 1000 ∧ (∀ M9 : Mem, M9 = si M 72 (tn (mi M 71 1)) (narC (jchr x2)) → (∀ M10 : Mem, M10 = si M9 71 1 ((mi M9 71 1) + (1 : Int32)) → (∀ x11 : Int32, x11 = v3 + (-8 : Int32) → (K3 x11 M10)))))) ∧ (¬ (mi M 71 1) < (nI 1000) → (∀ x7 : Int32, x7 = v3 + (-8 : Int32) → (K3 x7 M))))))))))))
set_option maxRecDepth 20000 in
theorem t_X5_addBytes_3 {L : Lay} (hL : LY L) {p0 : Int64}  {K3 : Int32 → Mem → Prop} {v3 : Int32}  {M : Mem} {Q : Mem → Prop} (hw : w_X5_addBytes_3 L p0 K3 v3 M Q) (hK3 : ∀ (v3 : Int32) (M : Mem), K3 v3 M → X (FM (QV L Q)) RX5 cX5_addBytes none 6 "addBytes" 1 0 0 (L, M) 3 [.ref 71, .long p0, junk, .int v3, junk, junk] []) : X (FM (QV L Q)) RX5 cX5_addBytes none 6 "addBytes" 1 0 0 (L, M) 3 [.ref 71, .long p0, junk, .int v3, junk, junk] [] := by
  unfold w_X5_addBytes_3 at hw
  refine X_iload_n 4 dX5_addBytes_3 rfl rfl ?_
  refine X_if_lt 90 7 (y := 0) dX5_addBytes_4 rfl rfl (fun c1 => ?_) (fun c1 => ?_)
  · have hw := hw.1 c1
    exact X_retV rfl dX5_addBytes_90 ⟨_, rfl, rfl, hw⟩
  · have hw := hw.2 c1
    refine X_lload_n 8 dX5_addBytes_7 rfl rfl ?_
    refine X_iload_n 9 dX5_addBytes_8 rfl rfl ?_
    refine Y_lushr 10 dX5_addBytes_9 rfl ?_
    refine X_ldc2 13 dX5_addBytes_10 rfl k_X5_22 ?_
    refine X_land 14 dX5_addBytes_13 rfl ?_
    refine X_l2i 15 dX5_addBytes_14 rfl ?_
    refine X_nmI (fun x2 ex2 => ?_)
    have hw := hw x2 ex2
    refine X_istore 17 (ls' := [.ref 71, .long p0, junk, .int v3, .int x2, junk]) dX5_addBytes_15 rfl (Nat.le_of_ble_eq_true rfl) rfl (Or.inr (Or.inr ⟨_, rfl, rfl⟩)) ?_
    refine X_iload 19 dX5_addBytes_17 rfl rfl ?_
    refine X_bipush 21 (v := 10) dX5_addBytes_19 rfl rfl ?_
    obtain ⟨x3, ex3⟩ : ∃ x3 : Int32, x3 = (if x2 = (10 : Int32) then (1 : Int32) else (if x2 < (32 : Int32) then (0 : Int32) else (if (126 : Int32) < x2 then (0 : Int32) else (1 : Int32)))) := ⟨_, rfl⟩
    have hw := hw x3 ex3
    have bx3 : BZ x3 := by rw [ex3]; (repeat' split) <;> first | exact Or.inl rfl | exact Or.inr rfl
    have hJ : X (FM (QV L Q)) RX5 cX5_addBytes none 6 "addBytes" 1 0 0 (L, M) 43 [.ref 71, .long p0, junk, .int v3, .int x2, junk] [.int x3] := by
      refine X_istore 45 (ls' := [.ref 71, .long p0, junk, .int v3, .int x2, .int x3]) dX5_addBytes_43 rfl (Nat.le_of_ble_eq_true rfl) rfl (Or.inr (Or.inr ⟨_, rfl, rfl⟩)) ?_
      refine X_iload 47 dX5_addBytes_45 rfl rfl ?_
      refine X_if_eq 84 50 (y := 0) dX5_addBytes_47 rfl rfl (fun c4 => ?_) (fun c4 => ?_)
      · have hw := hw.1 c4
        obtain ⟨x5, ex5⟩ : ∃ x5 : Int32, x5 = v3 + (-8 : Int32) := ⟨_, rfl⟩
        have hw := hw x5 ex5
        refine X_iinc 87 (v := x5) (ls' := [.ref 71, .long p0, junk, .int x5, .int x2, .int x3]) dX5_addBytes_84 rfl rfl (by rw [ex5]; rfl) rfl (Or.inr (Or.inl rfl)) ?_
        refine X_goto 3 dX5_addBytes_87 rfl ?_
        refine X_weak (ls' := [.ref 71, .long p0, junk, .int x5, junk, junk]) (WK.s (WK.s (WK.s (WK.s (WK.j (WK.j WK.n)))))) (Nat.le_of_ble_eq_true rfl) ?_
        exact hK3 x5 M hw
      · have hw := hw.2 c4
        refine X_aload_n 51 dX5_addBytes_50 rfl rfl ?_
        refine X_getI 54 f_X5_24 (hL.ob (c := 5) (by decide) rfl) rfl dX5_addBytes_51 rfl ?_
        refine X_aload_n 55 dX5_addBytes_54 rfl rfl ?_
        refine X_getR 58 f_X5_9 (hL.ob (c := 5) (by decide) rfl) rfl (hL.rr (by decide) rfl) dX5_addBytes_55 rfl ?_
        refine X_alen 59 (t := 3) (by decide) (hL.ar (t := 3) (n := 1000) (by decide) rfl) dX5_addBytes_58 rfl ?_
        refine X_icmp_ge 84 62 dX5_addBytes_59 rfl rfl (fun c6 => ?_) (fun c6 => ?_)
        · have hw := hw.2 c6
          obtain ⟨x7, ex7⟩ : ∃ x7 : Int32, x7 = v3 + (-8 : Int32) := ⟨_, rfl⟩
          have hw := hw x7 ex7
          refine X_iinc 87 (v := x7) (ls' := [.ref 71, .long p0, junk, .int x7, .int x2, .int x3]) dX5_addBytes_84 rfl rfl (by rw [ex7]; rfl) rfl (Or.inr (Or.inl rfl)) ?_
          refine X_goto 3 dX5_addBytes_87 rfl ?_
          refine X_weak (ls' := [.ref 71, .long p0, junk, .int x7, junk, junk]) (WK.s (WK.s (WK.s (WK.s (WK.j (WK.j WK.n)))))) (Nat.le_of_ble_eq_true rfl) ?_
          exact hK3 x7 M hw
        · have hw := hw.1 c6
          refine X_aload_n 63 dX5_addBytes_62 rfl rfl ?_
          refine X_getR 66 f_X5_9 (hL.ob (c := 5) (by decide) rfl) rfl (hL.rr (by decide) rfl) dX5_addBytes_63 rfl ?_
          refine X_aload_n 67 dX5_addBytes_66 rfl rfl ?_
          refine X_getI 70 f_X5_24 (hL.ob (c := 5) (by decide) rfl) rfl dX5_addBytes_67 rfl ?_
          refine X_iload 72 dX5_addBytes_70 rfl rfl ?_
          refine Y_i2c 73 dX5_addBytes_72 rfl ?_
          obtain ⟨c8, hw⟩ := hw
          refine Y_cast 74 (k := (tn (mi M 71 1))) (hL.ar (t := 3) (n := 1000) (by decide) rfl) c8 rfl dX5_addBytes_73 rfl ?_
          refine X_nmM (fun M9 eM9 => ?_)
          have hw := hw M9 eM9
          refine X_aload_n 75 dX5_addBytes_74 rfl rfl ?_
          refine X_dup 76 dX5_addBytes_75 rfl rfl ?_
          refine X_getI 79 f_X5_24 (hL.ob (c := 5) (by decide) rfl) rfl dX5_addBytes_76 rfl ?_
          refine X_iconst 80 (v := 1) dX5_addBytes_79 rfl rfl ?_
          refine X_iadd 81 dX5_addBytes_80 rfl ?_
          refine X_putI 84 f_X5_24 (Or.inl rfl) (hL.ob (c := 5) (by decide) rfl) rfl dX5_addBytes_81 rfl ?_
          refine X_nmM (fun M10 eM10 => ?_)
          have hw := hw M10 eM10
          obtain ⟨x11, ex11⟩ : ∃ x11 : Int32, x11 = v3 + (-8 : Int32) := ⟨_, rfl⟩
          have hw := hw x11 ex11
          refine X_iinc 87 (v := x11) (ls' := [.ref 71, .long p0, junk, .int x11, .int x2, .int x3]) dX5_addBytes_84 rfl rfl (by rw [ex11]; rfl) rfl (Or.inr (Or.inl rfl)) ?_
          refine X_goto 3 dX5_addBytes_87 rfl ?_
          refine X_weak (ls' := [.ref 71, .long p0, junk, .int x11, junk, junk]) (WK.s (WK.s (WK.s (WK.s (WK.j (WK.j WK.n)))))) (Nat.le_of_ble_eq_true rfl) ?_
          exact hK3 x11 M10 hw
    refine X_icmp_eq 38 24 dX5_addBytes_21 rfl rfl (fun c12 => ?_) (fun c12 => ?_)
    · refine X_iconst 39 (v := 1) dX5_addBytes_38 rfl rfl ?_
      refine X_goto 43 dX5_addBytes_39 rfl ?_
      rw [if_pos c12] at ex3
      rw [ex3] at hJ
      exact hJ
    · refine X_iload 26 dX5_addBytes_24 rfl rfl ?_
      refine X_bipush 28 (v := 32) dX5_addBytes_26 rfl rfl ?_
      refine X_icmp_lt 42 31 dX5_addBytes_28 rfl rfl (fun c13 => ?_) (fun c13 => ?_)
      · refine X_iconst 43 (v := 0) dX5_addBytes_42 rfl rfl ?_
        rw [if_neg c12, if_pos c13] at ex3
        rw [ex3] at hJ
        exact hJ
      · refine X_iload 33 dX5_addBytes_31 rfl rfl ?_
        refine X_bipush 35 (v := 126) dX5_addBytes_33 rfl rfl ?_
        refine X_icmp_gt 42 38 dX5_addBytes_35 rfl rfl (fun c14 => ?_) (fun c14 => ?_)
        · refine X_iconst 43 (v := 0) dX5_addBytes_42 rfl rfl ?_
          rw [if_neg c12, if_neg c13, if_pos c14] at ex3
          rw [ex3] at hJ
          exact hJ
        · refine X_iconst 39 (v := 1) dX5_addBytes_38 rfl rfl ?_
          refine X_goto 43 dX5_addBytes_39 rfl ?_
          rw [if_neg c12, if_neg c13, if_neg c14] at ex3
          rw [ex3] at hJ
          exact hJ
def w_X5_addBytes (L : Lay) (p0 : Int64) (M : Mem) (Q : Mem → Prop) : Prop := LP2 (fun K3 v3 M => w_X5_addBytes_3 L p0  K3 v3 M Q) (56 : Int32) M
set_option maxRecDepth 20000 in
theorem s_X5_addBytes {L : Lay} (hL : LY L) {p0 : Int64}  {M : Mem} {Q : Mem → Prop} (hw : w_X5_addBytes L p0 M Q) : MX yX5_addBytes cX5_addBytes none 6 1 0 0 [.ref 71, .long p0] (L, M) (QV L Q) := by
  unfold w_X5_addBytes at hw
  refine MX_of (by decide) [.ref 71, .long p0, junk, junk, junk, junk] (by rfl) (by exact Nat.le_of_ble_eq_true rfl) ?_
  show X (FM (QV L Q)) RX5 cX5_addBytes none 6 "addBytes" 1 0 0 (L, M) 0 [.ref 71, .long p0, junk, junk, junk, junk] []
  refine X_bipush 2 (v := 56) dX5_addBytes_0 rfl rfl ?_
  refine X_istore_n 3 (ls' := [.ref 71, .long p0, junk, .int (56 : Int32), junk, junk]) dX5_addBytes_2 rfl rfl (Nat.le_of_ble_eq_true rfl) rfl (Or.inr (Or.inl rfl)) ?_
  exact LP2_s hw (G := fun v3 M => X (FM (QV L Q)) RX5 cX5_addBytes none 6 "addBytes" 1 0 0 (L, M) 3 [.ref 71, .long p0, junk, .int v3, junk, junk] []) (fun K3 v3 M hb hK => t_X5_addBytes_3 hL  hb  hK)
def w_X5_isLetter (L : Lay) (p0 : Int32) (M : Mem) (Q : Int32 → Mem → Prop) : Prop := ∀ x1 : Int32, x1 = (if p0 < (97 : Int32) then (0 : Int32) else (if (122 : Int32) < p0 then (0 : Int32) else (1 : Int32))) → (Q x1 M)
set_option maxRecDepth 20000 in
theorem s_X5_isLetter {L : Lay} (hL : LY L) {p0 : Int32}  {M : Mem} {Q : Int32 → Mem → Prop} (hw : w_X5_isLetter L p0 M Q) : MX yX5_isLetter cX5_isLetter (some .boolean) 1 1 0 0 [.int p0] (L, M) (QZ L Q) := by
  unfold w_X5_isLetter at hw
  refine MX_of (by decide) [.int p0] (by rfl) (by exact Nat.le_of_ble_eq_true rfl) ?_
  show X (FM (QZ L Q)) RX5 cX5_isLetter (some .boolean) 1 "isLetter" 1 0 0 (L, M) 0 [.int p0] []
  refine X_iload_n 1 dX5_isLetter_0 rfl rfl ?_
  refine X_bipush 3 (v := 97) dX5_isLetter_1 rfl rfl ?_
  obtain ⟨x1, ex1⟩ : ∃ x1 : Int32, x1 = (if p0 < (97 : Int32) then (0 : Int32) else (if (122 : Int32) < p0 then (0 : Int32) else (1 : Int32))) := ⟨_, rfl⟩
  have hw := hw x1 ex1
  have bx1 : BZ x1 := by rw [ex1]; (repeat' split) <;> first | exact Or.inl rfl | exact Or.inr rfl
  have hJ : X (FM (QZ L Q)) RX5 cX5_isLetter (some .boolean) 1 "isLetter" 1 0 0 (L, M) 17 [.int p0] [.int x1] := by
    exact X_ret rfl (nar_bool (bx1)) dX5_isLetter_17 ⟨_, _, rfl, bx1, rfl, hw⟩
  refine X_icmp_lt 16 6 dX5_isLetter_3 rfl rfl (fun c2 => ?_) (fun c2 => ?_)
  · refine X_iconst 17 (v := 0) dX5_isLetter_16 rfl rfl ?_
    rw [if_pos c2] at ex1
    rw [ex1] at hJ
    exact hJ
  · refine X_iload_n 7 dX5_isLetter_6 rfl rfl ?_
    refine X_bipush 9 (v := 122) dX5_isLetter_7 rfl rfl ?_
    refine X_icmp_gt 16 12 dX5_isLetter_9 rfl rfl (fun c3 => ?_) (fun c3 => ?_)
    · refine X_iconst 17 (v := 0) dX5_isLetter_16 rfl rfl ?_
      rw [if_neg c2, if_pos c3] at ex1
      rw [ex1] at hJ
      exact hJ
    · refine X_iconst 13 (v := 1) dX5_isLetter_12 rfl rfl ?_
      refine X_goto 17 dX5_isLetter_13 rfl ?_
      rw [if_neg c2, if_neg c3] at ex1
      rw [ex1] at hJ
      exact hJ
def w_X5_isWord_37 (L : Lay) (p0 : Int32) (K2 : Int32 → Mem → Prop) (v2 : Int32) (y0 : Int32) (M : Mem) (Q : Int32 → Mem → Prop) : Prop := vp_in ((p0 * (8 : Int32)) + v2) 216 ∧ ((((jword ((p0 * (8 : Int32)) + v2)) = y0 → (∀ x6 : Int32, x6 = v2 + (1 : Int32) → (K2 x6 M))) ∧ (¬ (jword ((p0 * (8 : Int32)) + v2)) = y0 → (Q (0 : Int32) M))))
set_option maxRecDepth 20000 in
theorem t_X5_isWord_37 {L : Lay} (hL : LY L) {p0 : Int32}  {K2 : Int32 → Mem → Prop} {v2 : Int32} {y0 : Int32}  {M : Mem} {Q : Int32 → Mem → Prop} (hw : w_X5_isWord_37 L p0 K2 v2 y0 M Q) (hK2 : ∀ (v2 : Int32) (M : Mem), K2 v2 M → X (FM (QZ L Q)) RX5 cX5_isWord (some .boolean) 4 "isWord" 5 0 0 (L, M) 2 [.ref 71, .int p0, .int v2, junk] []) : X (FM (QZ L Q)) RX5 cX5_isWord (some .boolean) 4 "isWord" 5 0 0 (L, M) 37 [.ref 71, .int p0, .int v2, junk] [.int y0] := by
  unfold w_X5_isWord_37 at hw
  refine X_istore_n 38 (ls' := [.ref 71, .int p0, .int v2, .int y0]) dX5_isWord_37 rfl rfl (Nat.le_of_ble_eq_true rfl) rfl (Or.inr (Or.inr ⟨_, rfl, rfl⟩)) ?_
  refine X_ldcT 40 (i := 2) dX5_isWord_38 rfl (by decide) (by decide) ?_
  refine X_iload_n 41 dX5_isWord_40 rfl rfl ?_
  refine X_bipush 43 (v := 8) dX5_isWord_41 rfl rfl ?_
  refine X_imul 44 dX5_isWord_43 rfl ?_
  refine X_iload_n 45 dX5_isWord_44 rfl rfl ?_
  refine X_iadd 46 dX5_isWord_45 rfl ?_
  obtain ⟨c4, hw⟩ := hw
  refine Y_charAt 49 c4 (by decide) (Nat.le_of_ble_eq_true rfl) dX5_isWord_46 rfl ?_
  refine X_iload_n 50 dX5_isWord_49 rfl rfl ?_
  refine X_icmp_eq 55 53 dX5_isWord_50 rfl rfl (fun c5 => ?_) (fun c5 => ?_)
  · have hw := hw.1 c5
    obtain ⟨x6, ex6⟩ : ∃ x6 : Int32, x6 = v2 + (1 : Int32) := ⟨_, rfl⟩
    have hw := hw x6 ex6
    refine X_iinc 58 (v := x6) (ls' := [.ref 71, .int p0, .int x6, .int y0]) dX5_isWord_55 rfl rfl (by rw [ex6]; rfl) rfl (Or.inr (Or.inr ⟨_, rfl, rfl⟩)) ?_
    refine X_goto 2 dX5_isWord_58 rfl ?_
    refine X_weak (ls' := [.ref 71, .int p0, .int x6, junk]) (WK.s (WK.s (WK.s (WK.j WK.n)))) (Nat.le_of_ble_eq_true rfl) ?_
    exact hK2 x6 M hw
  · have hw := hw.2 c5
    refine X_iconst 54 (v := 0) dX5_isWord_53 rfl rfl ?_
    exact X_ret rfl (nar_bool (Or.inl rfl)) dX5_isWord_54 ⟨_, _, rfl, Or.inl rfl, rfl, hw⟩
def w_X5_isWord_2 (L : Lay) (p0 : Int32) (K2 : Int32 → Mem → Prop) (v2 : Int32) (M : Mem) (Q : Int32 → Mem → Prop) : Prop := ((v2 < (8 : Int32) → (((((mi M 71 5) + v2) < (mi M 71 6) → (vp_in ((mi M 71 5) + v2) 1000 ∧ (w_X5_isWord_37 L p0 K2 v2 (mi M 72 (tn ((mi M 71 5) + v2))) M Q))) ∧ (¬ ((mi M 71 5) + v2) < (mi M 71 6) → (w_X5_isWord_37 L p0 K2 v2 (32 : Int32) M Q))))) ∧ (¬ v2 < (8 : Int32) → (Q (1 : Int32) M)))
set_option maxRecDepth 20000 in
theorem t_X5_isWord_2 {L : Lay} (hL : LY L) {p0 : Int32}  {K2 : Int32 → Mem → Prop} {v2 : Int32}  {M : Mem} {Q : Int32 → Mem → Prop} (hw : w_X5_isWord_2 L p0 K2 v2 M Q) (hK2 : ∀ (v2 : Int32) (M : Mem), K2 v2 M → X (FM (QZ L Q)) RX5 cX5_isWord (some .boolean) 4 "isWord" 5 0 0 (L, M) 2 [.ref 71, .int p0, .int v2, junk] []) : X (FM (QZ L Q)) RX5 cX5_isWord (some .boolean) 4 "isWord" 5 0 0 (L, M) 2 [.ref 71, .int p0, .int v2, junk] [] := by
  unfold w_X5_isWord_2 at hw
  refine X_iload_n 3 dX5_isWord_2 rfl rfl ?_
  refine X_bipush 5 (v := 8) dX5_isWord_3 rfl rfl ?_
  refine X_icmp_ge 61 8 dX5_isWord_5 rfl rfl (fun c1 => ?_) (fun c1 => ?_)
  · have hw := hw.2 c1
    refine X_iconst 62 (v := 1) dX5_isWord_61 rfl rfl ?_
    exact X_ret rfl (nar_bool (Or.inr rfl)) dX5_isWord_62 ⟨_, _, rfl, Or.inr rfl, rfl, hw⟩
  · have hw := hw.1 c1
    refine X_aload_n 9 dX5_isWord_8 rfl rfl ?_
    refine X_getI 12 f_X5_100 (hL.ob (c := 5) (by decide) rfl) rfl dX5_isWord_9 rfl ?_
    refine X_iload_n 13 dX5_isWord_12 rfl rfl ?_
    refine X_iadd 14 dX5_isWord_13 rfl ?_
    refine X_aload_n 15 dX5_isWord_14 rfl rfl ?_
    refine X_getI 18 f_X5_147 (hL.ob (c := 5) (by decide) rfl) rfl dX5_isWord_15 rfl ?_
    refine X_icmp_ge 35 21 dX5_isWord_18 rfl rfl (fun c2 => ?_) (fun c2 => ?_)
    · have hw := hw.2 c2
      refine X_bipush 37 (v := 32) dX5_isWord_35 rfl rfl ?_
      exact t_X5_isWord_37 hL   hw hK2
    · have hw := hw.1 c2
      refine X_aload_n 22 dX5_isWord_21 rfl rfl ?_
      refine X_getR 25 f_X5_9 (hL.ob (c := 5) (by decide) rfl) rfl (hL.rr (by decide) rfl) dX5_isWord_22 rfl ?_
      refine X_aload_n 26 dX5_isWord_25 rfl rfl ?_
      refine X_getI 29 f_X5_100 (hL.ob (c := 5) (by decide) rfl) rfl dX5_isWord_26 rfl ?_
      refine X_iload_n 30 dX5_isWord_29 rfl rfl ?_
      refine X_iadd 31 dX5_isWord_30 rfl ?_
      obtain ⟨c3, hw⟩ := hw
      refine Y_cald 32 (k := (tn ((mi M 71 5) + v2))) (hL.ar (t := 3) (n := 1000) (by decide) rfl) c3 rfl dX5_isWord_31 rfl ?_
      refine X_goto 37 dX5_isWord_32 rfl ?_
      exact t_X5_isWord_37 hL   hw hK2
def w_X5_isWord (L : Lay) (p0 : Int32) (M : Mem) (Q : Int32 → Mem → Prop) : Prop := LP2 (fun K2 v2 M => w_X5_isWord_2 L p0  K2 v2 M Q) (0 : Int32) M
set_option maxRecDepth 20000 in
theorem s_X5_isWord {L : Lay} (hL : LY L) {p0 : Int32}  {M : Mem} {Q : Int32 → Mem → Prop} (hw : w_X5_isWord L p0 M Q) : MX yX5_isWord cX5_isWord (some .boolean) 4 5 0 0 [.ref 71, .int p0] (L, M) (QZ L Q) := by
  unfold w_X5_isWord at hw
  refine MX_of (by decide) [.ref 71, .int p0, junk, junk] (by rfl) (by exact Nat.le_of_ble_eq_true rfl) ?_
  show X (FM (QZ L Q)) RX5 cX5_isWord (some .boolean) 4 "isWord" 5 0 0 (L, M) 0 [.ref 71, .int p0, junk, junk] []
  refine X_iconst 1 (v := 0) dX5_isWord_0 rfl rfl ?_
  refine X_istore_n 2 (ls' := [.ref 71, .int p0, .int (0 : Int32), junk]) dX5_isWord_1 rfl rfl (Nat.le_of_ble_eq_true rfl) rfl (Or.inr (Or.inr ⟨_, rfl, rfl⟩)) ?_
  exact LP2_s hw (G := fun v2 M => X (FM (QZ L Q)) RX5 cX5_isWord (some .boolean) 4 "isWord" 5 0 0 (L, M) 2 [.ref 71, .int p0, .int v2, junk] []) (fun K2 v2 M hb hK => t_X5_isWord_2 hL  hb  hK)
def w_X5_takeWord_47 (L : Lay)  (K47 : Int32 → Mem → Prop) (v1 : Int32) (M : Mem) (Q : Mem → Prop) : Prop := (((26 : Int32) < v1 → (Q M)) ∧ (¬ (26 : Int32) < v1 → ((((8 : Int32) < ((mi M 71 6) - (mi M 71 5)) → (Q M)) ∧ (¬ (8 : Int32) < ((mi M 71 6) - (mi M 71 5)) → (w_X5_isWord L v1 M (fun x11 M10 => (((x11 = 0 → (∀ x13 : Int32, x13 = v1 + (1 : Int32) → (K47 x13 M10))) ∧ (¬ x11 = 0 → (∀ M14 : Mem, M14 = si M10 71 3 v1 → (Q M14))))))))))))
set_option maxRecDepth 20000 in
theorem t_X5_takeWord_47 {L : Lay} (hL : LY L)   {K47 : Int32 → Mem → Prop} {v1 : Int32}  {M : Mem} {Q : Mem → Prop} (hw : w_X5_takeWord_47 L  K47 v1 M Q) (hK47 : ∀ (v1 : Int32) (M : Mem), K47 v1 M → X (FM (QV L Q)) RX5 cX5_takeWord none 2 "takeWord" 6 0 0 (L, M) 47 [.ref 71, .int v1] []) : X (FM (QV L Q)) RX5 cX5_takeWord none 2 "takeWord" 6 0 0 (L, M) 47 [.ref 71, .int v1] [] := by
  unfold w_X5_takeWord_47 at hw
  refine X_iload_n 48 dX5_takeWord_47 rfl rfl ?_
  refine X_bipush 50 (v := 26) dX5_takeWord_48 rfl rfl ?_
  refine X_icmp_gt 87 53 dX5_takeWord_50 rfl rfl (fun c8 => ?_) (fun c8 => ?_)
  · have hw := hw.1 c8
    exact X_retV rfl dX5_takeWord_87 ⟨_, rfl, rfl, hw⟩
  · have hw := hw.2 c8
    refine X_aload_n 54 dX5_takeWord_53 rfl rfl ?_
    refine X_getI 57 f_X5_147 (hL.ob (c := 5) (by decide) rfl) rfl dX5_takeWord_54 rfl ?_
    refine X_aload_n 58 dX5_takeWord_57 rfl rfl ?_
    refine X_getI 61 f_X5_100 (hL.ob (c := 5) (by decide) rfl) rfl dX5_takeWord_58 rfl ?_
    refine X_isub 62 dX5_takeWord_61 rfl ?_
    refine X_bipush 64 (v := 8) dX5_takeWord_62 rfl rfl ?_
    refine X_icmp_gt 87 67 dX5_takeWord_64 rfl rfl (fun c9 => ?_) (fun c9 => ?_)
    · have hw := hw.1 c9
      exact X_retV rfl dX5_takeWord_87 ⟨_, rfl, rfl, hw⟩
    · have hw := hw.2 c9
      refine X_aload_n 68 dX5_takeWord_67 rfl rfl ?_
      refine X_iload_n 69 dX5_takeWord_68 rfl rfl ?_
      refine Y_cVZ 72 (as := [.int v1]) m_X5_170 (s_X5_isWord hL  hw) (hL.ob (c := 5) (by decide) rfl) rfl (by decide) (Nat.le_of_ble_eq_true rfl) dX5_takeWord_69 rfl rfl (fun x11 M10 bx11 hw => ?_)
      refine X_if_eq 81 75 (y := 0) dX5_takeWord_72 rfl rfl (fun c12 => ?_) (fun c12 => ?_)
      · have hw := hw.1 c12
        obtain ⟨x13, ex13⟩ : ∃ x13 : Int32, x13 = v1 + (1 : Int32) := ⟨_, rfl⟩
        have hw := hw x13 ex13
        refine X_iinc 84 (v := x13) (ls' := [.ref 71, .int x13]) dX5_takeWord_81 rfl rfl (by rw [ex13]; rfl) rfl (Or.inr (Or.inr ⟨_, rfl, rfl⟩)) ?_
        refine X_goto 47 dX5_takeWord_84 rfl ?_
        exact hK47 x13 M10 hw
      · have hw := hw.2 c12
        refine X_aload_n 76 dX5_takeWord_75 rfl rfl ?_
        refine X_iload_n 77 dX5_takeWord_76 rfl rfl ?_
        refine X_putI 80 f_X5_34 (Or.inl rfl) (hL.ob (c := 5) (by decide) rfl) rfl dX5_takeWord_77 rfl ?_
        refine X_nmM (fun M14 eM14 => ?_)
        have hw := hw M14 eM14
        exact X_retV rfl dX5_takeWord_80 ⟨_, rfl, rfl, hw⟩
def w_X5_takeWord_39 (L : Lay)    (M : Mem) (Q : Mem → Prop) : Prop := ∀ M7 : Mem, M7 = si M 71 3 (31 : Int32) → (LP2 (fun K47 v1 M => w_X5_takeWord_47 L   K47 v1 M Q) (0 : Int32) M7)
set_option maxRecDepth 20000 in
theorem t_X5_takeWord_39 {L : Lay} (hL : LY L)      {M : Mem} {Q : Mem → Prop} (hw : w_X5_takeWord_39 L    M Q)  : X (FM (QV L Q)) RX5 cX5_takeWord none 2 "takeWord" 6 0 0 (L, M) 39 [.ref 71, junk] [] := by
  unfold w_X5_takeWord_39 at hw
  refine X_aload_n 40 dX5_takeWord_39 rfl rfl ?_
  refine X_bipush 42 (v := 31) dX5_takeWord_40 rfl rfl ?_
  refine X_putI 45 f_X5_34 (Or.inl rfl) (hL.ob (c := 5) (by decide) rfl) rfl dX5_takeWord_42 rfl ?_
  refine X_nmM (fun M7 eM7 => ?_)
  have hw := hw M7 eM7
  refine X_iconst 46 (v := 0) dX5_takeWord_45 rfl rfl ?_
  refine X_istore_n 47 (ls' := [.ref 71, .int (0 : Int32)]) dX5_takeWord_46 rfl rfl (Nat.le_of_ble_eq_true rfl) rfl (Or.inr (Or.inr ⟨_, rfl, rfl⟩)) ?_
  exact LP2_s hw (G := fun v1 M => X (FM (QV L Q)) RX5 cX5_takeWord none 2 "takeWord" 6 0 0 (L, M) 47 [.ref 71, .int v1] []) (fun K47 v1 M hb hK => t_X5_takeWord_47 hL  hb  hK)
def w_X5_takeWord_0 (L : Lay)  (K0 : Mem → Prop)  (M : Mem) (Q : Mem → Prop) : Prop := (((mi M 71 6) < (mi M 71 1) → (vp_in (mi M 71 6) 1000 ∧ (w_X5_isLetter L (mi M 72 (tn (mi M 71 6))) M (fun x4 M3 => (((x4 = 0 → (w_X5_takeWord_39 L    M3 Q)) ∧ (¬ x4 = 0 → (∀ M6 : Mem, M6 = si M3 71 6 ((mi M3 71 6) + (1 : Int32)) → (K0  M6))))))))) ∧ (¬ (mi M 71 6) < (mi M 71 1) → (w_X5_takeWord_39 L    M Q)))
set_option maxRecDepth 20000 in
theorem t_X5_takeWord_0 {L : Lay} (hL : LY L)   {K0 : Mem → Prop}   {M : Mem} {Q : Mem → Prop} (hw : w_X5_takeWord_0 L  K0  M Q) (hK0 : ∀  (M : Mem), K0  M → X (FM (QV L Q)) RX5 cX5_takeWord none 2 "takeWord" 6 0 0 (L, M) 0 [.ref 71, junk] []) : X (FM (QV L Q)) RX5 cX5_takeWord none 2 "takeWord" 6 0 0 (L, M) 0 [.ref 71, junk] [] := by
  unfold w_X5_takeWord_0 at hw
  refine X_aload_n 1 dX5_takeWord_0 rfl rfl ?_
  refine X_getI 4 f_X5_147 (hL.ob (c := 5) (by decide) rfl) rfl dX5_takeWord_1 rfl ?_
  refine X_aload_n 5 dX5_takeWord_4 rfl rfl ?_
  refine X_getI 8 f_X5_24 (hL.ob (c := 5) (by decide) rfl) rfl dX5_takeWord_5 rfl ?_
  refine X_icmp_ge 39 11 dX5_takeWord_8 rfl rfl (fun c1 => ?_) (fun c1 => ?_)
  · have hw := hw.2 c1
    exact t_X5_takeWord_39 hL   hw 
  · have hw := hw.1 c1
    refine X_aload_n 12 dX5_takeWord_11 rfl rfl ?_
    refine X_getR 15 f_X5_9 (hL.ob (c := 5) (by decide) rfl) rfl (hL.rr (by decide) rfl) dX5_takeWord_12 rfl ?_
    refine X_aload_n 16 dX5_takeWord_15 rfl rfl ?_
    refine X_getI 19 f_X5_147 (hL.ob (c := 5) (by decide) rfl) rfl dX5_takeWord_16 rfl ?_
    obtain ⟨c2, hw⟩ := hw
    refine Y_cald 20 (k := (tn (mi M 71 6))) (hL.ar (t := 3) (n := 1000) (by decide) rfl) c2 rfl dX5_takeWord_19 rfl ?_
    refine Y_cSZ 23 (as := [.int ((mi M 72 (tn (mi M 71 6))))]) m_X5_150 (s_X5_isLetter hL  hw) rfl (by decide) (Nat.le_of_ble_eq_true rfl) dX5_takeWord_20 rfl rfl (fun x4 M3 bx4 hw => ?_)
    refine X_if_eq 39 26 (y := 0) dX5_takeWord_23 rfl rfl (fun c5 => ?_) (fun c5 => ?_)
    · have hw := hw.1 c5
      exact t_X5_takeWord_39 hL   hw 
    · have hw := hw.2 c5
      refine X_aload_n 27 dX5_takeWord_26 rfl rfl ?_
      refine X_dup 28 dX5_takeWord_27 rfl rfl ?_
      refine X_getI 31 f_X5_147 (hL.ob (c := 5) (by decide) rfl) rfl dX5_takeWord_28 rfl ?_
      refine X_iconst 32 (v := 1) dX5_takeWord_31 rfl rfl ?_
      refine X_iadd 33 dX5_takeWord_32 rfl ?_
      refine X_putI 36 f_X5_147 (Or.inl rfl) (hL.ob (c := 5) (by decide) rfl) rfl dX5_takeWord_33 rfl ?_
      refine X_nmM (fun M6 eM6 => ?_)
      have hw := hw M6 eM6
      refine X_goto 0 dX5_takeWord_36 rfl ?_
      exact hK0  M6 hw
def w_X5_takeWord (L : Lay)  (M : Mem) (Q : Mem → Prop) : Prop := LP1 (fun K0  M => w_X5_takeWord_0 L   K0  M Q)  M
set_option maxRecDepth 20000 in
theorem s_X5_takeWord {L : Lay} (hL : LY L)   {M : Mem} {Q : Mem → Prop} (hw : w_X5_takeWord L  M Q) : MX yX5_takeWord cX5_takeWord none 2 6 0 0 [.ref 71] (L, M) (QV L Q) := by
  unfold w_X5_takeWord at hw
  refine MX_of (by decide) [.ref 71, junk] (by rfl) (by exact Nat.le_of_ble_eq_true rfl) ?_
  show X (FM (QV L Q)) RX5 cX5_takeWord none 2 "takeWord" 6 0 0 (L, M) 0 [.ref 71, junk] []
  exact LP1_s hw (G := fun  M => X (FM (QV L Q)) RX5 cX5_takeWord none 2 "takeWord" 6 0 0 (L, M) 0 [.ref 71, junk] []) (fun K0  M hb hK => t_X5_takeWord_0 hL  hb  hK)
def w_X5_isDigit (L : Lay) (p0 : Int32) (M : Mem) (Q : Int32 → Mem → Prop) : Prop := ∀ x1 : Int32, x1 = (if p0 < (48 : Int32) then (0 : Int32) else (if (57 : Int32) < p0 then (0 : Int32) else (1 : Int32))) → (Q x1 M)
set_option maxRecDepth 20000 in
theorem s_X5_isDigit {L : Lay} (hL : LY L) {p0 : Int32}  {M : Mem} {Q : Int32 → Mem → Prop} (hw : w_X5_isDigit L p0 M Q) : MX yX5_isDigit cX5_isDigit (some .boolean) 1 1 0 0 [.int p0] (L, M) (QZ L Q) := by
  unfold w_X5_isDigit at hw
  refine MX_of (by decide) [.int p0] (by rfl) (by exact Nat.le_of_ble_eq_true rfl) ?_
  show X (FM (QZ L Q)) RX5 cX5_isDigit (some .boolean) 1 "isDigit" 1 0 0 (L, M) 0 [.int p0] []
  refine X_iload_n 1 dX5_isDigit_0 rfl rfl ?_
  refine X_bipush 3 (v := 48) dX5_isDigit_1 rfl rfl ?_
  obtain ⟨x1, ex1⟩ : ∃ x1 : Int32, x1 = (if p0 < (48 : Int32) then (0 : Int32) else (if (57 : Int32) < p0 then (0 : Int32) else (1 : Int32))) := ⟨_, rfl⟩
  have hw := hw x1 ex1
  have bx1 : BZ x1 := by rw [ex1]; (repeat' split) <;> first | exact Or.inl rfl | exact Or.inr rfl
  have hJ : X (FM (QZ L Q)) RX5 cX5_isDigit (some .boolean) 1 "isDigit" 1 0 0 (L, M) 17 [.int p0] [.int x1] := by
    exact X_ret rfl (nar_bool (bx1)) dX5_isDigit_17 ⟨_, _, rfl, bx1, rfl, hw⟩
  refine X_icmp_lt 16 6 dX5_isDigit_3 rfl rfl (fun c2 => ?_) (fun c2 => ?_)
  · refine X_iconst 17 (v := 0) dX5_isDigit_16 rfl rfl ?_
    rw [if_pos c2] at ex1
    rw [ex1] at hJ
    exact hJ
  · refine X_iload_n 7 dX5_isDigit_6 rfl rfl ?_
    refine X_bipush 9 (v := 57) dX5_isDigit_7 rfl rfl ?_
    refine X_icmp_gt 16 12 dX5_isDigit_9 rfl rfl (fun c3 => ?_) (fun c3 => ?_)
    · refine X_iconst 17 (v := 0) dX5_isDigit_16 rfl rfl ?_
      rw [if_neg c2, if_pos c3] at ex1
      rw [ex1] at hJ
      exact hJ
    · refine X_iconst 13 (v := 1) dX5_isDigit_12 rfl rfl ?_
      refine X_goto 17 dX5_isDigit_13 rfl ?_
      rw [if_neg c2, if_neg c3] at ex1
      rw [ex1] at hJ
      exact hJ
def w_X5_takeNumber_68 (L : Lay)    (M : Mem) (Q : Mem → Prop) : Prop := ∀ x10 : Int32, x10 = (if (4 : Int32) < ((mi M 71 6) - (mi M 71 5)) then (31 : Int32) else (30 : Int32)) → (∀ M11 : Mem, M11 = si M 71 3 x10 → (Q M11))
set_option maxRecDepth 20000 in
theorem t_X5_takeNumber_68 {L : Lay} (hL : LY L)      {M : Mem} {Q : Mem → Prop} (hw : w_X5_takeNumber_68 L    M Q)  : X (FM (QV L Q)) RX5 cX5_takeNumber none 1 "takeNumber" 2 0 0 (L, M) 68 [.ref 71] [] := by
  unfold w_X5_takeNumber_68 at hw
  refine X_aload_n 69 dX5_takeNumber_68 rfl rfl ?_
  refine X_aload_n 70 dX5_takeNumber_69 rfl rfl ?_
  refine X_getI 73 f_X5_147 (hL.ob (c := 5) (by decide) rfl) rfl dX5_takeNumber_70 rfl ?_
  refine X_aload_n 74 dX5_takeNumber_73 rfl rfl ?_
  refine X_getI 77 f_X5_100 (hL.ob (c := 5) (by decide) rfl) rfl dX5_takeNumber_74 rfl ?_
  refine X_isub 78 dX5_takeNumber_77 rfl ?_
  refine X_iconst 79 (v := 4) dX5_takeNumber_78 rfl rfl ?_
  obtain ⟨x10, ex10⟩ : ∃ x10 : Int32, x10 = (if (4 : Int32) < ((mi M 71 6) - (mi M 71 5)) then (31 : Int32) else (30 : Int32)) := ⟨_, rfl⟩
  have hw := hw x10 ex10
  have hJ : X (FM (QV L Q)) RX5 cX5_takeNumber none 1 "takeNumber" 2 0 0 (L, M) 89 [.ref 71] [.int x10, .ref 71] := by
    refine X_putI 92 f_X5_34 (Or.inl rfl) (hL.ob (c := 5) (by decide) rfl) rfl dX5_takeNumber_89 rfl ?_
    refine X_nmM (fun M11 eM11 => ?_)
    have hw := hw M11 eM11
    exact X_retV rfl dX5_takeNumber_92 ⟨_, rfl, rfl, hw⟩
  refine X_icmp_le 87 82 dX5_takeNumber_79 rfl rfl (fun c12 => ?_) (fun c12 => ?_)
  · refine X_bipush 89 (v := 30) dX5_takeNumber_87 rfl rfl ?_
    rw [if_neg c12] at ex10
    rw [ex10] at hJ
    exact hJ
  · refine X_bipush 84 (v := 31) dX5_takeNumber_82 rfl rfl ?_
    refine X_goto 89 dX5_takeNumber_84 rfl ?_
    rw [if_pos c12] at ex10
    rw [ex10] at hJ
    exact hJ
def w_X5_takeNumber_5 (L : Lay)  (K5 : Mem → Prop)  (M : Mem) (Q : Mem → Prop) : Prop := (((mi M 71 6) < (mi M 71 1) → (vp_in (mi M 71 6) 1000 ∧ (w_X5_isDigit L (mi M 72 (tn (mi M 71 6))) M (fun x5 M4 => (((x5 = 0 → (w_X5_takeNumber_68 L    M4 Q)) ∧ (¬ x5 = 0 → (vp_in (mi M4 71 6) 1000 ∧ (∀ M8 : Mem, M8 = si M4 71 4 (((mi M4 71 4) * (10 : Int32)) + ((mi M4 72 (tn (mi M4 71 6))) - (48 : Int32))) → (∀ M9 : Mem, M9 = si M8 71 6 ((mi M8 71 6) + (1 : Int32)) → (K5  M9))))))))))) ∧ (¬ (mi M 71 6) < (mi M 71 1) → (w_X5_takeNumber_68 L    M Q)))
set_option maxRecDepth 20000 in
theorem t_X5_takeNumber_5 {L : Lay} (hL : LY L)   {K5 : Mem → Prop}   {M : Mem} {Q : Mem → Prop} (hw : w_X5_takeNumber_5 L  K5  M Q) (hK5 : ∀  (M : Mem), K5  M → X (FM (QV L Q)) RX5 cX5_takeNumber none 1 "takeNumber" 2 0 0 (L, M) 5 [.ref 71] []) : X (FM (QV L Q)) RX5 cX5_takeNumber none 1 "takeNumber" 2 0 0 (L, M) 5 [.ref 71] [] := by
  unfold w_X5_takeNumber_5 at hw
  refine X_aload_n 6 dX5_takeNumber_5 rfl rfl ?_
  refine X_getI 9 f_X5_147 (hL.ob (c := 5) (by decide) rfl) rfl dX5_takeNumber_6 rfl ?_
  refine X_aload_n 10 dX5_takeNumber_9 rfl rfl ?_
  refine X_getI 13 f_X5_24 (hL.ob (c := 5) (by decide) rfl) rfl dX5_takeNumber_10 rfl ?_
  refine X_icmp_ge 68 16 dX5_takeNumber_13 rfl rfl (fun c2 => ?_) (fun c2 => ?_)
  · have hw := hw.2 c2
    exact t_X5_takeNumber_68 hL   hw 
  · have hw := hw.1 c2
    refine X_aload_n 17 dX5_takeNumber_16 rfl rfl ?_
    refine X_getR 20 f_X5_9 (hL.ob (c := 5) (by decide) rfl) rfl (hL.rr (by decide) rfl) dX5_takeNumber_17 rfl ?_
    refine X_aload_n 21 dX5_takeNumber_20 rfl rfl ?_
    refine X_getI 24 f_X5_147 (hL.ob (c := 5) (by decide) rfl) rfl dX5_takeNumber_21 rfl ?_
    obtain ⟨c3, hw⟩ := hw
    refine Y_cald 25 (k := (tn (mi M 71 6))) (hL.ar (t := 3) (n := 1000) (by decide) rfl) c3 rfl dX5_takeNumber_24 rfl ?_
    refine Y_cSZ 28 (as := [.int ((mi M 72 (tn (mi M 71 6))))]) m_X5_157 (s_X5_isDigit hL  hw) rfl (by decide) (Nat.le_of_ble_eq_true rfl) dX5_takeNumber_25 rfl rfl (fun x5 M4 bx5 hw => ?_)
    refine X_if_eq 68 31 (y := 0) dX5_takeNumber_28 rfl rfl (fun c6 => ?_) (fun c6 => ?_)
    · have hw := hw.1 c6
      exact t_X5_takeNumber_68 hL   hw 
    · have hw := hw.2 c6
      refine X_aload_n 32 dX5_takeNumber_31 rfl rfl ?_
      refine X_aload_n 33 dX5_takeNumber_32 rfl rfl ?_
      refine X_getI 36 f_X5_97 (hL.ob (c := 5) (by decide) rfl) rfl dX5_takeNumber_33 rfl ?_
      refine X_bipush 38 (v := 10) dX5_takeNumber_36 rfl rfl ?_
      refine X_imul 39 dX5_takeNumber_38 rfl ?_
      refine X_aload_n 40 dX5_takeNumber_39 rfl rfl ?_
      refine X_getR 43 f_X5_9 (hL.ob (c := 5) (by decide) rfl) rfl (hL.rr (by decide) rfl) dX5_takeNumber_40 rfl ?_
      refine X_aload_n 44 dX5_takeNumber_43 rfl rfl ?_
      refine X_getI 47 f_X5_147 (hL.ob (c := 5) (by decide) rfl) rfl dX5_takeNumber_44 rfl ?_
      obtain ⟨c7, hw⟩ := hw
      refine Y_cald 48 (k := (tn (mi M4 71 6))) (hL.ar (t := 3) (n := 1000) (by decide) rfl) c7 rfl dX5_takeNumber_47 rfl ?_
      refine X_bipush 50 (v := 48) dX5_takeNumber_48 rfl rfl ?_
      refine X_isub 51 dX5_takeNumber_50 rfl ?_
      refine X_iadd 52 dX5_takeNumber_51 rfl ?_
      refine X_putI 55 f_X5_97 (Or.inl rfl) (hL.ob (c := 5) (by decide) rfl) rfl dX5_takeNumber_52 rfl ?_
      refine X_nmM (fun M8 eM8 => ?_)
      have hw := hw M8 eM8
      refine X_aload_n 56 dX5_takeNumber_55 rfl rfl ?_
      refine X_dup 57 dX5_takeNumber_56 rfl rfl ?_
      refine X_getI 60 f_X5_147 (hL.ob (c := 5) (by decide) rfl) rfl dX5_takeNumber_57 rfl ?_
      refine X_iconst 61 (v := 1) dX5_takeNumber_60 rfl rfl ?_
      refine X_iadd 62 dX5_takeNumber_61 rfl ?_
      refine X_putI 65 f_X5_147 (Or.inl rfl) (hL.ob (c := 5) (by decide) rfl) rfl dX5_takeNumber_62 rfl ?_
      refine X_nmM (fun M9 eM9 => ?_)
      have hw := hw M9 eM9
      refine X_goto 5 dX5_takeNumber_65 rfl ?_
      exact hK5  M9 hw
def w_X5_takeNumber (L : Lay)  (M : Mem) (Q : Mem → Prop) : Prop := ∀ M1 : Mem, M1 = si M 71 4 (0 : Int32) → (LP1 (fun K5  M => w_X5_takeNumber_5 L   K5  M Q)  M1)
set_option maxRecDepth 20000 in
theorem s_X5_takeNumber {L : Lay} (hL : LY L)   {M : Mem} {Q : Mem → Prop} (hw : w_X5_takeNumber L  M Q) : MX yX5_takeNumber cX5_takeNumber none 1 2 0 0 [.ref 71] (L, M) (QV L Q) := by
  unfold w_X5_takeNumber at hw
  refine MX_of (by decide) [.ref 71] (by rfl) (by exact Nat.le_of_ble_eq_true rfl) ?_
  show X (FM (QV L Q)) RX5 cX5_takeNumber none 1 "takeNumber" 2 0 0 (L, M) 0 [.ref 71] []
  refine X_aload_n 1 dX5_takeNumber_0 rfl rfl ?_
  refine X_iconst 2 (v := 0) dX5_takeNumber_1 rfl rfl ?_
  refine X_putI 5 f_X5_97 (Or.inl rfl) (hL.ob (c := 5) (by decide) rfl) rfl dX5_takeNumber_2 rfl ?_
  refine X_nmM (fun M1 eM1 => ?_)
  have hw := hw M1 eM1
  exact LP1_s hw (G := fun  M => X (FM (QV L Q)) RX5 cX5_takeNumber none 1 "takeNumber" 2 0 0 (L, M) 5 [.ref 71] []) (fun K5  M hb hK => t_X5_takeNumber_5 hL  hb  hK)
def w_X5_next_39 (L : Lay)  (K0 : Mem → Prop)  (M : Mem) (Q : Mem → Prop) : Prop := ∀ M23 : Mem, M23 = si M 71 6 ((mi M 71 6) + (1 : Int32)) → (K0  M23)
set_option maxRecDepth 20000 in
theorem t_X5_next_39 {L : Lay} (hL : LY L)   {K0 : Mem → Prop}   {M : Mem} {Q : Mem → Prop} (hw : w_X5_next_39 L  K0  M Q) (hK0 : ∀  (M : Mem), K0  M → X (FM (QV L Q)) RX5 cX5_next none 1 "next" 7 0 0 (L, M) 0 [.ref 71] []) : X (FM (QV L Q)) RX5 cX5_next none 1 "next" 7 0 0 (L, M) 39 [.ref 71] [] := by
  unfold w_X5_next_39 at hw
  refine X_aload_n 40 dX5_next_39 rfl rfl ?_
  refine X_dup 41 dX5_next_40 rfl rfl ?_
  refine X_getI 44 f_X5_147 (hL.ob (c := 5) (by decide) rfl) rfl dX5_next_41 rfl ?_
  refine X_iconst 45 (v := 1) dX5_next_44 rfl rfl ?_
  refine X_iadd 46 dX5_next_45 rfl ?_
  refine X_putI 49 f_X5_147 (Or.inl rfl) (hL.ob (c := 5) (by decide) rfl) rfl dX5_next_46 rfl ?_
  refine X_nmM (fun M23 eM23 => ?_)
  have hw := hw M23 eM23
  refine X_goto 0 dX5_next_49 rfl ?_
  exact hK0  M23 hw
def w_X5_next_52 (L : Lay)    (M : Mem) (Q : Mem → Prop) : Prop := ∀ M5 : Mem, M5 = si M 71 5 (mi M 71 6) → ((((mi M5 71 5) < (mi M5 71 1) → (vp_in (mi M5 71 5) 1000 ∧ (w_X5_isLetter L (mi M5 72 (tn (mi M5 71 5))) M5 (fun x9 M8 => (((x9 = 0 → (vp_in (mi M8 71 5) 1000 ∧ (w_X5_isDigit L (mi M8 72 (tn (mi M8 71 5))) M8 (fun x13 M12 => (((x13 = 0 → (∀ M15 : Mem, M15 = si M12 71 6 ((mi M12 71 6) + (1 : Int32)) → (vp_in (mi M15 71 5) 1000 ∧ ((((jsign (mi M15 72 (tn (mi M15 71 5)))) < 0 → (∀ M18 : Mem, M18 = si M15 71 3 (31 : Int32) → (Q M18))) ∧ (¬ (jsign (mi M15 72 (tn (mi M15 71 5)))) < 0 → (∀ M19 : Mem, M19 = si M15 71 3 (mi M15 72 (tn (mi M15 71 5))) → (Q M19)))))))) ∧ (¬ x13 = 0 → (w_X5_takeNumber L  M12 (fun M20 => (Q M20)))))))))) ∧ (¬ x9 = 0 → (w_X5_takeWord L  M8 (fun M21 => (Q M21)))))))))) ∧ (¬ (mi M5 71 5) < (mi M5 71 1) → (∀ M22 : Mem, M22 = si M5 71 3 (32 : Int32) → (Q M22)))))
set_option maxRecDepth 20000 in
theorem t_X5_next_52 {L : Lay} (hL : LY L)      {M : Mem} {Q : Mem → Prop} (hw : w_X5_next_52 L    M Q)  : X (FM (QV L Q)) RX5 cX5_next none 1 "next" 7 0 0 (L, M) 52 [.ref 71] [] := by
  unfold w_X5_next_52 at hw
  refine X_aload_n 53 dX5_next_52 rfl rfl ?_
  refine X_aload_n 54 dX5_next_53 rfl rfl ?_
  refine X_getI 57 f_X5_147 (hL.ob (c := 5) (by decide) rfl) rfl dX5_next_54 rfl ?_
  refine X_putI 60 f_X5_100 (Or.inl rfl) (hL.ob (c := 5) (by decide) rfl) rfl dX5_next_57 rfl ?_
  refine X_nmM (fun M5 eM5 => ?_)
  have hw := hw M5 eM5
  refine X_aload_n 61 dX5_next_60 rfl rfl ?_
  refine X_getI 64 f_X5_100 (hL.ob (c := 5) (by decide) rfl) rfl dX5_next_61 rfl ?_
  refine X_aload_n 65 dX5_next_64 rfl rfl ?_
  refine X_getI 68 f_X5_24 (hL.ob (c := 5) (by decide) rfl) rfl dX5_next_65 rfl ?_
  refine X_icmp_lt 80 71 dX5_next_68 rfl rfl (fun c6 => ?_) (fun c6 => ?_)
  · have hw := hw.1 c6
    refine X_aload_n 81 dX5_next_80 rfl rfl ?_
    refine X_getR 84 f_X5_9 (hL.ob (c := 5) (by decide) rfl) rfl (hL.rr (by decide) rfl) dX5_next_81 rfl ?_
    refine X_aload_n 85 dX5_next_84 rfl rfl ?_
    refine X_getI 88 f_X5_100 (hL.ob (c := 5) (by decide) rfl) rfl dX5_next_85 rfl ?_
    obtain ⟨c7, hw⟩ := hw
    refine Y_cald 89 (k := (tn (mi M5 71 5))) (hL.ar (t := 3) (n := 1000) (by decide) rfl) c7 rfl dX5_next_88 rfl ?_
    refine Y_cSZ 92 (as := [.int ((mi M5 72 (tn (mi M5 71 5))))]) m_X5_150 (s_X5_isLetter hL  hw) rfl (by decide) (Nat.le_of_ble_eq_true rfl) dX5_next_89 rfl rfl (fun x9 M8 bx9 hw => ?_)
    refine X_if_eq 102 95 (y := 0) dX5_next_92 rfl rfl (fun c10 => ?_) (fun c10 => ?_)
    · have hw := hw.1 c10
      refine X_aload_n 103 dX5_next_102 rfl rfl ?_
      refine X_getR 106 f_X5_9 (hL.ob (c := 5) (by decide) rfl) rfl (hL.rr (by decide) rfl) dX5_next_103 rfl ?_
      refine X_aload_n 107 dX5_next_106 rfl rfl ?_
      refine X_getI 110 f_X5_100 (hL.ob (c := 5) (by decide) rfl) rfl dX5_next_107 rfl ?_
      obtain ⟨c11, hw⟩ := hw
      refine Y_cald 111 (k := (tn (mi M8 71 5))) (hL.ar (t := 3) (n := 1000) (by decide) rfl) c11 rfl dX5_next_110 rfl ?_
      refine Y_cSZ 114 (as := [.int ((mi M8 72 (tn (mi M8 71 5))))]) m_X5_157 (s_X5_isDigit hL  hw) rfl (by decide) (Nat.le_of_ble_eq_true rfl) dX5_next_111 rfl rfl (fun x13 M12 bx13 hw => ?_)
      refine X_if_eq 124 117 (y := 0) dX5_next_114 rfl rfl (fun c14 => ?_) (fun c14 => ?_)
      · have hw := hw.1 c14
        refine X_aload_n 125 dX5_next_124 rfl rfl ?_
        refine X_dup 126 dX5_next_125 rfl rfl ?_
        refine X_getI 129 f_X5_147 (hL.ob (c := 5) (by decide) rfl) rfl dX5_next_126 rfl ?_
        refine X_iconst 130 (v := 1) dX5_next_129 rfl rfl ?_
        refine X_iadd 131 dX5_next_130 rfl ?_
        refine X_putI 134 f_X5_147 (Or.inl rfl) (hL.ob (c := 5) (by decide) rfl) rfl dX5_next_131 rfl ?_
        refine X_nmM (fun M15 eM15 => ?_)
        have hw := hw M15 eM15
        refine X_aload_n 135 dX5_next_134 rfl rfl ?_
        refine X_ldcT 137 (i := 1) dX5_next_135 rfl (by decide) (by decide) ?_
        refine X_aload_n 138 dX5_next_137 rfl rfl ?_
        refine X_getR 141 f_X5_9 (hL.ob (c := 5) (by decide) rfl) rfl (hL.rr (by decide) rfl) dX5_next_138 rfl ?_
        refine X_aload_n 142 dX5_next_141 rfl rfl ?_
        refine X_getI 145 f_X5_100 (hL.ob (c := 5) (by decide) rfl) rfl dX5_next_142 rfl ?_
        obtain ⟨c16, hw⟩ := hw
        refine Y_cald 146 (k := (tn (mi M15 71 5))) (hL.ar (t := 3) (n := 1000) (by decide) rfl) c16 rfl dX5_next_145 rfl ?_
        refine Y_indexOf 149 (by decide) (Nat.le_of_ble_eq_true rfl) dX5_next_146 rfl ?_
        refine X_if_lt 164 152 (y := 0) dX5_next_149 rfl rfl (fun c17 => ?_) (fun c17 => ?_)
        · have hw := hw.1 c17
          refine X_bipush 166 (v := 31) dX5_next_164 rfl rfl ?_
          refine X_putI 169 f_X5_34 (Or.inl rfl) (hL.ob (c := 5) (by decide) rfl) rfl dX5_next_166 rfl ?_
          refine X_nmM (fun M18 eM18 => ?_)
          have hw := hw M18 eM18
          exact X_retV rfl dX5_next_169 ⟨_, rfl, rfl, hw⟩
        · have hw := hw.2 c17
          refine X_aload_n 153 dX5_next_152 rfl rfl ?_
          refine X_getR 156 f_X5_9 (hL.ob (c := 5) (by decide) rfl) rfl (hL.rr (by decide) rfl) dX5_next_153 rfl ?_
          refine X_aload_n 157 dX5_next_156 rfl rfl ?_
          refine X_getI 160 f_X5_100 (hL.ob (c := 5) (by decide) rfl) rfl dX5_next_157 rfl ?_
          refine Y_cald 161 (k := (tn (mi M15 71 5))) (hL.ar (t := 3) (n := 1000) (by decide) rfl) c16 rfl dX5_next_160 rfl ?_
          refine X_goto 166 dX5_next_161 rfl ?_
          refine X_putI 169 f_X5_34 (Or.inl rfl) (hL.ob (c := 5) (by decide) rfl) rfl dX5_next_166 rfl ?_
          refine X_nmM (fun M19 eM19 => ?_)
          have hw := hw M19 eM19
          exact X_retV rfl dX5_next_169 ⟨_, rfl, rfl, hw⟩
      · have hw := hw.2 c14
        refine X_aload_n 118 dX5_next_117 rfl rfl ?_
        refine Y_cVV 121 (as := []) m_X5_160 (s_X5_takeNumber hL  hw) (hL.ob (c := 5) (by decide) rfl) rfl (by decide) (Nat.le_of_ble_eq_true rfl) dX5_next_118 rfl rfl (fun M20 hw => ?_)
        refine X_goto 169 dX5_next_121 rfl ?_
        exact X_retV rfl dX5_next_169 ⟨_, rfl, rfl, hw⟩
    · have hw := hw.2 c10
      refine X_aload_n 96 dX5_next_95 rfl rfl ?_
      refine Y_cVV 99 (as := []) m_X5_154 (s_X5_takeWord hL  hw) (hL.ob (c := 5) (by decide) rfl) rfl (by decide) (Nat.le_of_ble_eq_true rfl) dX5_next_96 rfl rfl (fun M21 hw => ?_)
      refine X_goto 169 dX5_next_99 rfl ?_
      exact X_retV rfl dX5_next_169 ⟨_, rfl, rfl, hw⟩
  · have hw := hw.2 c6
    refine X_aload_n 72 dX5_next_71 rfl rfl ?_
    refine X_bipush 74 (v := 32) dX5_next_72 rfl rfl ?_
    refine X_putI 77 f_X5_34 (Or.inl rfl) (hL.ob (c := 5) (by decide) rfl) rfl dX5_next_74 rfl ?_
    refine X_nmM (fun M22 eM22 => ?_)
    have hw := hw M22 eM22
    refine X_goto 169 dX5_next_77 rfl ?_
    exact X_retV rfl dX5_next_169 ⟨_, rfl, rfl, hw⟩
def w_X5_next_0 (L : Lay)  (K0 : Mem → Prop)  (M : Mem) (Q : Mem → Prop) : Prop := (((mi M 71 6) < (mi M 71 1) → (vp_in (mi M 71 6) 1000 ∧ ((((mi M 72 (tn (mi M 71 6))) = (10 : Int32) → (w_X5_next_39 L  K0  M Q)) ∧ (¬ (mi M 72 (tn (mi M 71 6))) = (10 : Int32) → ((((mi M 72 (tn (mi M 71 6))) = (32 : Int32) → (w_X5_next_39 L  K0  M Q)) ∧ (¬ (mi M 72 (tn (mi M 71 6))) = (32 : Int32) → (w_X5_next_52 L    M Q))))))))) ∧ (¬ (mi M 71 6) < (mi M 71 1) → (w_X5_next_52 L    M Q)))
set_option maxRecDepth 20000 in
theorem t_X5_next_0 {L : Lay} (hL : LY L)   {K0 : Mem → Prop}   {M : Mem} {Q : Mem → Prop} (hw : w_X5_next_0 L  K0  M Q) (hK0 : ∀  (M : Mem), K0  M → X (FM (QV L Q)) RX5 cX5_next none 1 "next" 7 0 0 (L, M) 0 [.ref 71] []) : X (FM (QV L Q)) RX5 cX5_next none 1 "next" 7 0 0 (L, M) 0 [.ref 71] [] := by
  unfold w_X5_next_0 at hw
  refine X_aload_n 1 dX5_next_0 rfl rfl ?_
  refine X_getI 4 f_X5_147 (hL.ob (c := 5) (by decide) rfl) rfl dX5_next_1 rfl ?_
  refine X_aload_n 5 dX5_next_4 rfl rfl ?_
  refine X_getI 8 f_X5_24 (hL.ob (c := 5) (by decide) rfl) rfl dX5_next_5 rfl ?_
  refine X_icmp_ge 52 11 dX5_next_8 rfl rfl (fun c1 => ?_) (fun c1 => ?_)
  · have hw := hw.2 c1
    exact t_X5_next_52 hL   hw 
  · have hw := hw.1 c1
    refine X_aload_n 12 dX5_next_11 rfl rfl ?_
    refine X_getR 15 f_X5_9 (hL.ob (c := 5) (by decide) rfl) rfl (hL.rr (by decide) rfl) dX5_next_12 rfl ?_
    refine X_aload_n 16 dX5_next_15 rfl rfl ?_
    refine X_getI 19 f_X5_147 (hL.ob (c := 5) (by decide) rfl) rfl dX5_next_16 rfl ?_
    obtain ⟨c2, hw⟩ := hw
    refine Y_cald 20 (k := (tn (mi M 71 6))) (hL.ar (t := 3) (n := 1000) (by decide) rfl) c2 rfl dX5_next_19 rfl ?_
    refine X_bipush 22 (v := 10) dX5_next_20 rfl rfl ?_
    refine X_icmp_eq 39 25 dX5_next_22 rfl rfl (fun c3 => ?_) (fun c3 => ?_)
    · have hw := hw.1 c3
      exact t_X5_next_39 hL   hw hK0
    · have hw := hw.2 c3
      refine X_aload_n 26 dX5_next_25 rfl rfl ?_
      refine X_getR 29 f_X5_9 (hL.ob (c := 5) (by decide) rfl) rfl (hL.rr (by decide) rfl) dX5_next_26 rfl ?_
      refine X_aload_n 30 dX5_next_29 rfl rfl ?_
      refine X_getI 33 f_X5_147 (hL.ob (c := 5) (by decide) rfl) rfl dX5_next_30 rfl ?_
      refine Y_cald 34 (k := (tn (mi M 71 6))) (hL.ar (t := 3) (n := 1000) (by decide) rfl) c2 rfl dX5_next_33 rfl ?_
      refine X_bipush 36 (v := 32) dX5_next_34 rfl rfl ?_
      refine X_icmp_ne 52 39 dX5_next_36 rfl rfl (fun c4 => ?_) (fun c4 => ?_)
      · have hw := hw.2 c4
        exact t_X5_next_52 hL   hw 
      · have hw := hw.1 c4
        exact t_X5_next_39 hL   hw hK0
def w_X5_next (L : Lay)  (M : Mem) (Q : Mem → Prop) : Prop := LP1 (fun K0  M => w_X5_next_0 L   K0  M Q)  M
set_option maxRecDepth 20000 in
theorem s_X5_next {L : Lay} (hL : LY L)   {M : Mem} {Q : Mem → Prop} (hw : w_X5_next L  M Q) : MX yX5_next cX5_next none 1 7 0 0 [.ref 71] (L, M) (QV L Q) := by
  unfold w_X5_next at hw
  refine MX_of (by decide) [.ref 71] (by rfl) (by exact Nat.le_of_ble_eq_true rfl) ?_
  show X (FM (QV L Q)) RX5 cX5_next none 1 "next" 7 0 0 (L, M) 0 [.ref 71] []
  exact LP1_s hw (G := fun  M => X (FM (QV L Q)) RX5 cX5_next none 1 "next" 7 0 0 (L, M) 0 [.ref 71] []) (fun K0  M hb hK => t_X5_next_0 hL  hb  hK)
def w_X5_start (L : Lay)  (M : Mem) (Q : Mem → Prop) : Prop := ∀ M1 : Mem, M1 = si M 71 2 (0 : Int32) → (∀ M2 : Mem, M2 = si M1 71 6 (0 : Int32) → (w_X5_next L  M2 (fun M3 => (Q M3))))
set_option maxRecDepth 20000 in
theorem s_X5_start {L : Lay} (hL : LY L)   {M : Mem} {Q : Mem → Prop} (hw : w_X5_start L  M Q) : MX yX5_start cX5_start none 1 8 0 0 [.ref 71] (L, M) (QV L Q) := by
  unfold w_X5_start at hw
  refine MX_of (by decide) [.ref 71] (by rfl) (by exact Nat.le_of_ble_eq_true rfl) ?_
  show X (FM (QV L Q)) RX5 cX5_start none 1 "start" 8 0 0 (L, M) 0 [.ref 71] []
  refine X_aload_n 1 dX5_start_0 rfl rfl ?_
  refine X_iconst 2 (v := 0) dX5_start_1 rfl rfl ?_
  refine X_putI 5 f_X5_37 (Or.inl rfl) (hL.ob (c := 5) (by decide) rfl) rfl dX5_start_2 rfl ?_
  refine X_nmM (fun M1 eM1 => ?_)
  have hw := hw M1 eM1
  refine X_aload_n 6 dX5_start_5 rfl rfl ?_
  refine X_iconst 7 (v := 0) dX5_start_6 rfl rfl ?_
  refine X_putI 10 f_X5_147 (Or.inl rfl) (hL.ob (c := 5) (by decide) rfl) rfl dX5_start_7 rfl ?_
  refine X_nmM (fun M2 eM2 => ?_)
  have hw := hw M2 eM2
  refine X_aload_n 11 dX5_start_10 rfl rfl ?_
  refine Y_cVV 14 (as := []) m_X5_55 (s_X5_next hL  hw) (hL.ob (c := 5) (by decide) rfl) rfl (by decide) (Nat.le_of_ble_eq_true rfl) dX5_start_11 rfl rfl (fun M3 hw => ?_)
  exact X_retV rfl dX5_start_14 ⟨_, rfl, rfl, hw⟩
def w_X5_refuse (L : Lay) (p0 : Int32) (M : Mem) (Q : Mem → Prop) : Prop := (((mi M 71 2) = 0 → (∀ M2 : Mem, M2 = si M 71 2 (p0 + ((16 : Int32) * (mi M 71 5))) → (Q M2))) ∧ (¬ (mi M 71 2) = 0 → (Q M)))
set_option maxRecDepth 20000 in
theorem s_X5_refuse {L : Lay} (hL : LY L) {p0 : Int32}  {M : Mem} {Q : Mem → Prop} (hw : w_X5_refuse L p0 M Q) : MX yX5_refuse cX5_refuse none 2 1 0 0 [.ref 71, .int p0] (L, M) (QV L Q) := by
  unfold w_X5_refuse at hw
  refine MX_of (by decide) [.ref 71, .int p0] (by rfl) (by exact Nat.le_of_ble_eq_true rfl) ?_
  show X (FM (QV L Q)) RX5 cX5_refuse none 2 "refuse" 1 0 0 (L, M) 0 [.ref 71, .int p0] []
  refine X_aload_n 1 dX5_refuse_0 rfl rfl ?_
  refine X_getI 4 f_X5_37 (hL.ob (c := 5) (by decide) rfl) rfl dX5_refuse_1 rfl ?_
  refine X_if_ne 20 7 (y := 0) dX5_refuse_4 rfl rfl (fun c1 => ?_) (fun c1 => ?_)
  · have hw := hw.2 c1
    exact X_retV rfl dX5_refuse_20 ⟨_, rfl, rfl, hw⟩
  · have hw := hw.1 c1
    refine X_aload_n 8 dX5_refuse_7 rfl rfl ?_
    refine X_iload_n 9 dX5_refuse_8 rfl rfl ?_
    refine X_bipush 11 (v := 16) dX5_refuse_9 rfl rfl ?_
    refine X_aload_n 12 dX5_refuse_11 rfl rfl ?_
    refine X_getI 15 f_X5_100 (hL.ob (c := 5) (by decide) rfl) rfl dX5_refuse_12 rfl ?_
    refine X_imul 16 dX5_refuse_15 rfl ?_
    refine X_iadd 17 dX5_refuse_16 rfl ?_
    refine X_putI 20 f_X5_37 (Or.inl rfl) (hL.ob (c := 5) (by decide) rfl) rfl dX5_refuse_17 rfl ?_
    refine X_nmM (fun M2 eM2 => ?_)
    have hw := hw M2 eM2
    exact X_retV rfl dX5_refuse_20 ⟨_, rfl, rfl, hw⟩
def w_X5_expect_13 (L : Lay) (p0 : Int32)   (M : Mem) (Q : Mem → Prop) : Prop := w_X5_next L  M (fun M3 => (Q M3))
set_option maxRecDepth 20000 in
theorem t_X5_expect_13 {L : Lay} (hL : LY L) {p0 : Int32}     {M : Mem} {Q : Mem → Prop} (hw : w_X5_expect_13 L p0   M Q)  : X (FM (QV L Q)) RX5 cX5_expect none 2 "expect" 8 0 0 (L, M) 13 [.ref 71, junk] [] := by
  unfold w_X5_expect_13 at hw
  refine X_aload_n 14 dX5_expect_13 rfl rfl ?_
  refine Y_cVV 17 (as := []) m_X5_55 (s_X5_next hL  hw) (hL.ob (c := 5) (by decide) rfl) rfl (by decide) (Nat.le_of_ble_eq_true rfl) dX5_expect_14 rfl rfl (fun M3 hw => ?_)
  exact X_retV rfl dX5_expect_17 ⟨_, rfl, rfl, hw⟩
def w_X5_expect (L : Lay) (p0 : Int32) (M : Mem) (Q : Mem → Prop) : Prop := (((mi M 71 3) = p0 → (w_X5_expect_13 L p0   M Q)) ∧ (¬ (mi M 71 3) = p0 → (w_X5_refuse L (1 : Int32) M (fun M2 => (w_X5_expect_13 L p0   M2 Q)))))
set_option maxRecDepth 20000 in
theorem s_X5_expect {L : Lay} (hL : LY L) {p0 : Int32}  {M : Mem} {Q : Mem → Prop} (hw : w_X5_expect L p0 M Q) : MX yX5_expect cX5_expect none 2 8 0 0 [.ref 71, .int p0] (L, M) (QV L Q) := by
  unfold w_X5_expect at hw
  refine MX_of (by decide) [.ref 71, .int p0] (by rfl) (by exact Nat.le_of_ble_eq_true rfl) ?_
  show X (FM (QV L Q)) RX5 cX5_expect none 2 "expect" 8 0 0 (L, M) 0 [.ref 71, .int p0] []
  refine X_aload_n 1 dX5_expect_0 rfl rfl ?_
  refine X_getI 4 f_X5_34 (hL.ob (c := 5) (by decide) rfl) rfl dX5_expect_1 rfl ?_
  refine X_iload_n 5 dX5_expect_4 rfl rfl ?_
  refine X_icmp_eq 13 8 dX5_expect_5 rfl rfl (fun c1 => ?_) (fun c1 => ?_)
  · have hw := hw.1 c1
    refine X_weak (ls' := [.ref 71, junk]) (WK.s (WK.j WK.n)) (Nat.le_of_ble_eq_true rfl) ?_
    exact t_X5_expect_13 hL   hw 
  · have hw := hw.2 c1
    refine X_aload_n 9 dX5_expect_8 rfl rfl ?_
    refine X_iconst 10 (v := 1) dX5_expect_9 rfl rfl ?_
    refine Y_cVV 13 (as := [.int (1 : Int32)]) m_X5_44 (s_X5_refuse hL  hw) (hL.ob (c := 5) (by decide) rfl) rfl (by decide) (Nat.le_of_ble_eq_true rfl) dX5_expect_10 rfl rfl (fun M2 hw => ?_)
    refine X_weak (ls' := [.ref 71, junk]) (WK.s (WK.j WK.n)) (Nat.le_of_ble_eq_true rfl) ?_
    exact t_X5_expect_13 hL   hw 
def w_X5_pushWaiting (L : Lay)  (M : Mem) (Q : Mem → Prop) : Prop := (((mi M 71 10) < (nI 64) → (vp_in (mi M 71 10) 64 ∧ (∀ M3 : Mem, M3 = si M 74 (tn (mi M 71 10)) (mi M 71 3) → (∀ M4 : Mem, M4 = si M3 71 10 ((mi M3 71 10) + (1 : Int32)) → (Q M4))))) ∧ (¬ (mi M 71 10) < (nI 64) → (Q M)))
set_option maxRecDepth 20000 in
theorem s_X5_pushWaiting {L : Lay} (hL : LY L)   {M : Mem} {Q : Mem → Prop} (hw : w_X5_pushWaiting L  M Q) : MX yX5_pushWaiting cX5_pushWaiting none 1 1 0 0 [.ref 71] (L, M) (QV L Q) := by
  unfold w_X5_pushWaiting at hw
  refine MX_of (by decide) [.ref 71] (by rfl) (by exact Nat.le_of_ble_eq_true rfl) ?_
  show X (FM (QV L Q)) RX5 cX5_pushWaiting none 1 "pushWaiting" 1 0 0 (L, M) 0 [.ref 71] []
  refine X_aload_n 1 dX5_pushWaiting_0 rfl rfl ?_
  refine X_getI 4 f_X5_106 (hL.ob (c := 5) (by decide) rfl) rfl dX5_pushWaiting_1 rfl ?_
  refine X_aload_n 5 dX5_pushWaiting_4 rfl rfl ?_
  refine X_getR 8 f_X5_19 (hL.ob (c := 5) (by decide) rfl) rfl (hL.rr (by decide) rfl) dX5_pushWaiting_5 rfl ?_
  refine X_alen 9 (t := 0) (by decide) (hL.ar (t := 0) (n := 64) (by decide) rfl) dX5_pushWaiting_8 rfl ?_
  refine X_icmp_ge 35 12 dX5_pushWaiting_9 rfl rfl (fun c1 => ?_) (fun c1 => ?_)
  · have hw := hw.2 c1
    exact X_retV rfl dX5_pushWaiting_35 ⟨_, rfl, rfl, hw⟩
  · have hw := hw.1 c1
    refine X_aload_n 13 dX5_pushWaiting_12 rfl rfl ?_
    refine X_getR 16 f_X5_19 (hL.ob (c := 5) (by decide) rfl) rfl (hL.rr (by decide) rfl) dX5_pushWaiting_13 rfl ?_
    refine X_aload_n 17 dX5_pushWaiting_16 rfl rfl ?_
    refine X_getI 20 f_X5_106 (hL.ob (c := 5) (by decide) rfl) rfl dX5_pushWaiting_17 rfl ?_
    refine X_aload_n 21 dX5_pushWaiting_20 rfl rfl ?_
    refine X_getI 24 f_X5_34 (hL.ob (c := 5) (by decide) rfl) rfl dX5_pushWaiting_21 rfl ?_
    obtain ⟨c2, hw⟩ := hw
    refine Y_iast 25 (k := (tn (mi M 71 10))) (hL.ar (t := 0) (n := 64) (by decide) rfl) c2 rfl dX5_pushWaiting_24 rfl ?_
    refine X_nmM (fun M3 eM3 => ?_)
    have hw := hw M3 eM3
    refine X_aload_n 26 dX5_pushWaiting_25 rfl rfl ?_
    refine X_dup 27 dX5_pushWaiting_26 rfl rfl ?_
    refine X_getI 30 f_X5_106 (hL.ob (c := 5) (by decide) rfl) rfl dX5_pushWaiting_27 rfl ?_
    refine X_iconst 31 (v := 1) dX5_pushWaiting_30 rfl rfl ?_
    refine X_iadd 32 dX5_pushWaiting_31 rfl ?_
    refine X_putI 35 f_X5_106 (Or.inl rfl) (hL.ob (c := 5) (by decide) rfl) rfl dX5_pushWaiting_32 rfl ?_
    refine X_nmM (fun M4 eM4 => ?_)
    have hw := hw M4 eM4
    exact X_retV rfl dX5_pushWaiting_35 ⟨_, rfl, rfl, hw⟩
def w_X5_emit (L : Lay) (p0 : Int32) (M : Mem) (Q : Mem → Prop) : Prop := (((mi M 71 8) < (nI 1000) → (vp_in (mi M 71 8) 1000 ∧ (∀ M3 : Mem, M3 = si M 73 (tn (mi M 71 8)) p0 → (∀ M4 : Mem, M4 = si M3 71 8 ((mi M3 71 8) + (1 : Int32)) → (Q M4))))) ∧ (¬ (mi M 71 8) < (nI 1000) → (Q M)))
set_option maxRecDepth 20000 in
theorem s_X5_emit {L : Lay} (hL : LY L) {p0 : Int32}  {M : Mem} {Q : Mem → Prop} (hw : w_X5_emit L p0 M Q) : MX yX5_emit cX5_emit none 2 1 0 0 [.ref 71, .int p0] (L, M) (QV L Q) := by
  unfold w_X5_emit at hw
  refine MX_of (by decide) [.ref 71, .int p0] (by rfl) (by exact Nat.le_of_ble_eq_true rfl) ?_
  show X (FM (QV L Q)) RX5 cX5_emit none 2 "emit" 1 0 0 (L, M) 0 [.ref 71, .int p0] []
  refine X_aload_n 1 dX5_emit_0 rfl rfl ?_
  refine X_getI 4 f_X5_103 (hL.ob (c := 5) (by decide) rfl) rfl dX5_emit_1 rfl ?_
  refine X_aload_n 5 dX5_emit_4 rfl rfl ?_
  refine X_getR 8 f_X5_15 (hL.ob (c := 5) (by decide) rfl) rfl (hL.rr (by decide) rfl) dX5_emit_5 rfl ?_
  refine X_alen 9 (t := 0) (by decide) (hL.ar (t := 0) (n := 1000) (by decide) rfl) dX5_emit_8 rfl ?_
  refine X_icmp_ge 32 12 dX5_emit_9 rfl rfl (fun c1 => ?_) (fun c1 => ?_)
  · have hw := hw.2 c1
    exact X_retV rfl dX5_emit_32 ⟨_, rfl, rfl, hw⟩
  · have hw := hw.1 c1
    refine X_aload_n 13 dX5_emit_12 rfl rfl ?_
    refine X_getR 16 f_X5_15 (hL.ob (c := 5) (by decide) rfl) rfl (hL.rr (by decide) rfl) dX5_emit_13 rfl ?_
    refine X_aload_n 17 dX5_emit_16 rfl rfl ?_
    refine X_getI 20 f_X5_103 (hL.ob (c := 5) (by decide) rfl) rfl dX5_emit_17 rfl ?_
    refine X_iload_n 21 dX5_emit_20 rfl rfl ?_
    obtain ⟨c2, hw⟩ := hw
    refine Y_iast 22 (k := (tn (mi M 71 8))) (hL.ar (t := 0) (n := 1000) (by decide) rfl) c2 rfl dX5_emit_21 rfl ?_
    refine X_nmM (fun M3 eM3 => ?_)
    have hw := hw M3 eM3
    refine X_aload_n 23 dX5_emit_22 rfl rfl ?_
    refine X_dup 24 dX5_emit_23 rfl rfl ?_
    refine X_getI 27 f_X5_103 (hL.ob (c := 5) (by decide) rfl) rfl dX5_emit_24 rfl ?_
    refine X_iconst 28 (v := 1) dX5_emit_27 rfl rfl ?_
    refine X_iadd 29 dX5_emit_28 rfl ?_
    refine X_putI 32 f_X5_103 (Or.inl rfl) (hL.ob (c := 5) (by decide) rfl) rfl dX5_emit_29 rfl ?_
    refine X_nmM (fun M4 eM4 => ?_)
    have hw := hw M4 eM4
    exact X_retV rfl dX5_emit_32 ⟨_, rfl, rfl, hw⟩
def w_X5_endPart_5 (L : Lay)  (K5 : Mem → Prop)  (M : Mem) (Q : Mem → Prop) : Prop := ((0 < (mi M 71 10) → (vp_in ((mi M 71 10) - (1 : Int32)) 64 ∧ ((((mi M 74 (tn ((mi M 71 10) - (1 : Int32)))) = (11 : Int32) → (w_X5_emit L ((20000 : Int32) + (mi M 74 (tn ((mi M 71 10) - (1 : Int32))))) M (fun M5 => (∀ M6 : Mem, M6 = si M5 71 13 ((mi M5 71 13) - (1 : Int32)) → (∀ M7 : Mem, M7 = si M6 71 10 ((mi M6 71 10) - (1 : Int32)) → (K5  M7)))))) ∧ (¬ (mi M 74 (tn ((mi M 71 10) - (1 : Int32)))) = (11 : Int32) → (Q M)))))) ∧ (¬ 0 < (mi M 71 10) → (Q M)))
set_option maxRecDepth 20000 in
theorem t_X5_endPart_5 {L : Lay} (hL : LY L)   {K5 : Mem → Prop}   {M : Mem} {Q : Mem → Prop} (hw : w_X5_endPart_5 L  K5  M Q) (hK5 : ∀  (M : Mem), K5  M → X (FM (QV L Q)) RX5 cX5_endPart none 1 "endPart" 2 0 0 (L, M) 5 [.ref 71] []) : X (FM (QV L Q)) RX5 cX5_endPart none 1 "endPart" 2 0 0 (L, M) 5 [.ref 71] [] := by
  unfold w_X5_endPart_5 at hw
  refine X_aload_n 6 dX5_endPart_5 rfl rfl ?_
  refine X_getI 9 f_X5_106 (hL.ob (c := 5) (by decide) rfl) rfl dX5_endPart_6 rfl ?_
  refine X_if_le 70 12 (y := 0) dX5_endPart_9 rfl rfl (fun c2 => ?_) (fun c2 => ?_)
  · have hw := hw.2 c2
    exact X_retV rfl dX5_endPart_70 ⟨_, rfl, rfl, hw⟩
  · have hw := hw.1 c2
    refine X_aload_n 13 dX5_endPart_12 rfl rfl ?_
    refine X_getR 16 f_X5_19 (hL.ob (c := 5) (by decide) rfl) rfl (hL.rr (by decide) rfl) dX5_endPart_13 rfl ?_
    refine X_aload_n 17 dX5_endPart_16 rfl rfl ?_
    refine X_getI 20 f_X5_106 (hL.ob (c := 5) (by decide) rfl) rfl dX5_endPart_17 rfl ?_
    refine X_iconst 21 (v := 1) dX5_endPart_20 rfl rfl ?_
    refine X_isub 22 dX5_endPart_21 rfl ?_
    obtain ⟨c3, hw⟩ := hw
    refine Y_iald 23 (k := (tn ((mi M 71 10) - (1 : Int32)))) (hL.ar (t := 0) (n := 64) (by decide) rfl) c3 rfl dX5_endPart_22 rfl ?_
    refine X_bipush 25 (v := 11) dX5_endPart_23 rfl rfl ?_
    refine X_icmp_ne 70 28 dX5_endPart_25 rfl rfl (fun c4 => ?_) (fun c4 => ?_)
    · have hw := hw.2 c4
      exact X_retV rfl dX5_endPart_70 ⟨_, rfl, rfl, hw⟩
    · have hw := hw.1 c4
      refine X_aload_n 29 dX5_endPart_28 rfl rfl ?_
      refine X_sipush 32 (v := 20000) dX5_endPart_29 rfl rfl ?_
      refine X_aload_n 33 dX5_endPart_32 rfl rfl ?_
      refine X_getR 36 f_X5_19 (hL.ob (c := 5) (by decide) rfl) rfl (hL.rr (by decide) rfl) dX5_endPart_33 rfl ?_
      refine X_aload_n 37 dX5_endPart_36 rfl rfl ?_
      refine X_getI 40 f_X5_106 (hL.ob (c := 5) (by decide) rfl) rfl dX5_endPart_37 rfl ?_
      refine X_iconst 41 (v := 1) dX5_endPart_40 rfl rfl ?_
      refine X_isub 42 dX5_endPart_41 rfl ?_
      refine Y_iald 43 (k := (tn ((mi M 71 10) - (1 : Int32)))) (hL.ar (t := 0) (n := 64) (by decide) rfl) c3 rfl dX5_endPart_42 rfl ?_
      refine X_iadd 44 dX5_endPart_43 rfl ?_
      refine Y_cVV 47 (as := [.int (((20000 : Int32) + (mi M 74 (tn ((mi M 71 10) - (1 : Int32))))))]) m_X5_129 (s_X5_emit hL  hw) (hL.ob (c := 5) (by decide) rfl) rfl (by decide) (Nat.le_of_ble_eq_true rfl) dX5_endPart_44 rfl rfl (fun M5 hw => ?_)
      refine X_aload_n 48 dX5_endPart_47 rfl rfl ?_
      refine X_dup 49 dX5_endPart_48 rfl rfl ?_
      refine X_getI 52 f_X5_116 (hL.ob (c := 5) (by decide) rfl) rfl dX5_endPart_49 rfl ?_
      refine X_iconst 53 (v := 1) dX5_endPart_52 rfl rfl ?_
      refine X_isub 54 dX5_endPart_53 rfl ?_
      refine X_putI 57 f_X5_116 (Or.inl rfl) (hL.ob (c := 5) (by decide) rfl) rfl dX5_endPart_54 rfl ?_
      refine X_nmM (fun M6 eM6 => ?_)
      have hw := hw M6 eM6
      refine X_aload_n 58 dX5_endPart_57 rfl rfl ?_
      refine X_dup 59 dX5_endPart_58 rfl rfl ?_
      refine X_getI 62 f_X5_106 (hL.ob (c := 5) (by decide) rfl) rfl dX5_endPart_59 rfl ?_
      refine X_iconst 63 (v := 1) dX5_endPart_62 rfl rfl ?_
      refine X_isub 64 dX5_endPart_63 rfl ?_
      refine X_putI 67 f_X5_106 (Or.inl rfl) (hL.ob (c := 5) (by decide) rfl) rfl dX5_endPart_64 rfl ?_
      refine X_nmM (fun M7 eM7 => ?_)
      have hw := hw M7 eM7
      refine X_goto 5 dX5_endPart_67 rfl ?_
      exact hK5  M7 hw
def w_X5_endPart (L : Lay)  (M : Mem) (Q : Mem → Prop) : Prop := ∀ M1 : Mem, M1 = si M 71 11 (0 : Int32) → (LP1 (fun K5  M => w_X5_endPart_5 L   K5  M Q)  M1)
set_option maxRecDepth 20000 in
theorem s_X5_endPart {L : Lay} (hL : LY L)   {M : Mem} {Q : Mem → Prop} (hw : w_X5_endPart L  M Q) : MX yX5_endPart cX5_endPart none 1 2 0 0 [.ref 71] (L, M) (QV L Q) := by
  unfold w_X5_endPart at hw
  refine MX_of (by decide) [.ref 71] (by rfl) (by exact Nat.le_of_ble_eq_true rfl) ?_
  show X (FM (QV L Q)) RX5 cX5_endPart none 1 "endPart" 2 0 0 (L, M) 0 [.ref 71] []
  refine X_aload_n 1 dX5_endPart_0 rfl rfl ?_
  refine X_iconst 2 (v := 0) dX5_endPart_1 rfl rfl ?_
  refine X_putZ 5 f_X5_109 (Or.inl rfl) (Or.inl rfl) (hL.ob (c := 5) (by decide) rfl) rfl dX5_endPart_2 rfl ?_
  refine X_nmM (fun M1 eM1 => ?_)
  have hw := hw M1 eM1
  exact LP1_s hw (G := fun  M => X (FM (QV L Q)) RX5 cX5_endPart none 1 "endPart" 2 0 0 (L, M) 5 [.ref 71] []) (fun K5  M hb hK => t_X5_endPart_5 hL  hb  hK)
def w_X5_takePart_67 (L : Lay)   (v1 : Int32) (v2 : Int32) (M : Mem) (Q : Int32 → Mem → Prop) : Prop := (((mi M 71 13) < (5 : Int32) → (((v2 = 0 → (∀ x12 : Int32, x12 = (if v1 = 0 then (mi M 71 4) else ((10000 : Int32) + (mi M 71 3))) → (w_X5_emit L x12 M (fun M13 => (w_X5_endPart L  M13 (fun M14 => (Q (1 : Int32) M14))))))) ∧ (¬ v2 = 0 → (∀ M16 : Mem, M16 = si M 71 13 ((mi M 71 13) + (1 : Int32)) → (∀ x17 : Int32, x17 = (if (mi M16 71 3) = (40 : Int32) then (1 : Int32) else (0 : Int32)) → (∀ M18 : Mem, M18 = si M16 71 12 ((mi M16 71 12) + x17) → (w_X5_pushWaiting L  M18 (fun M19 => (Q (1 : Int32) M19)))))))))) ∧ (¬ (mi M 71 13) < (5 : Int32) → (w_X5_refuse L (5 : Int32) M (fun M21 => (Q (0 : Int32) M21)))))
set_option maxRecDepth 20000 in
theorem t_X5_takePart_67 {L : Lay} (hL : LY L)    {v1 : Int32} {v2 : Int32}  {M : Mem} {Q : Int32 → Mem → Prop} (hw : w_X5_takePart_67 L   v1 v2 M Q)  : X (FM (QZ L Q)) RX5 cX5_takePart (some .boolean) 3 "takePart" 3 0 0 (L, M) 67 [.ref 71, .int v1, .int v2] [] := by
  unfold w_X5_takePart_67 at hw
  refine X_aload_n 68 dX5_takePart_67 rfl rfl ?_
  refine X_getI 71 f_X5_116 (hL.ob (c := 5) (by decide) rfl) rfl dX5_takePart_68 rfl ?_
  refine X_iconst 72 (v := 5) dX5_takePart_71 rfl rfl ?_
  refine X_icmp_lt 82 75 dX5_takePart_72 rfl rfl (fun c10 => ?_) (fun c10 => ?_)
  · have hw := hw.1 c10
    refine X_iload_n 83 dX5_takePart_82 rfl rfl ?_
    refine X_if_eq 125 86 (y := 0) dX5_takePart_83 rfl rfl (fun c11 => ?_) (fun c11 => ?_)
    · have hw := hw.1 c11
      refine X_aload_n 126 dX5_takePart_125 rfl rfl ?_
      refine X_iload_n 127 dX5_takePart_126 rfl rfl ?_
      obtain ⟨x12, ex12⟩ : ∃ x12 : Int32, x12 = (if v1 = 0 then (mi M 71 4) else ((10000 : Int32) + (mi M 71 3))) := ⟨_, rfl⟩
      have hw := hw x12 ex12
      have hJ : X (FM (QZ L Q)) RX5 cX5_takePart (some .boolean) 3 "takePart" 3 0 0 (L, M) 145 [.ref 71, .int v1, .int v2] [.int x12, .ref 71] := by
        refine Y_cVV 148 (as := [.int x12]) m_X5_129 (s_X5_emit hL  hw) (hL.ob (c := 5) (by decide) rfl) rfl (by decide) (Nat.le_of_ble_eq_true rfl) dX5_takePart_145 rfl rfl (fun M13 hw => ?_)
        refine X_aload_n 149 dX5_takePart_148 rfl rfl ?_
        refine Y_cVV 152 (as := []) m_X5_141 (s_X5_endPart hL  hw) (hL.ob (c := 5) (by decide) rfl) rfl (by decide) (Nat.le_of_ble_eq_true rfl) dX5_takePart_149 rfl rfl (fun M14 hw => ?_)
        refine X_iconst 153 (v := 1) dX5_takePart_152 rfl rfl ?_
        exact X_ret rfl (nar_bool (Or.inr rfl)) dX5_takePart_153 ⟨_, _, rfl, Or.inr rfl, rfl, hw⟩
      refine X_if_eq 141 130 (y := 0) dX5_takePart_127 rfl rfl (fun c15 => ?_) (fun c15 => ?_)
      · refine X_aload_n 142 dX5_takePart_141 rfl rfl ?_
        refine X_getI 145 f_X5_97 (hL.ob (c := 5) (by decide) rfl) rfl dX5_takePart_142 rfl ?_
        rw [if_pos c15] at ex12
        rw [ex12] at hJ
        exact hJ
      · refine X_sipush 133 (v := 10000) dX5_takePart_130 rfl rfl ?_
        refine X_aload_n 134 dX5_takePart_133 rfl rfl ?_
        refine X_getI 137 f_X5_34 (hL.ob (c := 5) (by decide) rfl) rfl dX5_takePart_134 rfl ?_
        refine X_iadd 138 dX5_takePart_137 rfl ?_
        refine X_goto 145 dX5_takePart_138 rfl ?_
        rw [if_neg c15] at ex12
        rw [ex12] at hJ
        exact hJ
    · have hw := hw.2 c11
      refine X_aload_n 87 dX5_takePart_86 rfl rfl ?_
      refine X_dup 88 dX5_takePart_87 rfl rfl ?_
      refine X_getI 91 f_X5_116 (hL.ob (c := 5) (by decide) rfl) rfl dX5_takePart_88 rfl ?_
      refine X_iconst 92 (v := 1) dX5_takePart_91 rfl rfl ?_
      refine X_iadd 93 dX5_takePart_92 rfl ?_
      refine X_putI 96 f_X5_116 (Or.inl rfl) (hL.ob (c := 5) (by decide) rfl) rfl dX5_takePart_93 rfl ?_
      refine X_nmM (fun M16 eM16 => ?_)
      have hw := hw M16 eM16
      refine X_aload_n 97 dX5_takePart_96 rfl rfl ?_
      refine X_dup 98 dX5_takePart_97 rfl rfl ?_
      refine X_getI 101 f_X5_113 (hL.ob (c := 5) (by decide) rfl) rfl dX5_takePart_98 rfl ?_
      refine X_aload_n 102 dX5_takePart_101 rfl rfl ?_
      refine X_getI 105 f_X5_34 (hL.ob (c := 5) (by decide) rfl) rfl dX5_takePart_102 rfl ?_
      refine X_bipush 107 (v := 40) dX5_takePart_105 rfl rfl ?_
      obtain ⟨x17, ex17⟩ : ∃ x17 : Int32, x17 = (if (mi M16 71 3) = (40 : Int32) then (1 : Int32) else (0 : Int32)) := ⟨_, rfl⟩
      have hw := hw x17 ex17
      have bx17 : BZ x17 := by rw [ex17]; (repeat' split) <;> first | exact Or.inl rfl | exact Or.inr rfl
      have hJ : X (FM (QZ L Q)) RX5 cX5_takePart (some .boolean) 3 "takePart" 3 0 0 (L, M16) 115 [.ref 71, .int v1, .int v2] [.int x17, .int ((mi M16 71 12)), .ref 71] := by
        refine X_iadd 116 dX5_takePart_115 rfl ?_
        refine X_putI 119 f_X5_113 (Or.inl rfl) (hL.ob (c := 5) (by decide) rfl) rfl dX5_takePart_116 rfl ?_
        refine X_nmM (fun M18 eM18 => ?_)
        have hw := hw M18 eM18
        refine X_aload_n 120 dX5_takePart_119 rfl rfl ?_
        refine Y_cVV 123 (as := []) m_X5_138 (s_X5_pushWaiting hL  hw) (hL.ob (c := 5) (by decide) rfl) rfl (by decide) (Nat.le_of_ble_eq_true rfl) dX5_takePart_120 rfl rfl (fun M19 hw => ?_)
        refine X_iconst 124 (v := 1) dX5_takePart_123 rfl rfl ?_
        exact X_ret rfl (nar_bool (Or.inr rfl)) dX5_takePart_124 ⟨_, _, rfl, Or.inr rfl, rfl, hw⟩
      refine X_icmp_ne 114 110 dX5_takePart_107 rfl rfl (fun c20 => ?_) (fun c20 => ?_)
      · refine X_iconst 115 (v := 0) dX5_takePart_114 rfl rfl ?_
        rw [if_neg c20] at ex17
        rw [ex17] at hJ
        exact hJ
      · refine X_iconst 111 (v := 1) dX5_takePart_110 rfl rfl ?_
        refine X_goto 115 dX5_takePart_111 rfl ?_
        rw [if_pos c20] at ex17
        rw [ex17] at hJ
        exact hJ
  · have hw := hw.2 c10
    refine X_aload_n 76 dX5_takePart_75 rfl rfl ?_
    refine X_iconst 77 (v := 5) dX5_takePart_76 rfl rfl ?_
    refine Y_cVV 80 (as := [.int (5 : Int32)]) m_X5_44 (s_X5_refuse hL  hw) (hL.ob (c := 5) (by decide) rfl) rfl (by decide) (Nat.le_of_ble_eq_true rfl) dX5_takePart_77 rfl rfl (fun M21 hw => ?_)
    refine X_iconst 81 (v := 0) dX5_takePart_80 rfl rfl ?_
    exact X_ret rfl (nar_bool (Or.inl rfl)) dX5_takePart_81 ⟨_, _, rfl, Or.inl rfl, rfl, hw⟩
def w_X5_takePart (L : Lay)  (M : Mem) (Q : Int32 → Mem → Prop) : Prop := ∀ x1 : Int32, x1 = (if (mi M 71 3) < (13 : Int32) then (0 : Int32) else (if (26 : Int32) < (mi M 71 3) then (0 : Int32) else (1 : Int32))) → (∀ x2 : Int32, x2 = (if (mi M 71 3) = (11 : Int32) then (1 : Int32) else (if (mi M 71 3) = (40 : Int32) then (1 : Int32) else (0 : Int32))) → (((x1 = 0 → (((x2 = 0 → ((((mi M 71 3) = (30 : Int32) → (w_X5_takePart_67 L   x1 x2 M Q)) ∧ (¬ (mi M 71 3) = (30 : Int32) → (Q (0 : Int32) M))))) ∧ (¬ x2 = 0 → (w_X5_takePart_67 L   x1 x2 M Q))))) ∧ (¬ x1 = 0 → (w_X5_takePart_67 L   x1 x2 M Q)))))
set_option maxRecDepth 20000 in
theorem s_X5_takePart {L : Lay} (hL : LY L)   {M : Mem} {Q : Int32 → Mem → Prop} (hw : w_X5_takePart L  M Q) : MX yX5_takePart cX5_takePart (some .boolean) 3 3 0 0 [.ref 71] (L, M) (QZ L Q) := by
  unfold w_X5_takePart at hw
  refine MX_of (by decide) [.ref 71, junk, junk] (by rfl) (by exact Nat.le_of_ble_eq_true rfl) ?_
  show X (FM (QZ L Q)) RX5 cX5_takePart (some .boolean) 3 "takePart" 3 0 0 (L, M) 0 [.ref 71, junk, junk] []
  refine X_aload_n 1 dX5_takePart_0 rfl rfl ?_
  refine X_getI 4 f_X5_34 (hL.ob (c := 5) (by decide) rfl) rfl dX5_takePart_1 rfl ?_
  refine X_bipush 6 (v := 13) dX5_takePart_4 rfl rfl ?_
  obtain ⟨x1, ex1⟩ : ∃ x1 : Int32, x1 = (if (mi M 71 3) < (13 : Int32) then (0 : Int32) else (if (26 : Int32) < (mi M 71 3) then (0 : Int32) else (1 : Int32))) := ⟨_, rfl⟩
  have hw := hw x1 ex1
  have bx1 : BZ x1 := by rw [ex1]; (repeat' split) <;> first | exact Or.inl rfl | exact Or.inr rfl
  have hJ : X (FM (QZ L Q)) RX5 cX5_takePart (some .boolean) 3 "takePart" 3 0 0 (L, M) 23 [.ref 71, junk, junk] [.int x1] := by
    refine X_istore_n 24 (ls' := [.ref 71, .int x1, junk]) dX5_takePart_23 rfl rfl (Nat.le_of_ble_eq_true rfl) rfl (Or.inr (Or.inr ⟨_, rfl, rfl⟩)) ?_
    refine X_aload_n 25 dX5_takePart_24 rfl rfl ?_
    refine X_getI 28 f_X5_34 (hL.ob (c := 5) (by decide) rfl) rfl dX5_takePart_25 rfl ?_
    refine X_bipush 30 (v := 11) dX5_takePart_28 rfl rfl ?_
    obtain ⟨x2, ex2⟩ : ∃ x2 : Int32, x2 = (if (mi M 71 3) = (11 : Int32) then (1 : Int32) else (if (mi M 71 3) = (40 : Int32) then (1 : Int32) else (0 : Int32))) := ⟨_, rfl⟩
    have hw := hw x2 ex2
    have bx2 : BZ x2 := by rw [ex2]; (repeat' split) <;> first | exact Or.inl rfl | exact Or.inr rfl
    have hJ : X (FM (QZ L Q)) RX5 cX5_takePart (some .boolean) 3 "takePart" 3 0 0 (L, M) 47 [.ref 71, .int x1, junk] [.int x2] := by
      refine X_istore_n 48 (ls' := [.ref 71, .int x1, .int x2]) dX5_takePart_47 rfl rfl (Nat.le_of_ble_eq_true rfl) rfl (Or.inr (Or.inr ⟨_, rfl, rfl⟩)) ?_
      refine X_iload_n 49 dX5_takePart_48 rfl rfl ?_
      refine X_if_ne 67 52 (y := 0) dX5_takePart_49 rfl rfl (fun c3 => ?_) (fun c3 => ?_)
      · have hw := hw.2 c3
        exact t_X5_takePart_67 hL   hw 
      · have hw := hw.1 c3
        refine X_iload_n 53 dX5_takePart_52 rfl rfl ?_
        refine X_if_ne 67 56 (y := 0) dX5_takePart_53 rfl rfl (fun c4 => ?_) (fun c4 => ?_)
        · have hw := hw.2 c4
          exact t_X5_takePart_67 hL   hw 
        · have hw := hw.1 c4
          refine X_aload_n 57 dX5_takePart_56 rfl rfl ?_
          refine X_getI 60 f_X5_34 (hL.ob (c := 5) (by decide) rfl) rfl dX5_takePart_57 rfl ?_
          refine X_bipush 62 (v := 30) dX5_takePart_60 rfl rfl ?_
          refine X_icmp_eq 67 65 dX5_takePart_62 rfl rfl (fun c5 => ?_) (fun c5 => ?_)
          · have hw := hw.1 c5
            exact t_X5_takePart_67 hL   hw 
          · have hw := hw.2 c5
            refine X_iconst 66 (v := 0) dX5_takePart_65 rfl rfl ?_
            exact X_ret rfl (nar_bool (Or.inl rfl)) dX5_takePart_66 ⟨_, _, rfl, Or.inl rfl, rfl, hw⟩
    refine X_icmp_eq 42 33 dX5_takePart_30 rfl rfl (fun c6 => ?_) (fun c6 => ?_)
    · refine X_iconst 43 (v := 1) dX5_takePart_42 rfl rfl ?_
      refine X_goto 47 dX5_takePart_43 rfl ?_
      rw [if_pos c6] at ex2
      rw [ex2] at hJ
      exact hJ
    · refine X_aload_n 34 dX5_takePart_33 rfl rfl ?_
      refine X_getI 37 f_X5_34 (hL.ob (c := 5) (by decide) rfl) rfl dX5_takePart_34 rfl ?_
      refine X_bipush 39 (v := 40) dX5_takePart_37 rfl rfl ?_
      refine X_icmp_ne 46 42 dX5_takePart_39 rfl rfl (fun c7 => ?_) (fun c7 => ?_)
      · refine X_iconst 47 (v := 0) dX5_takePart_46 rfl rfl ?_
        rw [if_neg c6, if_neg c7] at ex2
        rw [ex2] at hJ
        exact hJ
      · refine X_iconst 43 (v := 1) dX5_takePart_42 rfl rfl ?_
        refine X_goto 47 dX5_takePart_43 rfl ?_
        rw [if_neg c6, if_pos c7] at ex2
        rw [ex2] at hJ
        exact hJ
  refine X_icmp_lt 22 9 dX5_takePart_6 rfl rfl (fun c8 => ?_) (fun c8 => ?_)
  · refine X_iconst 23 (v := 0) dX5_takePart_22 rfl rfl ?_
    rw [if_pos c8] at ex1
    rw [ex1] at hJ
    exact hJ
  · refine X_aload_n 10 dX5_takePart_9 rfl rfl ?_
    refine X_getI 13 f_X5_34 (hL.ob (c := 5) (by decide) rfl) rfl dX5_takePart_10 rfl ?_
    refine X_bipush 15 (v := 26) dX5_takePart_13 rfl rfl ?_
    refine X_icmp_gt 22 18 dX5_takePart_15 rfl rfl (fun c9 => ?_) (fun c9 => ?_)
    · refine X_iconst 23 (v := 0) dX5_takePart_22 rfl rfl ?_
      rw [if_neg c8, if_pos c9] at ex1
      rw [ex1] at hJ
      exact hJ
    · refine X_iconst 19 (v := 1) dX5_takePart_18 rfl rfl ?_
      refine X_goto 23 dX5_takePart_19 rfl ?_
      rw [if_neg c8, if_neg c9] at ex1
      rw [ex1] at hJ
      exact hJ
def w_X5_closePart_64 (L : Lay)    (M : Mem) (Q : Int32 → Mem → Prop) : Prop := ∀ M7 : Mem, M7 = si M 71 10 (jmax (0 : Int32) ((mi M 71 10) - (1 : Int32))) → (∀ M8 : Mem, M8 = si M7 71 12 ((mi M7 71 12) - (1 : Int32)) → (∀ M9 : Mem, M9 = si M8 71 13 ((mi M8 71 13) - (1 : Int32)) → (w_X5_endPart L  M9 (fun M10 => (Q (1 : Int32) M10)))))
set_option maxRecDepth 20000 in
theorem t_X5_closePart_64 {L : Lay} (hL : LY L)      {M : Mem} {Q : Int32 → Mem → Prop} (hw : w_X5_closePart_64 L    M Q)  : X (FM (QZ L Q)) RX5 cX5_closePart (some .boolean) 1 "closePart" 3 0 0 (L, M) 64 [.ref 71] [] := by
  unfold w_X5_closePart_64 at hw
  refine X_aload_n 65 dX5_closePart_64 rfl rfl ?_
  refine X_iconst 66 (v := 0) dX5_closePart_65 rfl rfl ?_
  refine X_aload_n 67 dX5_closePart_66 rfl rfl ?_
  refine X_getI 70 f_X5_106 (hL.ob (c := 5) (by decide) rfl) rfl dX5_closePart_67 rfl ?_
  refine X_iconst 71 (v := 1) dX5_closePart_70 rfl rfl ?_
  refine X_isub 72 dX5_closePart_71 rfl ?_
  refine Y_mmax 75 l_X5_88 (by decide) (Nat.le_of_ble_eq_true rfl) dX5_closePart_72 rfl ?_
  refine X_putI 78 f_X5_106 (Or.inl rfl) (hL.ob (c := 5) (by decide) rfl) rfl dX5_closePart_75 rfl ?_
  refine X_nmM (fun M7 eM7 => ?_)
  have hw := hw M7 eM7
  refine X_aload_n 79 dX5_closePart_78 rfl rfl ?_
  refine X_dup 80 dX5_closePart_79 rfl rfl ?_
  refine X_getI 83 f_X5_113 (hL.ob (c := 5) (by decide) rfl) rfl dX5_closePart_80 rfl ?_
  refine X_iconst 84 (v := 1) dX5_closePart_83 rfl rfl ?_
  refine X_isub 85 dX5_closePart_84 rfl ?_
  refine X_putI 88 f_X5_113 (Or.inl rfl) (hL.ob (c := 5) (by decide) rfl) rfl dX5_closePart_85 rfl ?_
  refine X_nmM (fun M8 eM8 => ?_)
  have hw := hw M8 eM8
  refine X_aload_n 89 dX5_closePart_88 rfl rfl ?_
  refine X_dup 90 dX5_closePart_89 rfl rfl ?_
  refine X_getI 93 f_X5_116 (hL.ob (c := 5) (by decide) rfl) rfl dX5_closePart_90 rfl ?_
  refine X_iconst 94 (v := 1) dX5_closePart_93 rfl rfl ?_
  refine X_isub 95 dX5_closePart_94 rfl ?_
  refine X_putI 98 f_X5_116 (Or.inl rfl) (hL.ob (c := 5) (by decide) rfl) rfl dX5_closePart_95 rfl ?_
  refine X_nmM (fun M9 eM9 => ?_)
  have hw := hw M9 eM9
  refine X_aload_n 99 dX5_closePart_98 rfl rfl ?_
  refine Y_cVV 102 (as := []) m_X5_141 (s_X5_endPart hL  hw) (hL.ob (c := 5) (by decide) rfl) rfl (by decide) (Nat.le_of_ble_eq_true rfl) dX5_closePart_99 rfl rfl (fun M10 hw => ?_)
  refine X_iconst 103 (v := 1) dX5_closePart_102 rfl rfl ?_
  exact X_ret rfl (nar_bool (Or.inr rfl)) dX5_closePart_103 ⟨_, _, rfl, Or.inr rfl, rfl, hw⟩
def w_X5_closePart_9 (L : Lay)  (K9 : Mem → Prop)  (M : Mem) (Q : Int32 → Mem → Prop) : Prop := ((0 < (mi M 71 10) → (vp_in ((mi M 71 10) - (1 : Int32)) 64 ∧ ((((mi M 74 (tn ((mi M 71 10) - (1 : Int32)))) = (40 : Int32) → (w_X5_closePart_64 L    M Q)) ∧ (¬ (mi M 74 (tn ((mi M 71 10) - (1 : Int32)))) = (40 : Int32) → (w_X5_emit L ((20000 : Int32) + (mi M 74 (tn ((mi M 71 10) - (1 : Int32))))) M (fun M5 => (∀ M6 : Mem, M6 = si M5 71 10 ((mi M5 71 10) - (1 : Int32)) → (K9  M6))))))))) ∧ (¬ 0 < (mi M 71 10) → (w_X5_closePart_64 L    M Q)))
set_option maxRecDepth 20000 in
theorem t_X5_closePart_9 {L : Lay} (hL : LY L)   {K9 : Mem → Prop}   {M : Mem} {Q : Int32 → Mem → Prop} (hw : w_X5_closePart_9 L  K9  M Q) (hK9 : ∀  (M : Mem), K9  M → X (FM (QZ L Q)) RX5 cX5_closePart (some .boolean) 1 "closePart" 3 0 0 (L, M) 9 [.ref 71] []) : X (FM (QZ L Q)) RX5 cX5_closePart (some .boolean) 1 "closePart" 3 0 0 (L, M) 9 [.ref 71] [] := by
  unfold w_X5_closePart_9 at hw
  refine X_aload_n 10 dX5_closePart_9 rfl rfl ?_
  refine X_getI 13 f_X5_106 (hL.ob (c := 5) (by decide) rfl) rfl dX5_closePart_10 rfl ?_
  refine X_if_le 64 16 (y := 0) dX5_closePart_13 rfl rfl (fun c2 => ?_) (fun c2 => ?_)
  · have hw := hw.2 c2
    exact t_X5_closePart_64 hL   hw 
  · have hw := hw.1 c2
    refine X_aload_n 17 dX5_closePart_16 rfl rfl ?_
    refine X_getR 20 f_X5_19 (hL.ob (c := 5) (by decide) rfl) rfl (hL.rr (by decide) rfl) dX5_closePart_17 rfl ?_
    refine X_aload_n 21 dX5_closePart_20 rfl rfl ?_
    refine X_getI 24 f_X5_106 (hL.ob (c := 5) (by decide) rfl) rfl dX5_closePart_21 rfl ?_
    refine X_iconst 25 (v := 1) dX5_closePart_24 rfl rfl ?_
    refine X_isub 26 dX5_closePart_25 rfl ?_
    obtain ⟨c3, hw⟩ := hw
    refine Y_iald 27 (k := (tn ((mi M 71 10) - (1 : Int32)))) (hL.ar (t := 0) (n := 64) (by decide) rfl) c3 rfl dX5_closePart_26 rfl ?_
    refine X_bipush 29 (v := 40) dX5_closePart_27 rfl rfl ?_
    refine X_icmp_eq 64 32 dX5_closePart_29 rfl rfl (fun c4 => ?_) (fun c4 => ?_)
    · have hw := hw.1 c4
      exact t_X5_closePart_64 hL   hw 
    · have hw := hw.2 c4
      refine X_aload_n 33 dX5_closePart_32 rfl rfl ?_
      refine X_sipush 36 (v := 20000) dX5_closePart_33 rfl rfl ?_
      refine X_aload_n 37 dX5_closePart_36 rfl rfl ?_
      refine X_getR 40 f_X5_19 (hL.ob (c := 5) (by decide) rfl) rfl (hL.rr (by decide) rfl) dX5_closePart_37 rfl ?_
      refine X_aload_n 41 dX5_closePart_40 rfl rfl ?_
      refine X_getI 44 f_X5_106 (hL.ob (c := 5) (by decide) rfl) rfl dX5_closePart_41 rfl ?_
      refine X_iconst 45 (v := 1) dX5_closePart_44 rfl rfl ?_
      refine X_isub 46 dX5_closePart_45 rfl ?_
      refine Y_iald 47 (k := (tn ((mi M 71 10) - (1 : Int32)))) (hL.ar (t := 0) (n := 64) (by decide) rfl) c3 rfl dX5_closePart_46 rfl ?_
      refine X_iadd 48 dX5_closePart_47 rfl ?_
      refine Y_cVV 51 (as := [.int (((20000 : Int32) + (mi M 74 (tn ((mi M 71 10) - (1 : Int32))))))]) m_X5_129 (s_X5_emit hL  hw) (hL.ob (c := 5) (by decide) rfl) rfl (by decide) (Nat.le_of_ble_eq_true rfl) dX5_closePart_48 rfl rfl (fun M5 hw => ?_)
      refine X_aload_n 52 dX5_closePart_51 rfl rfl ?_
      refine X_dup 53 dX5_closePart_52 rfl rfl ?_
      refine X_getI 56 f_X5_106 (hL.ob (c := 5) (by decide) rfl) rfl dX5_closePart_53 rfl ?_
      refine X_iconst 57 (v := 1) dX5_closePart_56 rfl rfl ?_
      refine X_isub 58 dX5_closePart_57 rfl ?_
      refine X_putI 61 f_X5_106 (Or.inl rfl) (hL.ob (c := 5) (by decide) rfl) rfl dX5_closePart_58 rfl ?_
      refine X_nmM (fun M6 eM6 => ?_)
      have hw := hw M6 eM6
      refine X_goto 9 dX5_closePart_61 rfl ?_
      exact hK9  M6 hw
def w_X5_closePart (L : Lay)  (M : Mem) (Q : Int32 → Mem → Prop) : Prop := (((mi M 71 12) = 0 → (Q (0 : Int32) M)) ∧ (¬ (mi M 71 12) = 0 → (LP1 (fun K9  M => w_X5_closePart_9 L   K9  M Q)  M)))
set_option maxRecDepth 20000 in
theorem s_X5_closePart {L : Lay} (hL : LY L)   {M : Mem} {Q : Int32 → Mem → Prop} (hw : w_X5_closePart L  M Q) : MX yX5_closePart cX5_closePart (some .boolean) 1 3 0 0 [.ref 71] (L, M) (QZ L Q) := by
  unfold w_X5_closePart at hw
  refine MX_of (by decide) [.ref 71] (by rfl) (by exact Nat.le_of_ble_eq_true rfl) ?_
  show X (FM (QZ L Q)) RX5 cX5_closePart (some .boolean) 1 "closePart" 3 0 0 (L, M) 0 [.ref 71] []
  refine X_aload_n 1 dX5_closePart_0 rfl rfl ?_
  refine X_getI 4 f_X5_113 (hL.ob (c := 5) (by decide) rfl) rfl dX5_closePart_1 rfl ?_
  refine X_if_ne 9 7 (y := 0) dX5_closePart_4 rfl rfl (fun c1 => ?_) (fun c1 => ?_)
  · have hw := hw.2 c1
    exact LP1_s hw (G := fun  M => X (FM (QZ L Q)) RX5 cX5_closePart (some .boolean) 1 "closePart" 3 0 0 (L, M) 9 [.ref 71] []) (fun K9  M hb hK => t_X5_closePart_9 hL  hb  hK)
  · have hw := hw.1 c1
    refine X_iconst 8 (v := 0) dX5_closePart_7 rfl rfl ?_
    exact X_ret rfl (nar_bool (Or.inl rfl)) dX5_closePart_8 ⟨_, _, rfl, Or.inl rfl, rfl, hw⟩
def w_X5_rankOf (L : Lay) (p0 : Int32) (M : Mem) (Q : Int32 → Mem → Prop) : Prop := ((p0 = (9 : Int32) → (Q (1 : Int32) M)) ∧ (¬ p0 = (9 : Int32) → (((p0 = (10 : Int32) → (Q (1 : Int32) M)) ∧ (¬ p0 = (10 : Int32) → (((p0 = (42 : Int32) → (Q (4 : Int32) M)) ∧ (¬ p0 = (42 : Int32) → (((p0 = (43 : Int32) → (Q (3 : Int32) M)) ∧ (¬ p0 = (43 : Int32) → (((p0 = (45 : Int32) → (Q (3 : Int32) M)) ∧ (¬ p0 = (45 : Int32) → (((p0 = (47 : Int32) → (Q (4 : Int32) M)) ∧ (¬ p0 = (47 : Int32) → (((p0 = (60 : Int32) → (Q (2 : Int32) M)) ∧ (¬ p0 = (60 : Int32) → (((p0 = (61 : Int32) → (Q (2 : Int32) M)) ∧ (¬ p0 = (61 : Int32) → (Q (0 : Int32) M))))))))))))))))))))))))
set_option maxRecDepth 20000 in
theorem s_X5_rankOf {L : Lay} (hL : LY L) {p0 : Int32}  {M : Mem} {Q : Int32 → Mem → Prop} (hw : w_X5_rankOf L p0 M Q) : MX yX5_rankOf cX5_rankOf (some .int) 1 1 0 0 [.int p0] (L, M) (QI L Q) := by
  unfold w_X5_rankOf at hw
  refine MX_of (by decide) [.int p0] (by rfl) (by exact Nat.le_of_ble_eq_true rfl) ?_
  show X (FM (QI L Q)) RX5 cX5_rankOf (some .int) 1 "rankOf" 1 0 0 (L, M) 0 [.int p0] []
  refine X_iload_n 1 dX5_rankOf_0 rfl rfl ?_
  by_cases c1 : p0 = (9 : Int32)
  · have hw := hw.1 c1
    refine Y_lookIn 76 (k := 9) (off := 75) c1 dX5_rankOf_1 (by decide) (by decide) rfl ?_
    refine X_iconst 77 (v := 1) dX5_rankOf_76 rfl rfl ?_
    exact X_ret rfl rfl dX5_rankOf_77 ⟨_, _, rfl, rfl, hw⟩
  · have hw := hw.2 c1
    by_cases c2 : p0 = (10 : Int32)
    · have hw := hw.1 c2
      refine Y_lookIn 76 (k := 10) (off := 75) c2 dX5_rankOf_1 (by decide) (by decide) rfl ?_
      refine X_iconst 77 (v := 1) dX5_rankOf_76 rfl rfl ?_
      exact X_ret rfl rfl dX5_rankOf_77 ⟨_, _, rfl, rfl, hw⟩
    · have hw := hw.2 c2
      by_cases c3 : p0 = (42 : Int32)
      · have hw := hw.1 c3
        refine Y_lookIn 82 (k := 42) (off := 81) c3 dX5_rankOf_1 (by decide) (by decide) rfl ?_
        refine X_iconst 83 (v := 4) dX5_rankOf_82 rfl rfl ?_
        exact X_ret rfl rfl dX5_rankOf_83 ⟨_, _, rfl, rfl, hw⟩
      · have hw := hw.2 c3
        by_cases c4 : p0 = (43 : Int32)
        · have hw := hw.1 c4
          refine Y_lookIn 80 (k := 43) (off := 79) c4 dX5_rankOf_1 (by decide) (by decide) rfl ?_
          refine X_iconst 81 (v := 3) dX5_rankOf_80 rfl rfl ?_
          exact X_ret rfl rfl dX5_rankOf_81 ⟨_, _, rfl, rfl, hw⟩
        · have hw := hw.2 c4
          by_cases c5 : p0 = (45 : Int32)
          · have hw := hw.1 c5
            refine Y_lookIn 80 (k := 45) (off := 79) c5 dX5_rankOf_1 (by decide) (by decide) rfl ?_
            refine X_iconst 81 (v := 3) dX5_rankOf_80 rfl rfl ?_
            exact X_ret rfl rfl dX5_rankOf_81 ⟨_, _, rfl, rfl, hw⟩
          · have hw := hw.2 c5
            by_cases c6 : p0 = (47 : Int32)
            · have hw := hw.1 c6
              refine Y_lookIn 82 (k := 47) (off := 81) c6 dX5_rankOf_1 (by decide) (by decide) rfl ?_
              refine X_iconst 83 (v := 4) dX5_rankOf_82 rfl rfl ?_
              exact X_ret rfl rfl dX5_rankOf_83 ⟨_, _, rfl, rfl, hw⟩
            · have hw := hw.2 c6
              by_cases c7 : p0 = (60 : Int32)
              · have hw := hw.1 c7
                refine Y_lookIn 78 (k := 60) (off := 77) c7 dX5_rankOf_1 (by decide) (by decide) rfl ?_
                refine X_iconst 79 (v := 2) dX5_rankOf_78 rfl rfl ?_
                exact X_ret rfl rfl dX5_rankOf_79 ⟨_, _, rfl, rfl, hw⟩
              · have hw := hw.2 c7
                by_cases c8 : p0 = (61 : Int32)
                · have hw := hw.1 c8
                  refine Y_lookIn 78 (k := 61) (off := 77) c8 dX5_rankOf_1 (by decide) (by decide) rfl ?_
                  refine X_iconst 79 (v := 2) dX5_rankOf_78 rfl rfl ?_
                  exact X_ret rfl rfl dX5_rankOf_79 ⟨_, _, rfl, rfl, hw⟩
                · have hw := hw.2 c8
                  refine X_lookup 84 dX5_rankOf_1 (by decide) ((lv_osw c1 (by decide)).trans ((lv_osw c2 (by decide)).trans ((lv_osw c3 (by decide)).trans ((lv_osw c4 (by decide)).trans ((lv_osw c5 (by decide)).trans ((lv_osw c6 (by decide)).trans ((lv_osw c7 (by decide)).trans ((lv_osw c8 (by decide)).trans rfl)))))))) rfl ?_
                  refine X_iconst 85 (v := 0) dX5_rankOf_84 rfl rfl ?_
                  exact X_ret rfl rfl dX5_rankOf_85 ⟨_, _, rfl, rfl, hw⟩
def w_X5_takeOperator_64 (L : Lay)  (K14 : Int32 → Mem → Prop) (v1 : Int32) (M : Mem) (Q : Int32 → Mem → Prop) : Prop := vp_in ((mi M 71 10) - (1 : Int32)) 64 ∧ (w_X5_emit L ((20000 : Int32) + (mi M 74 (tn ((mi M 71 10) - (1 : Int32))))) M (fun M17 => (∀ M18 : Mem, M18 = si M17 71 10 ((mi M17 71 10) - (1 : Int32)) → (K14 v1 M18))))
set_option maxRecDepth 20000 in
theorem t_X5_takeOperator_64 {L : Lay} (hL : LY L)   {K14 : Int32 → Mem → Prop} {v1 : Int32}  {M : Mem} {Q : Int32 → Mem → Prop} (hw : w_X5_takeOperator_64 L  K14 v1 M Q) (hK14 : ∀ (v1 : Int32) (M : Mem), K14 v1 M → X (FM (QZ L Q)) RX5 cX5_takeOperator (some .boolean) 2 "takeOperator" 2 0 0 (L, M) 14 [.ref 71, .int v1] []) : X (FM (QZ L Q)) RX5 cX5_takeOperator (some .boolean) 2 "takeOperator" 2 0 0 (L, M) 64 [.ref 71, .int v1] [] := by
  unfold w_X5_takeOperator_64 at hw
  refine X_aload_n 65 dX5_takeOperator_64 rfl rfl ?_
  refine X_sipush 68 (v := 20000) dX5_takeOperator_65 rfl rfl ?_
  refine X_aload_n 69 dX5_takeOperator_68 rfl rfl ?_
  refine X_getR 72 f_X5_19 (hL.ob (c := 5) (by decide) rfl) rfl (hL.rr (by decide) rfl) dX5_takeOperator_69 rfl ?_
  refine X_aload_n 73 dX5_takeOperator_72 rfl rfl ?_
  refine X_getI 76 f_X5_106 (hL.ob (c := 5) (by decide) rfl) rfl dX5_takeOperator_73 rfl ?_
  refine X_iconst 77 (v := 1) dX5_takeOperator_76 rfl rfl ?_
  refine X_isub 78 dX5_takeOperator_77 rfl ?_
  obtain ⟨c16, hw⟩ := hw
  refine Y_iald 79 (k := (tn ((mi M 71 10) - (1 : Int32)))) (hL.ar (t := 0) (n := 64) (by decide) rfl) c16 rfl dX5_takeOperator_78 rfl ?_
  refine X_iadd 80 dX5_takeOperator_79 rfl ?_
  refine Y_cVV 83 (as := [.int (((20000 : Int32) + (mi M 74 (tn ((mi M 71 10) - (1 : Int32))))))]) m_X5_129 (s_X5_emit hL  hw) (hL.ob (c := 5) (by decide) rfl) rfl (by decide) (Nat.le_of_ble_eq_true rfl) dX5_takeOperator_80 rfl rfl (fun M17 hw => ?_)
  refine X_aload_n 84 dX5_takeOperator_83 rfl rfl ?_
  refine X_dup 85 dX5_takeOperator_84 rfl rfl ?_
  refine X_getI 88 f_X5_106 (hL.ob (c := 5) (by decide) rfl) rfl dX5_takeOperator_85 rfl ?_
  refine X_iconst 89 (v := 1) dX5_takeOperator_88 rfl rfl ?_
  refine X_isub 90 dX5_takeOperator_89 rfl ?_
  refine X_putI 93 f_X5_106 (Or.inl rfl) (hL.ob (c := 5) (by decide) rfl) rfl dX5_takeOperator_90 rfl ?_
  refine X_nmM (fun M18 eM18 => ?_)
  have hw := hw M18 eM18
  refine X_goto 14 dX5_takeOperator_93 rfl ?_
  exact hK14 v1 M18 hw
def w_X5_takeOperator_96 (L : Lay)    (M : Mem) (Q : Int32 → Mem → Prop) : Prop := w_X5_pushWaiting L  M (fun M14 => (∀ M15 : Mem, M15 = si M14 71 11 (1 : Int32) → (Q (1 : Int32) M15)))
set_option maxRecDepth 20000 in
theorem t_X5_takeOperator_96 {L : Lay} (hL : LY L)      {M : Mem} {Q : Int32 → Mem → Prop} (hw : w_X5_takeOperator_96 L    M Q)  : X (FM (QZ L Q)) RX5 cX5_takeOperator (some .boolean) 2 "takeOperator" 2 0 0 (L, M) 96 [.ref 71, junk] [] := by
  unfold w_X5_takeOperator_96 at hw
  refine X_aload_n 97 dX5_takeOperator_96 rfl rfl ?_
  refine Y_cVV 100 (as := []) m_X5_138 (s_X5_pushWaiting hL  hw) (hL.ob (c := 5) (by decide) rfl) rfl (by decide) (Nat.le_of_ble_eq_true rfl) dX5_takeOperator_97 rfl rfl (fun M14 hw => ?_)
  refine X_aload_n 101 dX5_takeOperator_100 rfl rfl ?_
  refine X_iconst 102 (v := 1) dX5_takeOperator_101 rfl rfl ?_
  refine X_putZ 105 f_X5_109 (Or.inr rfl) (Or.inl rfl) (hL.ob (c := 5) (by decide) rfl) rfl dX5_takeOperator_102 rfl ?_
  refine X_nmM (fun M15 eM15 => ?_)
  have hw := hw M15 eM15
  refine X_iconst 106 (v := 1) dX5_takeOperator_105 rfl rfl ?_
  exact X_ret rfl (nar_bool (Or.inr rfl)) dX5_takeOperator_106 ⟨_, _, rfl, Or.inr rfl, rfl, hw⟩
def w_X5_takeOperator_14 (L : Lay)  (K14 : Int32 → Mem → Prop) (v1 : Int32) (M : Mem) (Q : Int32 → Mem → Prop) : Prop := ((0 < (mi M 71 10) → (vp_in ((mi M 71 10) - (1 : Int32)) 64 ∧ (w_X5_rankOf L (mi M 74 (tn ((mi M 71 10) - (1 : Int32)))) M (fun x7 M6 => (((x7 < v1 → (w_X5_takeOperator_96 L    M6 Q)) ∧ (¬ x7 < v1 → (((v1 = (2 : Int32) → (vp_in ((mi M6 71 10) - (1 : Int32)) 64 ∧ (w_X5_rankOf L (mi M6 74 (tn ((mi M6 71 10) - (1 : Int32)))) M6 (fun x12 M11 => (((x12 = (2 : Int32) → (Q (0 : Int32) M11)) ∧ (¬ x12 = (2 : Int32) → (w_X5_takeOperator_64 L  K14 v1 M11 Q)))))))) ∧ (¬ v1 = (2 : Int32) → (w_X5_takeOperator_64 L  K14 v1 M6 Q))))))))))) ∧ (¬ 0 < (mi M 71 10) → (w_X5_takeOperator_96 L    M Q)))
set_option maxRecDepth 20000 in
theorem t_X5_takeOperator_14 {L : Lay} (hL : LY L)   {K14 : Int32 → Mem → Prop} {v1 : Int32}  {M : Mem} {Q : Int32 → Mem → Prop} (hw : w_X5_takeOperator_14 L  K14 v1 M Q) (hK14 : ∀ (v1 : Int32) (M : Mem), K14 v1 M → X (FM (QZ L Q)) RX5 cX5_takeOperator (some .boolean) 2 "takeOperator" 2 0 0 (L, M) 14 [.ref 71, .int v1] []) : X (FM (QZ L Q)) RX5 cX5_takeOperator (some .boolean) 2 "takeOperator" 2 0 0 (L, M) 14 [.ref 71, .int v1] [] := by
  unfold w_X5_takeOperator_14 at hw
  refine X_aload_n 15 dX5_takeOperator_14 rfl rfl ?_
  refine X_getI 18 f_X5_106 (hL.ob (c := 5) (by decide) rfl) rfl dX5_takeOperator_15 rfl ?_
  refine X_if_le 96 21 (y := 0) dX5_takeOperator_18 rfl rfl (fun c4 => ?_) (fun c4 => ?_)
  · have hw := hw.2 c4
    refine X_weak (ls' := [.ref 71, junk]) (WK.s (WK.j WK.n)) (Nat.le_of_ble_eq_true rfl) ?_
    exact t_X5_takeOperator_96 hL   hw 
  · have hw := hw.1 c4
    refine X_aload_n 22 dX5_takeOperator_21 rfl rfl ?_
    refine X_getR 25 f_X5_19 (hL.ob (c := 5) (by decide) rfl) rfl (hL.rr (by decide) rfl) dX5_takeOperator_22 rfl ?_
    refine X_aload_n 26 dX5_takeOperator_25 rfl rfl ?_
    refine X_getI 29 f_X5_106 (hL.ob (c := 5) (by decide) rfl) rfl dX5_takeOperator_26 rfl ?_
    refine X_iconst 30 (v := 1) dX5_takeOperator_29 rfl rfl ?_
    refine X_isub 31 dX5_takeOperator_30 rfl ?_
    obtain ⟨c5, hw⟩ := hw
    refine Y_iald 32 (k := (tn ((mi M 71 10) - (1 : Int32)))) (hL.ar (t := 0) (n := 64) (by decide) rfl) c5 rfl dX5_takeOperator_31 rfl ?_
    refine Y_cSI 35 (as := [.int ((mi M 74 (tn ((mi M 71 10) - (1 : Int32)))))]) m_X5_144 (s_X5_rankOf hL  hw) rfl (by decide) (Nat.le_of_ble_eq_true rfl) dX5_takeOperator_32 rfl rfl (fun x7 M6 hw => ?_)
    refine X_iload_n 36 dX5_takeOperator_35 rfl rfl ?_
    refine X_icmp_lt 96 39 dX5_takeOperator_36 rfl rfl (fun c8 => ?_) (fun c8 => ?_)
    · have hw := hw.1 c8
      refine X_weak (ls' := [.ref 71, junk]) (WK.s (WK.j WK.n)) (Nat.le_of_ble_eq_true rfl) ?_
      exact t_X5_takeOperator_96 hL   hw 
    · have hw := hw.2 c8
      refine X_iload_n 40 dX5_takeOperator_39 rfl rfl ?_
      refine X_iconst 41 (v := 2) dX5_takeOperator_40 rfl rfl ?_
      refine X_icmp_ne 64 44 dX5_takeOperator_41 rfl rfl (fun c9 => ?_) (fun c9 => ?_)
      · have hw := hw.2 c9
        exact t_X5_takeOperator_64 hL   hw hK14
      · have hw := hw.1 c9
        refine X_aload_n 45 dX5_takeOperator_44 rfl rfl ?_
        refine X_getR 48 f_X5_19 (hL.ob (c := 5) (by decide) rfl) rfl (hL.rr (by decide) rfl) dX5_takeOperator_45 rfl ?_
        refine X_aload_n 49 dX5_takeOperator_48 rfl rfl ?_
        refine X_getI 52 f_X5_106 (hL.ob (c := 5) (by decide) rfl) rfl dX5_takeOperator_49 rfl ?_
        refine X_iconst 53 (v := 1) dX5_takeOperator_52 rfl rfl ?_
        refine X_isub 54 dX5_takeOperator_53 rfl ?_
        obtain ⟨c10, hw⟩ := hw
        refine Y_iald 55 (k := (tn ((mi M6 71 10) - (1 : Int32)))) (hL.ar (t := 0) (n := 64) (by decide) rfl) c10 rfl dX5_takeOperator_54 rfl ?_
        refine Y_cSI 58 (as := [.int ((mi M6 74 (tn ((mi M6 71 10) - (1 : Int32)))))]) m_X5_144 (s_X5_rankOf hL  hw) rfl (by decide) (Nat.le_of_ble_eq_true rfl) dX5_takeOperator_55 rfl rfl (fun x12 M11 hw => ?_)
        refine X_iconst 59 (v := 2) dX5_takeOperator_58 rfl rfl ?_
        refine X_icmp_ne 64 62 dX5_takeOperator_59 rfl rfl (fun c13 => ?_) (fun c13 => ?_)
        · have hw := hw.2 c13
          exact t_X5_takeOperator_64 hL   hw hK14
        · have hw := hw.1 c13
          refine X_iconst 63 (v := 0) dX5_takeOperator_62 rfl rfl ?_
          exact X_ret rfl (nar_bool (Or.inl rfl)) dX5_takeOperator_63 ⟨_, _, rfl, Or.inl rfl, rfl, hw⟩
def w_X5_takeOperator (L : Lay)  (M : Mem) (Q : Int32 → Mem → Prop) : Prop := w_X5_rankOf L (mi M 71 3) M (fun x2 M1 => (((x2 = 0 → (Q (0 : Int32) M1)) ∧ (¬ x2 = 0 → (LP2 (fun K14 v1 M => w_X5_takeOperator_14 L   K14 v1 M Q) x2 M1)))))
set_option maxRecDepth 20000 in
theorem s_X5_takeOperator {L : Lay} (hL : LY L)   {M : Mem} {Q : Int32 → Mem → Prop} (hw : w_X5_takeOperator L  M Q) : MX yX5_takeOperator cX5_takeOperator (some .boolean) 2 2 0 0 [.ref 71] (L, M) (QZ L Q) := by
  unfold w_X5_takeOperator at hw
  refine MX_of (by decide) [.ref 71, junk] (by rfl) (by exact Nat.le_of_ble_eq_true rfl) ?_
  show X (FM (QZ L Q)) RX5 cX5_takeOperator (some .boolean) 2 "takeOperator" 2 0 0 (L, M) 0 [.ref 71, junk] []
  refine X_aload_n 1 dX5_takeOperator_0 rfl rfl ?_
  refine X_getI 4 f_X5_34 (hL.ob (c := 5) (by decide) rfl) rfl dX5_takeOperator_1 rfl ?_
  refine Y_cSI 7 (as := [.int ((mi M 71 3))]) m_X5_144 (s_X5_rankOf hL  hw) rfl (by decide) (Nat.le_of_ble_eq_true rfl) dX5_takeOperator_4 rfl rfl (fun x2 M1 hw => ?_)
  refine X_istore_n 8 (ls' := [.ref 71, .int x2]) dX5_takeOperator_7 rfl rfl (Nat.le_of_ble_eq_true rfl) rfl (Or.inr (Or.inr ⟨_, rfl, rfl⟩)) ?_
  refine X_iload_n 9 dX5_takeOperator_8 rfl rfl ?_
  refine X_if_ne 14 12 (y := 0) dX5_takeOperator_9 rfl rfl (fun c3 => ?_) (fun c3 => ?_)
  · have hw := hw.2 c3
    exact LP2_s hw (G := fun v1 M => X (FM (QZ L Q)) RX5 cX5_takeOperator (some .boolean) 2 "takeOperator" 2 0 0 (L, M) 14 [.ref 71, .int v1] []) (fun K14 v1 M hb hK => t_X5_takeOperator_14 hL  hb  hK)
  · have hw := hw.1 c3
    refine X_iconst 13 (v := 0) dX5_takeOperator_12 rfl rfl ?_
    exact X_ret rfl (nar_bool (Or.inl rfl)) dX5_takeOperator_13 ⟨_, _, rfl, Or.inl rfl, rfl, hw⟩
def w_X5_readExpression_121  (K121 : Lay → Nat → Nat → Mem → Prop)  (L : Lay) (rc rs : Nat) (M : Mem) (Q : Option Nat → Lay → Mem → Prop) : Prop := ((0 < (mi M 71 10) → (vp_in ((mi M 71 10) - (1 : Int32)) 64 ∧ (w_X5_emit L ((20000 : Int32) + (mi M 74 (tn ((mi M 71 10) - (1 : Int32))))) M (fun M30 => (∀ M31 : Mem, M31 = si M30 71 10 ((mi M30 71 10) - (1 : Int32)) → (K121  L rc rs M31)))))) ∧ (¬ 0 < (mi M 71 10) → (∃ n24 n25 : Nat, n24 ≤ rc ∧ n25 ≤ rs ∧ w_J7_copyOf_59c91 73 1000 (mi M 71 8) L n24 n25 M (fun x28 L26 M27 => (Q x28 L26 M27)))))
set_option maxRecDepth 20000 in
theorem t_X5_readExpression_121 {L0 L : Lay}  {K121 : Lay → Nat → Nat → Mem → Prop}  {rc rs : Nat} {M : Mem} {Q : Option Nat → Lay → Mem → Prop} (hL : LY L) (hLE : LE L0 L)   (hw : w_X5_readExpression_121  K121  L rc rs M Q) (hK121 : ∀  (L : Lay) (rc rs : Nat) (M : Mem), K121  L rc rs M → LY L → LE L0 L →   X (FM (QRa L0 Q)) RX5 cX5_readExpression (some (.array .int)) 3 "readExpression" 8 rc rs (L, M) 121 [.ref 71, junk, junk] []) : X (FM (QRa L0 Q)) RX5 cX5_readExpression (some (.array .int)) 3 "readExpression" 8 rc rs (L, M) 121 [.ref 71, junk, junk] [] := by
  unfold w_X5_readExpression_121 at hw
  refine X_aload_n 122 dX5_readExpression_121 rfl rfl ?_
  refine X_getI 125 f_X5_106 (hL.ob (c := 5) (by decide) rfl) rfl dX5_readExpression_122 rfl ?_
  refine X_if_le 160 128 (y := 0) dX5_readExpression_125 rfl rfl (fun c23 => ?_) (fun c23 => ?_)
  · have hw := hw.2 c23
    refine X_aload_n 161 dX5_readExpression_160 rfl rfl ?_
    refine X_getR 164 f_X5_15 (hL.ob (c := 5) (by decide) rfl) rfl (hL.rr (by decide) rfl) dX5_readExpression_161 rfl ?_
    refine X_aload_n 165 dX5_readExpression_164 rfl rfl ?_
    refine X_getI 168 f_X5_103 (hL.ob (c := 5) (by decide) rfl) rfl dX5_readExpression_165 rfl ?_
    obtain ⟨n24, n25, hn24, hn25, hw⟩ := hw
    refine Y_aSR 171 (as := [.ref 73, .int ((mi M 71 8))]) m_X5_132 (s_J7_copyOf_59c91 hL (hL.ar (t := 0) (n := 1000) (by decide) rfl) hw) rfl (by decide) hn24 hn25 (Nat.le_of_ble_eq_true rfl) dX5_readExpression_168 rfl rfl (fun x28 L26 M27 leL26 hw => ?_)
    have hLE := hLE.tr leL26
    have hL := leL26.ly hL
    exact X_retA (o := x28) rfl (Or.inr ⟨_, rfl⟩) dX5_readExpression_171 ⟨_, _, _, rfl, rfl, hLE, hw⟩
  · have hw := hw.1 c23
    refine X_aload_n 129 dX5_readExpression_128 rfl rfl ?_
    refine X_sipush 132 (v := 20000) dX5_readExpression_129 rfl rfl ?_
    refine X_aload_n 133 dX5_readExpression_132 rfl rfl ?_
    refine X_getR 136 f_X5_19 (hL.ob (c := 5) (by decide) rfl) rfl (hL.rr (by decide) rfl) dX5_readExpression_133 rfl ?_
    refine X_aload_n 137 dX5_readExpression_136 rfl rfl ?_
    refine X_getI 140 f_X5_106 (hL.ob (c := 5) (by decide) rfl) rfl dX5_readExpression_137 rfl ?_
    refine X_iconst 141 (v := 1) dX5_readExpression_140 rfl rfl ?_
    refine X_isub 142 dX5_readExpression_141 rfl ?_
    obtain ⟨c29, hw⟩ := hw
    refine Y_iald 143 (k := (tn ((mi M 71 10) - (1 : Int32)))) (hL.ar (t := 0) (n := 64) (by decide) rfl) c29 rfl dX5_readExpression_142 rfl ?_
    refine X_iadd 144 dX5_readExpression_143 rfl ?_
    refine Y_cVV 147 (as := [.int (((20000 : Int32) + (mi M 74 (tn ((mi M 71 10) - (1 : Int32))))))]) m_X5_129 (s_X5_emit hL  hw) (hL.ob (c := 5) (by decide) rfl) rfl (by decide) (Nat.le_of_ble_eq_true rfl) dX5_readExpression_144 rfl rfl (fun M30 hw => ?_)
    refine X_aload_n 148 dX5_readExpression_147 rfl rfl ?_
    refine X_dup 149 dX5_readExpression_148 rfl rfl ?_
    refine X_getI 152 f_X5_106 (hL.ob (c := 5) (by decide) rfl) rfl dX5_readExpression_149 rfl ?_
    refine X_iconst 153 (v := 1) dX5_readExpression_152 rfl rfl ?_
    refine X_isub 154 dX5_readExpression_153 rfl ?_
    refine X_putI 157 f_X5_106 (Or.inl rfl) (hL.ob (c := 5) (by decide) rfl) rfl dX5_readExpression_154 rfl ?_
    refine X_nmM (fun M31 eM31 => ?_)
    have hw := hw M31 eM31
    refine X_goto 121 dX5_readExpression_157 rfl ?_
    exact hK121  L rc rs M31 hw hL hLE  
def w_X5_readExpression_112    (L : Lay) (rc rs : Nat) (M : Mem) (Q : Option Nat → Lay → Mem → Prop) : Prop := (((mi M 71 2) = 0 → (LP4 (fun K121  L rc rs M => w_X5_readExpression_121   K121  L rc rs M Q)  L rc rs M)) ∧ (¬ (mi M 71 2) = 0 → (Q none L M)))
set_option maxRecDepth 20000 in
theorem t_X5_readExpression_112 {L0 L : Lay}    {rc rs : Nat} {M : Mem} {Q : Option Nat → Lay → Mem → Prop} (hL : LY L) (hLE : LE L0 L)   (hw : w_X5_readExpression_112    L rc rs M Q)  : X (FM (QRa L0 Q)) RX5 cX5_readExpression (some (.array .int)) 3 "readExpression" 8 rc rs (L, M) 112 [.ref 71, junk, junk] [] := by
  unfold w_X5_readExpression_112 at hw
  refine X_aload_n 113 dX5_readExpression_112 rfl rfl ?_
  refine X_getI 116 f_X5_37 (hL.ob (c := 5) (by decide) rfl) rfl dX5_readExpression_113 rfl ?_
  refine X_if_eq 121 119 (y := 0) dX5_readExpression_116 rfl rfl (fun c22 => ?_) (fun c22 => ?_)
  · have hw := hw.1 c22
    exact LP4_s hw (G := fun  L rc rs M => LY L → LE L0 L →   X (FM (QRa L0 Q)) RX5 cX5_readExpression (some (.array .int)) 3 "readExpression" 8 rc rs (L, M) 121 [.ref 71, junk, junk] []) (fun K121  L rc rs M hb hK hL hLE   => t_X5_readExpression_121 hL hLE   hb  hK) hL hLE  
  · have hw := hw.2 c22
    refine X_null 120 dX5_readExpression_119 rfl ?_
    exact X_retA (o := none) rfl (Or.inr ⟨_, rfl⟩) dX5_readExpression_120 ⟨_, _, _, rfl, rfl, hLE, hw⟩
def w_X5_readExpression_107    (L : Lay) (rc rs : Nat) (M : Mem) (Q : Option Nat → Lay → Mem → Prop) : Prop := w_X5_refuse L (1 : Int32) M (fun M21 => (w_X5_readExpression_112    L rc rs M21 Q))
set_option maxRecDepth 20000 in
theorem t_X5_readExpression_107 {L0 L : Lay}    {rc rs : Nat} {M : Mem} {Q : Option Nat → Lay → Mem → Prop} (hL : LY L) (hLE : LE L0 L)   (hw : w_X5_readExpression_107    L rc rs M Q)  : X (FM (QRa L0 Q)) RX5 cX5_readExpression (some (.array .int)) 3 "readExpression" 8 rc rs (L, M) 107 [.ref 71, junk, junk] [] := by
  unfold w_X5_readExpression_107 at hw
  refine X_aload_n 108 dX5_readExpression_107 rfl rfl ?_
  refine X_iconst 109 (v := 1) dX5_readExpression_108 rfl rfl ?_
  refine Y_cVV 112 (as := [.int (1 : Int32)]) m_X5_44 (s_X5_refuse hL  hw) (hL.ob (c := 5) (by decide) rfl) rfl (by decide) (Nat.le_of_ble_eq_true rfl) dX5_readExpression_109 rfl rfl (fun M21 hw => ?_)
  exact t_X5_readExpression_112 hL hLE   hw 
def w_X5_readExpression_93    (L : Lay) (rc rs : Nat) (M : Mem) (Q : Option Nat → Lay → Mem → Prop) : Prop := (((mi M 71 11) = 0 → (((0 < (mi M 71 12) → (w_X5_readExpression_107    L rc rs M Q)) ∧ (¬ 0 < (mi M 71 12) → (w_X5_readExpression_112    L rc rs M Q))))) ∧ (¬ (mi M 71 11) = 0 → (w_X5_readExpression_107    L rc rs M Q)))
set_option maxRecDepth 20000 in
theorem t_X5_readExpression_93 {L0 L : Lay}    {rc rs : Nat} {M : Mem} {Q : Option Nat → Lay → Mem → Prop} (hL : LY L) (hLE : LE L0 L)   (hw : w_X5_readExpression_93    L rc rs M Q)  : X (FM (QRa L0 Q)) RX5 cX5_readExpression (some (.array .int)) 3 "readExpression" 8 rc rs (L, M) 93 [.ref 71, junk, junk] [] := by
  unfold w_X5_readExpression_93 at hw
  refine X_aload_n 94 dX5_readExpression_93 rfl rfl ?_
  refine X_getI 97 f_X5_109 (hL.ob (c := 5) (by decide) rfl) rfl dX5_readExpression_94 rfl ?_
  refine X_if_ne 107 100 (y := 0) dX5_readExpression_97 rfl rfl (fun c16 => ?_) (fun c16 => ?_)
  · have hw := hw.2 c16
    exact t_X5_readExpression_107 hL hLE   hw 
  · have hw := hw.1 c16
    refine X_aload_n 101 dX5_readExpression_100 rfl rfl ?_
    refine X_getI 104 f_X5_113 (hL.ob (c := 5) (by decide) rfl) rfl dX5_readExpression_101 rfl ?_
    refine X_if_le 112 107 (y := 0) dX5_readExpression_104 rfl rfl (fun c17 => ?_) (fun c17 => ?_)
    · have hw := hw.2 c17
      exact t_X5_readExpression_112 hL hLE   hw 
    · have hw := hw.1 c17
      exact t_X5_readExpression_107 hL hLE   hw 
def w_X5_readExpression_75  (K27 : Int32 → Lay → Nat → Nat → Mem → Prop) (v1 : Int32) (y0 : Int32) (L : Lay) (rc rs : Nat) (M : Mem) (Q : Option Nat → Lay → Mem → Prop) : Prop := ((y0 = 0 → (w_X5_readExpression_93    L rc rs M Q)) ∧ (¬ y0 = 0 → (w_X5_next L  M (fun M19 => (∀ x20 : Int32, x20 = v1 + (1 : Int32) → (K27 x20 L rc rs M19))))))
set_option maxRecDepth 20000 in
theorem t_X5_readExpression_75 {L0 L : Lay}  {K27 : Int32 → Lay → Nat → Nat → Mem → Prop} {v1 : Int32} {y0 : Int32} {rc rs : Nat} {M : Mem} {Q : Option Nat → Lay → Mem → Prop} (hL : LY L) (hLE : LE L0 L)   (hw : w_X5_readExpression_75  K27 v1 y0 L rc rs M Q) (hK27 : ∀ (v1 : Int32) (L : Lay) (rc rs : Nat) (M : Mem), K27 v1 L rc rs M → LY L → LE L0 L →   X (FM (QRa L0 Q)) RX5 cX5_readExpression (some (.array .int)) 3 "readExpression" 8 rc rs (L, M) 27 [.ref 71, .int v1, junk] []) : X (FM (QRa L0 Q)) RX5 cX5_readExpression (some (.array .int)) 3 "readExpression" 8 rc rs (L, M) 75 [.ref 71, .int v1, junk] [.int y0] := by
  unfold w_X5_readExpression_75 at hw
  refine X_istore_n 76 (ls' := [.ref 71, .int v1, .int y0]) dX5_readExpression_75 rfl rfl (Nat.le_of_ble_eq_true rfl) rfl (Or.inr (Or.inr ⟨_, rfl, rfl⟩)) ?_
  refine X_iload_n 77 dX5_readExpression_76 rfl rfl ?_
  refine X_if_ne 83 80 (y := 0) dX5_readExpression_77 rfl rfl (fun c18 => ?_) (fun c18 => ?_)
  · have hw := hw.2 c18
    refine X_aload_n 84 dX5_readExpression_83 rfl rfl ?_
    refine Y_cVV 87 (as := []) m_X5_55 (s_X5_next hL  hw) (hL.ob (c := 5) (by decide) rfl) rfl (by decide) (Nat.le_of_ble_eq_true rfl) dX5_readExpression_84 rfl rfl (fun M19 hw => ?_)
    obtain ⟨x20, ex20⟩ : ∃ x20 : Int32, x20 = v1 + (1 : Int32) := ⟨_, rfl⟩
    have hw := hw x20 ex20
    refine X_iinc 90 (v := x20) (ls' := [.ref 71, .int x20, .int y0]) dX5_readExpression_87 rfl rfl (by rw [ex20]; rfl) rfl (Or.inr (Or.inr ⟨_, rfl, rfl⟩)) ?_
    refine X_goto 27 dX5_readExpression_90 rfl ?_
    refine X_weak (ls' := [.ref 71, .int x20, junk]) (WK.s (WK.s (WK.j WK.n))) (Nat.le_of_ble_eq_true rfl) ?_
    exact hK27 x20 L rc rs M19 hw hL hLE  
  · have hw := hw.1 c18
    refine X_goto 93 dX5_readExpression_80 rfl ?_
    refine X_weak (ls' := [.ref 71, junk, junk]) (WK.s (WK.j (WK.j WK.n))) (Nat.le_of_ble_eq_true rfl) ?_
    exact t_X5_readExpression_93 hL hLE   hw 
def w_X5_readExpression_27  (K27 : Int32 → Lay → Nat → Nat → Mem → Prop) (v1 : Int32) (L : Lay) (rc rs : Nat) (M : Mem) (Q : Option Nat → Lay → Mem → Prop) : Prop := ((v1 < (1000 : Int32) → ((((mi M 71 2) = 0 → ((((mi M 71 11) = 0 → ((((mi M 71 3) = (41 : Int32) → (w_X5_closePart L  M (fun x13 M12 => (w_X5_readExpression_75  K27 v1 x13 L rc rs M12 Q)))) ∧ (¬ (mi M 71 3) = (41 : Int32) → (w_X5_takeOperator L  M (fun x11 M10 => (w_X5_readExpression_75  K27 v1 x11 L rc rs M10 Q))))))) ∧ (¬ (mi M 71 11) = 0 → (w_X5_takePart L  M (fun x15 M14 => (w_X5_readExpression_75  K27 v1 x15 L rc rs M14 Q))))))) ∧ (¬ (mi M 71 2) = 0 → (w_X5_readExpression_93    L rc rs M Q))))) ∧ (¬ v1 < (1000 : Int32) → (w_X5_readExpression_93    L rc rs M Q)))
set_option maxRecDepth 20000 in
theorem t_X5_readExpression_27 {L0 L : Lay}  {K27 : Int32 → Lay → Nat → Nat → Mem → Prop} {v1 : Int32} {rc rs : Nat} {M : Mem} {Q : Option Nat → Lay → Mem → Prop} (hL : LY L) (hLE : LE L0 L)   (hw : w_X5_readExpression_27  K27 v1 L rc rs M Q) (hK27 : ∀ (v1 : Int32) (L : Lay) (rc rs : Nat) (M : Mem), K27 v1 L rc rs M → LY L → LE L0 L →   X (FM (QRa L0 Q)) RX5 cX5_readExpression (some (.array .int)) 3 "readExpression" 8 rc rs (L, M) 27 [.ref 71, .int v1, junk] []) : X (FM (QRa L0 Q)) RX5 cX5_readExpression (some (.array .int)) 3 "readExpression" 8 rc rs (L, M) 27 [.ref 71, .int v1, junk] [] := by
  unfold w_X5_readExpression_27 at hw
  refine X_iload_n 28 dX5_readExpression_27 rfl rfl ?_
  refine X_sipush 31 (v := 1000) dX5_readExpression_28 rfl rfl ?_
  refine X_icmp_ge 93 34 dX5_readExpression_31 rfl rfl (fun c6 => ?_) (fun c6 => ?_)
  · have hw := hw.2 c6
    refine X_weak (ls' := [.ref 71, junk, junk]) (WK.s (WK.j (WK.s WK.n))) (Nat.le_of_ble_eq_true rfl) ?_
    exact t_X5_readExpression_93 hL hLE   hw 
  · have hw := hw.1 c6
    refine X_aload_n 35 dX5_readExpression_34 rfl rfl ?_
    refine X_getI 38 f_X5_37 (hL.ob (c := 5) (by decide) rfl) rfl dX5_readExpression_35 rfl ?_
    refine X_if_ne 93 41 (y := 0) dX5_readExpression_38 rfl rfl (fun c7 => ?_) (fun c7 => ?_)
    · have hw := hw.2 c7
      refine X_weak (ls' := [.ref 71, junk, junk]) (WK.s (WK.j (WK.s WK.n))) (Nat.le_of_ble_eq_true rfl) ?_
      exact t_X5_readExpression_93 hL hLE   hw 
    · have hw := hw.1 c7
      refine X_aload_n 42 dX5_readExpression_41 rfl rfl ?_
      refine X_getI 45 f_X5_109 (hL.ob (c := 5) (by decide) rfl) rfl dX5_readExpression_42 rfl ?_
      refine X_if_eq 55 48 (y := 0) dX5_readExpression_45 rfl rfl (fun c8 => ?_) (fun c8 => ?_)
      · have hw := hw.1 c8
        refine X_aload_n 56 dX5_readExpression_55 rfl rfl ?_
        refine X_getI 59 f_X5_34 (hL.ob (c := 5) (by decide) rfl) rfl dX5_readExpression_56 rfl ?_
        refine X_bipush 61 (v := 41) dX5_readExpression_59 rfl rfl ?_
        refine X_icmp_ne 71 64 dX5_readExpression_61 rfl rfl (fun c9 => ?_) (fun c9 => ?_)
        · have hw := hw.2 c9
          refine X_aload_n 72 dX5_readExpression_71 rfl rfl ?_
          refine Y_cVZ 75 (as := []) m_X5_126 (s_X5_takeOperator hL  hw) (hL.ob (c := 5) (by decide) rfl) rfl (by decide) (Nat.le_of_ble_eq_true rfl) dX5_readExpression_72 rfl rfl (fun x11 M10 bx11 hw => ?_)
          exact t_X5_readExpression_75 hL hLE   hw hK27
        · have hw := hw.1 c9
          refine X_aload_n 65 dX5_readExpression_64 rfl rfl ?_
          refine Y_cVZ 68 (as := []) m_X5_123 (s_X5_closePart hL  hw) (hL.ob (c := 5) (by decide) rfl) rfl (by decide) (Nat.le_of_ble_eq_true rfl) dX5_readExpression_65 rfl rfl (fun x13 M12 bx13 hw => ?_)
          refine X_goto 75 dX5_readExpression_68 rfl ?_
          exact t_X5_readExpression_75 hL hLE   hw hK27
      · have hw := hw.2 c8
        refine X_aload_n 49 dX5_readExpression_48 rfl rfl ?_
        refine Y_cVZ 52 (as := []) m_X5_119 (s_X5_takePart hL  hw) (hL.ob (c := 5) (by decide) rfl) rfl (by decide) (Nat.le_of_ble_eq_true rfl) dX5_readExpression_49 rfl rfl (fun x15 M14 bx15 hw => ?_)
        refine X_goto 75 dX5_readExpression_52 rfl ?_
        exact t_X5_readExpression_75 hL hLE   hw hK27
def w_X5_readExpression  (L : Lay) (rc rs : Nat) (M : Mem) (Q : Option Nat → Lay → Mem → Prop) : Prop := ∀ M1 : Mem, M1 = si M 71 8 (0 : Int32) → (∀ M2 : Mem, M2 = si M1 71 10 (0 : Int32) → (∀ M3 : Mem, M3 = si M2 71 11 (1 : Int32) → (∀ M4 : Mem, M4 = si M3 71 12 (0 : Int32) → (∀ M5 : Mem, M5 = si M4 71 13 (0 : Int32) → (LP5 (fun K27 v1 L rc rs M => w_X5_readExpression_27   K27 v1 L rc rs M Q) (0 : Int32) L rc rs M5)))))
set_option maxRecDepth 20000 in
theorem s_X5_readExpression {L : Lay}  {rc rs : Nat} {M : Mem} {Q : Option Nat → Lay → Mem → Prop} (hL : LY L)  (hw : w_X5_readExpression  L rc rs M Q) : MX yX5_readExpression cX5_readExpression (some (.array .int)) 3 8 rc rs [.ref 71] (L, M) (QRa L Q) := by
  unfold w_X5_readExpression at hw
  obtain ⟨L0, eL0⟩ : ∃ L0, L0 = L := ⟨L, rfl⟩
  rw [show QRa L Q = QRa L0 Q from by rw [eL0]]
  have hLE : LE L0 L := by rw [eL0]; exact LE.rf L
  refine MX_of (by decide) [.ref 71, junk, junk] (by rfl) (by exact Nat.le_of_ble_eq_true rfl) ?_
  show X (FM (QRa L0 Q)) RX5 cX5_readExpression (some (.array .int)) 3 "readExpression" 8 rc rs (L, M) 0 [.ref 71, junk, junk] []
  refine X_aload_n 1 dX5_readExpression_0 rfl rfl ?_
  refine X_iconst 2 (v := 0) dX5_readExpression_1 rfl rfl ?_
  refine X_putI 5 f_X5_103 (Or.inl rfl) (hL.ob (c := 5) (by decide) rfl) rfl dX5_readExpression_2 rfl ?_
  refine X_nmM (fun M1 eM1 => ?_)
  have hw := hw M1 eM1
  refine X_aload_n 6 dX5_readExpression_5 rfl rfl ?_
  refine X_iconst 7 (v := 0) dX5_readExpression_6 rfl rfl ?_
  refine X_putI 10 f_X5_106 (Or.inl rfl) (hL.ob (c := 5) (by decide) rfl) rfl dX5_readExpression_7 rfl ?_
  refine X_nmM (fun M2 eM2 => ?_)
  have hw := hw M2 eM2
  refine X_aload_n 11 dX5_readExpression_10 rfl rfl ?_
  refine X_iconst 12 (v := 1) dX5_readExpression_11 rfl rfl ?_
  refine X_putZ 15 f_X5_109 (Or.inr rfl) (Or.inl rfl) (hL.ob (c := 5) (by decide) rfl) rfl dX5_readExpression_12 rfl ?_
  refine X_nmM (fun M3 eM3 => ?_)
  have hw := hw M3 eM3
  refine X_aload_n 16 dX5_readExpression_15 rfl rfl ?_
  refine X_iconst 17 (v := 0) dX5_readExpression_16 rfl rfl ?_
  refine X_putI 20 f_X5_113 (Or.inl rfl) (hL.ob (c := 5) (by decide) rfl) rfl dX5_readExpression_17 rfl ?_
  refine X_nmM (fun M4 eM4 => ?_)
  have hw := hw M4 eM4
  refine X_aload_n 21 dX5_readExpression_20 rfl rfl ?_
  refine X_iconst 22 (v := 0) dX5_readExpression_21 rfl rfl ?_
  refine X_putI 25 f_X5_116 (Or.inl rfl) (hL.ob (c := 5) (by decide) rfl) rfl dX5_readExpression_22 rfl ?_
  refine X_nmM (fun M5 eM5 => ?_)
  have hw := hw M5 eM5
  refine X_iconst 26 (v := 0) dX5_readExpression_25 rfl rfl ?_
  refine X_istore_n 27 (ls' := [.ref 71, .int (0 : Int32), junk]) dX5_readExpression_26 rfl rfl (Nat.le_of_ble_eq_true rfl) rfl (Or.inr (Or.inr ⟨_, rfl, rfl⟩)) ?_
  exact LP5_s hw (G := fun v1 L rc rs M => LY L → LE L0 L →   X (FM (QRa L0 Q)) RX5 cX5_readExpression (some (.array .int)) 3 "readExpression" 8 rc rs (L, M) 27 [.ref 71, .int v1, junk] []) (fun K27 v1 L rc rs M hb hK hL hLE   => t_X5_readExpression_27 hL hLE   hb  hK) hL hLE  
def w_X5_readNumber_32 (L : Lay) (p0 : Int32)  (v2 : Int32) (M : Mem) (Q : Int32 → Mem → Prop) : Prop := w_X5_next L  M (fun M6 => (Q v2 M6))
set_option maxRecDepth 20000 in
theorem t_X5_readNumber_32 {L : Lay} (hL : LY L) {p0 : Int32}   {v2 : Int32}  {M : Mem} {Q : Int32 → Mem → Prop} (hw : w_X5_readNumber_32 L p0  v2 M Q)  : X (FM (QI L Q)) RX5 cX5_readNumber (some .int) 3 "readNumber" 8 0 0 (L, M) 32 [.ref 71, junk, .int v2] [] := by
  unfold w_X5_readNumber_32 at hw
  refine X_aload_n 33 dX5_readNumber_32 rfl rfl ?_
  refine Y_cVV 36 (as := []) m_X5_55 (s_X5_next hL  hw) (hL.ob (c := 5) (by decide) rfl) rfl (by decide) (Nat.le_of_ble_eq_true rfl) dX5_readNumber_33 rfl rfl (fun M6 hw => ?_)
  refine X_iload_n 37 dX5_readNumber_36 rfl rfl ?_
  exact X_ret rfl rfl dX5_readNumber_37 ⟨_, _, rfl, rfl, hw⟩
def w_X5_readNumber (L : Lay) (p0 : Int32) (M : Mem) (Q : Int32 → Mem → Prop) : Prop := ∀ x1 : Int32, x1 = (mi M 71 4) → ((((mi M 71 3) = (30 : Int32) → (((p0 < x1 → (w_X5_refuse L (4 : Int32) M (fun M4 => (w_X5_readNumber_32 L p0  x1 M4 Q)))) ∧ (¬ p0 < x1 → (w_X5_readNumber_32 L p0  x1 M Q))))) ∧ (¬ (mi M 71 3) = (30 : Int32) → (w_X5_refuse L (1 : Int32) M (fun M5 => (w_X5_readNumber_32 L p0  x1 M5 Q))))))
set_option maxRecDepth 20000 in
theorem s_X5_readNumber {L : Lay} (hL : LY L) {p0 : Int32}  {M : Mem} {Q : Int32 → Mem → Prop} (hw : w_X5_readNumber L p0 M Q) : MX yX5_readNumber cX5_readNumber (some .int) 3 8 0 0 [.ref 71, .int p0] (L, M) (QI L Q) := by
  unfold w_X5_readNumber at hw
  refine MX_of (by decide) [.ref 71, .int p0, junk] (by rfl) (by exact Nat.le_of_ble_eq_true rfl) ?_
  show X (FM (QI L Q)) RX5 cX5_readNumber (some .int) 3 "readNumber" 8 0 0 (L, M) 0 [.ref 71, .int p0, junk] []
  refine X_aload_n 1 dX5_readNumber_0 rfl rfl ?_
  refine X_getI 4 f_X5_97 (hL.ob (c := 5) (by decide) rfl) rfl dX5_readNumber_1 rfl ?_
  refine X_nmI (fun x1 ex1 => ?_)
  have hw := hw x1 ex1
  refine X_istore_n 5 (ls' := [.ref 71, .int p0, .int x1]) dX5_readNumber_4 rfl rfl (Nat.le_of_ble_eq_true rfl) rfl (Or.inr (Or.inr ⟨_, rfl, rfl⟩)) ?_
  refine X_aload_n 6 dX5_readNumber_5 rfl rfl ?_
  refine X_getI 9 f_X5_34 (hL.ob (c := 5) (by decide) rfl) rfl dX5_readNumber_6 rfl ?_
  refine X_bipush 11 (v := 30) dX5_readNumber_9 rfl rfl ?_
  refine X_icmp_eq 22 14 dX5_readNumber_11 rfl rfl (fun c2 => ?_) (fun c2 => ?_)
  · have hw := hw.1 c2
    refine X_iload_n 23 dX5_readNumber_22 rfl rfl ?_
    refine X_iload_n 24 dX5_readNumber_23 rfl rfl ?_
    refine X_icmp_le 32 27 dX5_readNumber_24 rfl rfl (fun c3 => ?_) (fun c3 => ?_)
    · have hw := hw.2 c3
      refine X_weak (ls' := [.ref 71, junk, .int x1]) (WK.s (WK.j (WK.s WK.n))) (Nat.le_of_ble_eq_true rfl) ?_
      exact t_X5_readNumber_32 hL   hw 
    · have hw := hw.1 c3
      refine X_aload_n 28 dX5_readNumber_27 rfl rfl ?_
      refine X_iconst 29 (v := 4) dX5_readNumber_28 rfl rfl ?_
      refine Y_cVV 32 (as := [.int (4 : Int32)]) m_X5_44 (s_X5_refuse hL  hw) (hL.ob (c := 5) (by decide) rfl) rfl (by decide) (Nat.le_of_ble_eq_true rfl) dX5_readNumber_29 rfl rfl (fun M4 hw => ?_)
      refine X_weak (ls' := [.ref 71, junk, .int x1]) (WK.s (WK.j (WK.s WK.n))) (Nat.le_of_ble_eq_true rfl) ?_
      exact t_X5_readNumber_32 hL   hw 
  · have hw := hw.2 c2
    refine X_aload_n 15 dX5_readNumber_14 rfl rfl ?_
    refine X_iconst 16 (v := 1) dX5_readNumber_15 rfl rfl ?_
    refine Y_cVV 19 (as := [.int (1 : Int32)]) m_X5_44 (s_X5_refuse hL  hw) (hL.ob (c := 5) (by decide) rfl) rfl (by decide) (Nat.le_of_ble_eq_true rfl) dX5_readNumber_16 rfl rfl (fun M5 hw => ?_)
    refine X_goto 32 dX5_readNumber_19 rfl ?_
    refine X_weak (ls' := [.ref 71, junk, .int x1]) (WK.s (WK.j (WK.s WK.n))) (Nat.le_of_ble_eq_true rfl) ?_
    exact t_X5_readNumber_32 hL   hw 
def w_X5_readPactLine_178 (pa : Nat)   (L : Lay) (rc rs : Nat) (M : Mem) (Q : Lay → Mem → Prop) : Prop := w_X5_expect L (59 : Int32) M (fun M40 => (Q L M40))
set_option maxRecDepth 20000 in
theorem t_X5_readPactLine_178 {L0 L : Lay} {pa : Nat}   {rc rs : Nat} {M : Mem} {Q : Lay → Mem → Prop} (hL : LY L) (hLE : LE L0 L) (hhpa : OB L pa 4)  (hw : w_X5_readPactLine_178 pa   L rc rs M Q)  : X (FM (QVa L0 Q)) RX5 cX5_readPactLine none 3 "readPactLine" 9 rc rs (L, M) 178 [.ref 71, junk, junk] [] := by
  unfold w_X5_readPactLine_178 at hw
  refine X_aload_n 179 dX5_readPactLine_178 rfl rfl ?_
  refine X_bipush 181 (v := 59) dX5_readPactLine_179 rfl rfl ?_
  refine Y_cVV 184 (as := [.int (59 : Int32)]) m_X5_58 (s_X5_expect hL  hw) (hL.ob (c := 5) (by decide) rfl) rfl (by decide) (Nat.le_of_ble_eq_true rfl) dX5_readPactLine_181 rfl rfl (fun M40 hw => ?_)
  exact X_retV rfl dX5_readPactLine_184 ⟨_, _, rfl, rfl, hLE, hw⟩
def w_X5_readPactLine_149 (pa : Nat)   (L : Lay) (rc rs : Nat) (M : Mem) (Q : Lay → Mem → Prop) : Prop := w_X5_next L  M (fun M41 => (w_X5_readPactLine_178 pa   L rc rs M41 Q))
set_option maxRecDepth 20000 in
theorem t_X5_readPactLine_149 {L0 L : Lay} {pa : Nat}   {rc rs : Nat} {M : Mem} {Q : Lay → Mem → Prop} (hL : LY L) (hLE : LE L0 L) (hhpa : OB L pa 4)  (hw : w_X5_readPactLine_149 pa   L rc rs M Q)  : X (FM (QVa L0 Q)) RX5 cX5_readPactLine none 3 "readPactLine" 9 rc rs (L, M) 149 [.ref 71, junk, junk] [] := by
  unfold w_X5_readPactLine_149 at hw
  refine X_aload_n 150 dX5_readPactLine_149 rfl rfl ?_
  refine Y_cVV 153 (as := []) m_X5_55 (s_X5_next hL  hw) (hL.ob (c := 5) (by decide) rfl) rfl (by decide) (Nat.le_of_ble_eq_true rfl) dX5_readPactLine_150 rfl rfl (fun M41 hw => ?_)
  refine X_goto 178 dX5_readPactLine_153 rfl ?_
  exact t_X5_readPactLine_178 hL hLE hhpa  hw 
def w_X5_readPactLine_53 (pa : Nat)  (v2 : Int32) (L : Lay) (rc rs : Nat) (M : Mem) (Q : Lay → Mem → Prop) : Prop := (((mi M 71 2) = 0 → (w_X5_next L  M (fun M12 => (((v2 = (3 : Int32) → (w_X5_expect L (6 : Int32) M12 (fun M14 => (∃ n15 n16 : Nat, n15 ≤ rc ∧ n16 ≤ rs ∧ w_X5_readExpression  L n15 n16 M14 (fun x19 L17 M18 => (∃ n20 n21 : Nat, n20 ≤ (rc - n15) ∧ n21 ≤ (rs - n16) ∧ w_X4_addFall pa x19 L17 n20 n21 M18 (fun L22 M23 => (w_X5_readPactLine_178 pa   L22 ((rc - n15) - n20) ((rs - n16) - n21) M23 Q)))))))) ∧ (¬ v2 = (3 : Int32) → (((v2 = (4 : Int32) → (∀ M25 : Mem, M25 = si M12 pa 5 (mi M12 71 3) → ((((mi M25 71 3) = (13 : Int32) → (w_X5_readPactLine_149 pa   L rc rs M25 Q)) ∧ (¬ (mi M25 71 3) = (13 : Int32) → ((((mi M25 71 3) = (14 : Int32) → (w_X5_readPactLine_149 pa   L rc rs M25 Q)) ∧ (¬ (mi M25 71 3) = (14 : Int32) → ((((mi M25 71 3) = (12 : Int32) → (w_X5_readPactLine_149 pa   L rc rs M25 Q)) ∧ (¬ (mi M25 71 3) = (12 : Int32) → (w_X5_refuse L (1 : Int32) M25 (fun M29 => (w_X5_readPactLine_149 pa   L rc rs M29 Q)))))))))))))) ∧ (¬ v2 = (4 : Int32) → (((v2 = (5 : Int32) → (w_X5_readNumber L (50 : Int32) M12 (fun x32 M31 => (∀ M33 : Mem, M33 = si M31 pa 6 x32 → (w_X5_readPactLine_178 pa   L rc rs M33 Q))))) ∧ (¬ v2 = (5 : Int32) → (∃ n34 n35 : Nat, n34 ≤ rc ∧ n35 ≤ rs ∧ w_X5_readExpression  L n34 n35 M12 (fun x38 L36 M37 => (w_X4_setLine L36 pa v2 x38 M37 (fun M39 => (w_X5_readPactLine_178 pa   L36 (rc - n34) (rs - n35) M39 Q))))))))))))))))) ∧ (¬ (mi M 71 2) = 0 → (Q L M)))
set_option maxRecDepth 20000 in
theorem t_X5_readPactLine_53 {L0 L : Lay} {pa : Nat}  {v2 : Int32} {rc rs : Nat} {M : Mem} {Q : Lay → Mem → Prop} (hL : LY L) (hLE : LE L0 L) (hhpa : OB L pa 4)  (hw : w_X5_readPactLine_53 pa  v2 L rc rs M Q)  : X (FM (QVa L0 Q)) RX5 cX5_readPactLine none 3 "readPactLine" 9 rc rs (L, M) 53 [.ref 71, .ref pa, .int v2] [] := by
  unfold w_X5_readPactLine_53 at hw
  refine X_aload_n 54 dX5_readPactLine_53 rfl rfl ?_
  refine X_getI 57 f_X5_37 (hL.ob (c := 5) (by decide) rfl) rfl dX5_readPactLine_54 rfl ?_
  refine X_if_eq 61 60 (y := 0) dX5_readPactLine_57 rfl rfl (fun c11 => ?_) (fun c11 => ?_)
  · have hw := hw.1 c11
    refine X_aload_n 62 dX5_readPactLine_61 rfl rfl ?_
    refine Y_cVV 65 (as := []) m_X5_55 (s_X5_next hL  hw) (hL.ob (c := 5) (by decide) rfl) rfl (by decide) (Nat.le_of_ble_eq_true rfl) dX5_readPactLine_62 rfl rfl (fun M12 hw => ?_)
    refine X_iload_n 66 dX5_readPactLine_65 rfl rfl ?_
    by_cases c13 : v2 = (3 : Int32)
    · have hw := hw.1 c13
      refine Y_tableIn 92 (k := 3) (off := 26) c13 dX5_readPactLine_66 (by decide) (by decide) rfl rfl ?_
      refine X_aload_n 93 dX5_readPactLine_92 rfl rfl ?_
      refine X_bipush 95 (v := 6) dX5_readPactLine_93 rfl rfl ?_
      refine Y_cVV 98 (as := [.int (6 : Int32)]) m_X5_58 (s_X5_expect hL  hw) (hL.ob (c := 5) (by decide) rfl) rfl (by decide) (Nat.le_of_ble_eq_true rfl) dX5_readPactLine_95 rfl rfl (fun M14 hw => ?_)
      refine X_aload_n 99 dX5_readPactLine_98 rfl rfl ?_
      refine X_aload_n 100 dX5_readPactLine_99 rfl rfl ?_
      obtain ⟨n15, n16, hn15, hn16, hw⟩ := hw
      refine Y_aVR 103 (as := []) m_X5_61 (s_X5_readExpression hL  hw) (hL.ob (c := 5) (by decide) rfl) rfl (by decide) hn15 hn16 (Nat.le_of_ble_eq_true rfl) dX5_readPactLine_100 rfl rfl (fun x19 L17 M18 leL17 hw => ?_)
      have hLE := hLE.tr leL17
      have hL := leL17.ly hL
      have hhpa := leL17.ob hhpa
      obtain ⟨n20, n21, hn20, hn21, hw⟩ := hw
      refine Y_aVV 106 (as := [va_rf x19]) m_X5_65 (s_X4_addFall hL hhpa hw) hhpa rfl (by decide) hn20 hn21 (Nat.le_of_ble_eq_true rfl) dX5_readPactLine_103 rfl rfl (fun L22 M23 leL22 hw => ?_)
      have hLE := hLE.tr leL22
      have hL := leL22.ly hL
      have hhpa := leL22.ob hhpa
      refine X_goto 178 dX5_readPactLine_106 rfl ?_
      refine X_weak (ls' := [.ref 71, junk, junk]) (WK.s (WK.j (WK.j WK.n))) (Nat.le_of_ble_eq_true rfl) ?_
      exact t_X5_readPactLine_178 hL hLE hhpa  hw 
    · have hw := hw.2 c13
      by_cases c24 : v2 = (4 : Int32)
      · have hw := hw.1 c24
        refine Y_tableIn 109 (k := 4) (off := 43) c24 dX5_readPactLine_66 (by decide) (by decide) rfl rfl ?_
        refine X_aload_n 110 dX5_readPactLine_109 rfl rfl ?_
        refine X_aload_n 111 dX5_readPactLine_110 rfl rfl ?_
        refine X_getI 114 f_X5_34 (hL.ob (c := 5) (by decide) rfl) rfl dX5_readPactLine_111 rfl ?_
        refine X_putI 117 f_X5_69 (Or.inl rfl) hhpa rfl dX5_readPactLine_114 rfl ?_
        refine X_nmM (fun M25 eM25 => ?_)
        have hw := hw M25 eM25
        refine X_aload_n 118 dX5_readPactLine_117 rfl rfl ?_
        refine X_getI 121 f_X5_34 (hL.ob (c := 5) (by decide) rfl) rfl dX5_readPactLine_118 rfl ?_
        refine X_bipush 123 (v := 13) dX5_readPactLine_121 rfl rfl ?_
        refine X_icmp_eq 149 126 dX5_readPactLine_123 rfl rfl (fun c26 => ?_) (fun c26 => ?_)
        · have hw := hw.1 c26
          refine X_weak (ls' := [.ref 71, junk, junk]) (WK.s (WK.j (WK.j WK.n))) (Nat.le_of_ble_eq_true rfl) ?_
          exact t_X5_readPactLine_149 hL hLE hhpa  hw 
        · have hw := hw.2 c26
          refine X_aload_n 127 dX5_readPactLine_126 rfl rfl ?_
          refine X_getI 130 f_X5_34 (hL.ob (c := 5) (by decide) rfl) rfl dX5_readPactLine_127 rfl ?_
          refine X_bipush 132 (v := 14) dX5_readPactLine_130 rfl rfl ?_
          refine X_icmp_eq 149 135 dX5_readPactLine_132 rfl rfl (fun c27 => ?_) (fun c27 => ?_)
          · have hw := hw.1 c27
            refine X_weak (ls' := [.ref 71, junk, junk]) (WK.s (WK.j (WK.j WK.n))) (Nat.le_of_ble_eq_true rfl) ?_
            exact t_X5_readPactLine_149 hL hLE hhpa  hw 
          · have hw := hw.2 c27
            refine X_aload_n 136 dX5_readPactLine_135 rfl rfl ?_
            refine X_getI 139 f_X5_34 (hL.ob (c := 5) (by decide) rfl) rfl dX5_readPactLine_136 rfl ?_
            refine X_bipush 141 (v := 12) dX5_readPactLine_139 rfl rfl ?_
            refine X_icmp_eq 149 144 dX5_readPactLine_141 rfl rfl (fun c28 => ?_) (fun c28 => ?_)
            · have hw := hw.1 c28
              refine X_weak (ls' := [.ref 71, junk, junk]) (WK.s (WK.j (WK.j WK.n))) (Nat.le_of_ble_eq_true rfl) ?_
              exact t_X5_readPactLine_149 hL hLE hhpa  hw 
            · have hw := hw.2 c28
              refine X_aload_n 145 dX5_readPactLine_144 rfl rfl ?_
              refine X_iconst 146 (v := 1) dX5_readPactLine_145 rfl rfl ?_
              refine Y_cVV 149 (as := [.int (1 : Int32)]) m_X5_44 (s_X5_refuse hL  hw) (hL.ob (c := 5) (by decide) rfl) rfl (by decide) (Nat.le_of_ble_eq_true rfl) dX5_readPactLine_146 rfl rfl (fun M29 hw => ?_)
              refine X_weak (ls' := [.ref 71, junk, junk]) (WK.s (WK.j (WK.j WK.n))) (Nat.le_of_ble_eq_true rfl) ?_
              exact t_X5_readPactLine_149 hL hLE hhpa  hw 
      · have hw := hw.2 c24
        by_cases c30 : v2 = (5 : Int32)
        · have hw := hw.1 c30
          refine Y_tableIn 156 (k := 5) (off := 90) c30 dX5_readPactLine_66 (by decide) (by decide) rfl rfl ?_
          refine X_aload_n 157 dX5_readPactLine_156 rfl rfl ?_
          refine X_aload_n 158 dX5_readPactLine_157 rfl rfl ?_
          refine X_bipush 160 (v := 50) dX5_readPactLine_158 rfl rfl ?_
          refine Y_cVI 163 (as := [.int (50 : Int32)]) m_X5_72 (s_X5_readNumber hL  hw) (hL.ob (c := 5) (by decide) rfl) rfl (by decide) (Nat.le_of_ble_eq_true rfl) dX5_readPactLine_160 rfl rfl (fun x32 M31 hw => ?_)
          refine X_putI 166 f_X5_76 (Or.inl rfl) hhpa rfl dX5_readPactLine_163 rfl ?_
          refine X_nmM (fun M33 eM33 => ?_)
          have hw := hw M33 eM33
          refine X_goto 178 dX5_readPactLine_166 rfl ?_
          refine X_weak (ls' := [.ref 71, junk, junk]) (WK.s (WK.j (WK.j WK.n))) (Nat.le_of_ble_eq_true rfl) ?_
          exact t_X5_readPactLine_178 hL hLE hhpa  hw 
        · have hw := hw.2 c30
          have hout : v2.toInt < 3 ∨ 5 < v2.toInt := by
            have hc13 : ¬ v2.toInt = 3 := fun h => c13 (Int32.toInt_inj.mp (h.trans (by decide)))
            have hc24 : ¬ v2.toInt = 4 := fun h => c24 (Int32.toInt_inj.mp (h.trans (by decide)))
            have hc30 : ¬ v2.toInt = 5 := fun h => c30 (Int32.toInt_inj.mp (h.trans (by decide)))
            omega
          refine X_tableOut 169 dX5_readPactLine_66 hout rfl ?_
          refine X_aload_n 170 dX5_readPactLine_169 rfl rfl ?_
          refine X_iload_n 171 dX5_readPactLine_170 rfl rfl ?_
          refine X_aload_n 172 dX5_readPactLine_171 rfl rfl ?_
          obtain ⟨n34, n35, hn34, hn35, hw⟩ := hw
          refine Y_aVR 175 (as := []) m_X5_61 (s_X5_readExpression hL  hw) (hL.ob (c := 5) (by decide) rfl) rfl (by decide) hn34 hn35 (Nat.le_of_ble_eq_true rfl) dX5_readPactLine_172 rfl rfl (fun x38 L36 M37 leL36 hw => ?_)
          have hLE := hLE.tr leL36
          have hL := leL36.ly hL
          have hhpa := leL36.ob hhpa
          refine Y_cVV 178 (as := [.int v2, va_rf x38]) m_X5_79 (s_X4_setLine hL hhpa hw) hhpa rfl (by decide) (Nat.le_of_ble_eq_true rfl) dX5_readPactLine_175 rfl rfl (fun M39 hw => ?_)
          refine X_weak (ls' := [.ref 71, junk, junk]) (WK.s (WK.j (WK.j WK.n))) (Nat.le_of_ble_eq_true rfl) ?_
          exact t_X5_readPactLine_178 hL hLE hhpa  hw 
  · have hw := hw.2 c11
    exact X_retV rfl dX5_readPactLine_60 ⟨_, _, rfl, rfl, hLE, hw⟩
def w_X5_readPactLine (pa : Nat) (L : Lay) (rc rs : Nat) (M : Mem) (Q : Lay → Mem → Prop) : Prop := ∀ x1 : Int32, x1 = (mi M 71 3) → ((((5 : Int32) < x1 → (w_X5_refuse L (1 : Int32) M (fun M10 => (w_X5_readPactLine_53 pa  x1 L rc rs M10 Q)))) ∧ (¬ (5 : Int32) < x1 → (w_X4_hasTold L pa x1 M (fun x4 M3 => (((x4 = 0 → (((x1 = (3 : Int32) → ((((mi M3 pa 4) < (8 : Int32) → (w_X5_readPactLine_53 pa  x1 L rc rs M3 Q)) ∧ (¬ (mi M3 pa 4) < (8 : Int32) → (w_X5_refuse L (5 : Int32) M3 (fun M8 => (w_X5_readPactLine_53 pa  x1 L rc rs M8 Q))))))) ∧ (¬ x1 = (3 : Int32) → (w_X5_readPactLine_53 pa  x1 L rc rs M3 Q))))) ∧ (¬ x4 = 0 → (w_X5_refuse L (3 : Int32) M3 (fun M9 => (w_X5_readPactLine_53 pa  x1 L rc rs M9 Q)))))))))))
set_option maxRecDepth 20000 in
theorem s_X5_readPactLine {L : Lay} {pa : Nat} {rc rs : Nat} {M : Mem} {Q : Lay → Mem → Prop} (hL : LY L) (hhpa : OB L pa 4) (hw : w_X5_readPactLine pa L rc rs M Q) : MX yX5_readPactLine cX5_readPactLine none 3 9 rc rs [.ref 71, .ref pa] (L, M) (QVa L Q) := by
  unfold w_X5_readPactLine at hw
  obtain ⟨L0, eL0⟩ : ∃ L0, L0 = L := ⟨L, rfl⟩
  rw [show QVa L Q = QVa L0 Q from by rw [eL0]]
  have hLE : LE L0 L := by rw [eL0]; exact LE.rf L
  refine MX_of (by decide) [.ref 71, .ref pa, junk] (by rfl) (by exact Nat.le_of_ble_eq_true rfl) ?_
  show X (FM (QVa L0 Q)) RX5 cX5_readPactLine none 3 "readPactLine" 9 rc rs (L, M) 0 [.ref 71, .ref pa, junk] []
  refine X_aload_n 1 dX5_readPactLine_0 rfl rfl ?_
  refine X_getI 4 f_X5_34 (hL.ob (c := 5) (by decide) rfl) rfl dX5_readPactLine_1 rfl ?_
  refine X_nmI (fun x1 ex1 => ?_)
  have hw := hw x1 ex1
  refine X_istore_n 5 (ls' := [.ref 71, .ref pa, .int x1]) dX5_readPactLine_4 rfl rfl (Nat.le_of_ble_eq_true rfl) rfl (Or.inr (Or.inr ⟨_, rfl, rfl⟩)) ?_
  refine X_iload_n 6 dX5_readPactLine_5 rfl rfl ?_
  refine X_iconst 7 (v := 5) dX5_readPactLine_6 rfl rfl ?_
  refine X_icmp_le 18 10 dX5_readPactLine_7 rfl rfl (fun c2 => ?_) (fun c2 => ?_)
  · have hw := hw.2 c2
    refine X_aload_n 19 dX5_readPactLine_18 rfl rfl ?_
    refine X_iload_n 20 dX5_readPactLine_19 rfl rfl ?_
    refine Y_cVZ 23 (as := [.int x1]) m_X5_48 (s_X4_hasTold hL hhpa hw) hhpa rfl (by decide) (Nat.le_of_ble_eq_true rfl) dX5_readPactLine_20 rfl rfl (fun x4 M3 bx4 hw => ?_)
    refine X_if_eq 34 26 (y := 0) dX5_readPactLine_23 rfl rfl (fun c5 => ?_) (fun c5 => ?_)
    · have hw := hw.1 c5
      refine X_iload_n 35 dX5_readPactLine_34 rfl rfl ?_
      refine X_iconst 36 (v := 3) dX5_readPactLine_35 rfl rfl ?_
      refine X_icmp_ne 53 39 dX5_readPactLine_36 rfl rfl (fun c6 => ?_) (fun c6 => ?_)
      · have hw := hw.2 c6
        exact t_X5_readPactLine_53 hL hLE hhpa  hw 
      · have hw := hw.1 c6
        refine X_aload_n 40 dX5_readPactLine_39 rfl rfl ?_
        refine X_getI 43 f_X5_52 hhpa rfl dX5_readPactLine_40 rfl ?_
        refine X_bipush 45 (v := 8) dX5_readPactLine_43 rfl rfl ?_
        refine X_icmp_lt 53 48 dX5_readPactLine_45 rfl rfl (fun c7 => ?_) (fun c7 => ?_)
        · have hw := hw.1 c7
          exact t_X5_readPactLine_53 hL hLE hhpa  hw 
        · have hw := hw.2 c7
          refine X_aload_n 49 dX5_readPactLine_48 rfl rfl ?_
          refine X_iconst 50 (v := 5) dX5_readPactLine_49 rfl rfl ?_
          refine Y_cVV 53 (as := [.int (5 : Int32)]) m_X5_44 (s_X5_refuse hL  hw) (hL.ob (c := 5) (by decide) rfl) rfl (by decide) (Nat.le_of_ble_eq_true rfl) dX5_readPactLine_50 rfl rfl (fun M8 hw => ?_)
          exact t_X5_readPactLine_53 hL hLE hhpa  hw 
    · have hw := hw.2 c5
      refine X_aload_n 27 dX5_readPactLine_26 rfl rfl ?_
      refine X_iconst 28 (v := 3) dX5_readPactLine_27 rfl rfl ?_
      refine Y_cVV 31 (as := [.int (3 : Int32)]) m_X5_44 (s_X5_refuse hL  hw) (hL.ob (c := 5) (by decide) rfl) rfl (by decide) (Nat.le_of_ble_eq_true rfl) dX5_readPactLine_28 rfl rfl (fun M9 hw => ?_)
      refine X_goto 53 dX5_readPactLine_31 rfl ?_
      exact t_X5_readPactLine_53 hL hLE hhpa  hw 
  · have hw := hw.1 c2
    refine X_aload_n 11 dX5_readPactLine_10 rfl rfl ?_
    refine X_iconst 12 (v := 1) dX5_readPactLine_11 rfl rfl ?_
    refine Y_cVV 15 (as := [.int (1 : Int32)]) m_X5_44 (s_X5_refuse hL  hw) (hL.ob (c := 5) (by decide) rfl) rfl (by decide) (Nat.le_of_ble_eq_true rfl) dX5_readPactLine_12 rfl rfl (fun M10 hw => ?_)
    refine X_goto 53 dX5_readPactLine_15 rfl ?_
    exact t_X5_readPactLine_53 hL hLE hhpa  hw 
def w_X5_readPact_48   (r1 : Nat) (L : Lay) (rc rs : Nat) (M : Mem) (Q : Option Nat → Lay → Mem → Prop) : Prop := ∀ M16 : Mem, M16 = si M 71 1 (0 : Int32) → ((((mi M16 71 2) = 0 → (Q (some r1) L M16)) ∧ (¬ (mi M16 71 2) = 0 → (Q none L M16))))
set_option maxRecDepth 20000 in
theorem t_X5_readPact_48 {L0 L : Lay}   {r1 : Nat} {rc rs : Nat} {M : Mem} {Q : Option Nat → Lay → Mem → Prop} (hL : LY L) (hLE : LE L0 L)  (hr1 : OB L r1 4) (hw : w_X5_readPact_48   r1 L rc rs M Q)  : X (FM (QRa L0 Q)) RX5 cX5_readPact (some (.object "CoalVend$Pact")) 3 "readPact" 10 rc rs (L, M) 48 [.ref 71, .ref r1, junk] [] := by
  unfold w_X5_readPact_48 at hw
  refine X_aload_n 49 dX5_readPact_48 rfl rfl ?_
  refine X_iconst 50 (v := 0) dX5_readPact_49 rfl rfl ?_
  refine X_putI 53 f_X5_24 (Or.inl rfl) (hL.ob (c := 5) (by decide) rfl) rfl dX5_readPact_50 rfl ?_
  refine X_nmM (fun M16 eM16 => ?_)
  have hw := hw M16 eM16
  refine X_aload_n 54 dX5_readPact_53 rfl rfl ?_
  refine X_getI 57 f_X5_37 (hL.ob (c := 5) (by decide) rfl) rfl dX5_readPact_54 rfl ?_
  refine X_if_ne 64 60 (y := 0) dX5_readPact_57 rfl rfl (fun c17 => ?_) (fun c17 => ?_)
  · have hw := hw.2 c17
    refine X_null 65 dX5_readPact_64 rfl ?_
    exact X_retA (o := none) rfl (Or.inl ⟨_, rfl⟩) dX5_readPact_65 ⟨_, _, _, rfl, rfl, hLE, hw⟩
  · have hw := hw.1 c17
    refine X_aload_n 61 dX5_readPact_60 rfl rfl ?_
    refine X_goto 65 dX5_readPact_61 rfl ?_
    exact X_retA (o := (some r1)) rfl (Or.inl ⟨_, rfl⟩) dX5_readPact_65 ⟨_, _, _, rfl, rfl, hLE, hw⟩
def w_X5_readPact_14  (K14 : Nat → Int32 → Lay → Nat → Nat → Mem → Prop) (r1 : Nat) (v2 : Int32) (L : Lay) (rc rs : Nat) (M : Mem) (Q : Option Nat → Lay → Mem → Prop) : Prop := ((v2 < (1000 : Int32) → ((((mi M 71 3) = (32 : Int32) → (w_X5_readPact_48   r1 L rc rs M Q)) ∧ (¬ (mi M 71 3) = (32 : Int32) → ((((mi M 71 2) = 0 → (∃ n11 n12 : Nat, n11 ≤ rc ∧ n12 ≤ rs ∧ w_X5_readPactLine r1 L n11 n12 M (fun L13 M14 => (∀ x15 : Int32, x15 = v2 + (1 : Int32) → (K14 r1 x15 L13 (rc - n11) (rs - n12) M14))))) ∧ (¬ (mi M 71 2) = 0 → (w_X5_readPact_48   r1 L rc rs M Q)))))))) ∧ (¬ v2 < (1000 : Int32) → (w_X5_readPact_48   r1 L rc rs M Q)))
set_option maxRecDepth 20000 in
theorem t_X5_readPact_14 {L0 L : Lay}  {K14 : Nat → Int32 → Lay → Nat → Nat → Mem → Prop} {r1 : Nat} {v2 : Int32} {rc rs : Nat} {M : Mem} {Q : Option Nat → Lay → Mem → Prop} (hL : LY L) (hLE : LE L0 L)  (hr1 : OB L r1 4) (hw : w_X5_readPact_14  K14 r1 v2 L rc rs M Q) (hK14 : ∀ (r1 : Nat) (v2 : Int32) (L : Lay) (rc rs : Nat) (M : Mem), K14 r1 v2 L rc rs M → LY L → LE L0 L →  OB L r1 4 →  X (FM (QRa L0 Q)) RX5 cX5_readPact (some (.object "CoalVend$Pact")) 3 "readPact" 10 rc rs (L, M) 14 [.ref 71, .ref r1, .int v2] []) : X (FM (QRa L0 Q)) RX5 cX5_readPact (some (.object "CoalVend$Pact")) 3 "readPact" 10 rc rs (L, M) 14 [.ref 71, .ref r1, .int v2] [] := by
  unfold w_X5_readPact_14 at hw
  refine X_iload_n 15 dX5_readPact_14 rfl rfl ?_
  refine X_sipush 18 (v := 1000) dX5_readPact_15 rfl rfl ?_
  refine X_icmp_ge 48 21 dX5_readPact_18 rfl rfl (fun c8 => ?_) (fun c8 => ?_)
  · have hw := hw.2 c8
    refine X_weak (ls' := [.ref 71, .ref r1, junk]) (WK.s (WK.s (WK.j WK.n))) (Nat.le_of_ble_eq_true rfl) ?_
    exact t_X5_readPact_48 hL hLE  hr1 hw 
  · have hw := hw.1 c8
    refine X_aload_n 22 dX5_readPact_21 rfl rfl ?_
    refine X_getI 25 f_X5_34 (hL.ob (c := 5) (by decide) rfl) rfl dX5_readPact_22 rfl ?_
    refine X_bipush 27 (v := 32) dX5_readPact_25 rfl rfl ?_
    refine X_icmp_eq 48 30 dX5_readPact_27 rfl rfl (fun c9 => ?_) (fun c9 => ?_)
    · have hw := hw.1 c9
      refine X_weak (ls' := [.ref 71, .ref r1, junk]) (WK.s (WK.s (WK.j WK.n))) (Nat.le_of_ble_eq_true rfl) ?_
      exact t_X5_readPact_48 hL hLE  hr1 hw 
    · have hw := hw.2 c9
      refine X_aload_n 31 dX5_readPact_30 rfl rfl ?_
      refine X_getI 34 f_X5_37 (hL.ob (c := 5) (by decide) rfl) rfl dX5_readPact_31 rfl ?_
      refine X_if_ne 48 37 (y := 0) dX5_readPact_34 rfl rfl (fun c10 => ?_) (fun c10 => ?_)
      · have hw := hw.2 c10
        refine X_weak (ls' := [.ref 71, .ref r1, junk]) (WK.s (WK.s (WK.j WK.n))) (Nat.le_of_ble_eq_true rfl) ?_
        exact t_X5_readPact_48 hL hLE  hr1 hw 
      · have hw := hw.1 c10
        refine X_aload_n 38 dX5_readPact_37 rfl rfl ?_
        refine X_aload_n 39 dX5_readPact_38 rfl rfl ?_
        obtain ⟨n11, n12, hn11, hn12, hw⟩ := hw
        refine Y_aVV 42 (as := [.ref r1]) m_X5_40 (s_X5_readPactLine hL hr1 hw) (hL.ob (c := 5) (by decide) rfl) rfl (by decide) hn11 hn12 (Nat.le_of_ble_eq_true rfl) dX5_readPact_39 rfl rfl (fun L13 M14 leL13 hw => ?_)
        have hLE := hLE.tr leL13
        have hL := leL13.ly hL
        have hr1 := leL13.ob hr1
        obtain ⟨x15, ex15⟩ : ∃ x15 : Int32, x15 = v2 + (1 : Int32) := ⟨_, rfl⟩
        have hw := hw x15 ex15
        refine X_iinc 45 (v := x15) (ls' := [.ref 71, .ref r1, .int x15]) dX5_readPact_42 rfl rfl (by rw [ex15]; rfl) rfl (Or.inr (Or.inr ⟨_, rfl, rfl⟩)) ?_
        refine X_goto 14 dX5_readPact_45 rfl ?_
        exact hK14 r1 x15 L13 (rc - n11) (rs - n12) M14 hw hL hLE  hr1
def w_X5_readPact  (L : Lay) (rc rs : Nat) (M : Mem) (Q : Option Nat → Lay → Mem → Prop) : Prop := w_X5_start L  M (fun M1 => (1 ≤ rc ∧ (7 ≤ rs ∧ (∀ (L4 : Lay) (M5 : Mem), (L4, M5) = alc (L, M1) (4, 0) → (w_X4_init L4 (L.1) M5 (fun M7 => (LP6 (fun K14 r1 v2 L rc rs M => w_X5_readPact_14   K14 r1 v2 L rc rs M Q) (L.1) (0 : Int32) L4 (rc - 1) (rs - 7) M7)))))))
set_option maxRecDepth 20000 in
theorem s_X5_readPact {L : Lay}  {rc rs : Nat} {M : Mem} {Q : Option Nat → Lay → Mem → Prop} (hL : LY L)  (hw : w_X5_readPact  L rc rs M Q) : MX yX5_readPact cX5_readPact (some (.object "CoalVend$Pact")) 3 10 rc rs [.ref 71] (L, M) (QRa L Q) := by
  unfold w_X5_readPact at hw
  obtain ⟨L0, eL0⟩ : ∃ L0, L0 = L := ⟨L, rfl⟩
  rw [show QRa L Q = QRa L0 Q from by rw [eL0]]
  have hLE : LE L0 L := by rw [eL0]; exact LE.rf L
  refine MX_of (by decide) [.ref 71, junk, junk] (by rfl) (by exact Nat.le_of_ble_eq_true rfl) ?_
  show X (FM (QRa L0 Q)) RX5 cX5_readPact (some (.object "CoalVend$Pact")) 3 "readPact" 10 rc rs (L, M) 0 [.ref 71, junk, junk] []
  refine X_aload_n 1 dX5_readPact_0 rfl rfl ?_
  refine Y_cVV 4 (as := []) m_X5_28 (s_X5_start hL  hw) (hL.ob (c := 5) (by decide) rfl) rfl (by decide) (Nat.le_of_ble_eq_true rfl) dX5_readPact_1 rfl rfl (fun M1 hw => ?_)
  obtain ⟨c2, hw⟩ := hw
  obtain ⟨c3, hw⟩ := hw
  refine X_new 7 cb4 n_X5_31 c2 c3 dX5_readPact_4 rfl ?_
  refine X_nmH (fun L4 M5 e6 => ?_)
  have hw := hw L4 M5 e6
  have obL4 := OB.of_alc e6
  have leL4 := LE.of_alc e6
  have hLE := hLE.tr leL4
  have hL := leL4.ly hL
  refine X_dup 8 dX5_readPact_7 rfl rfl ?_
  refine Y_cIV 11 (as := []) m_X5_33 (s_X4_init obL4 hw) rfl (by decide) (Nat.le_of_ble_eq_true rfl) dX5_readPact_8 rfl rfl (fun M7 hw => ?_)
  refine X_astore_n 12 (ls' := [.ref 71, .ref (L.1), junk]) dX5_readPact_11 rfl rfl (Nat.le_of_ble_eq_true rfl) rfl (Or.inr (Or.inr ⟨_, rfl, rfl⟩)) ?_
  refine X_iconst 13 (v := 0) dX5_readPact_12 rfl rfl ?_
  refine X_istore_n 14 (ls' := [.ref 71, .ref (L.1), .int (0 : Int32)]) dX5_readPact_13 rfl rfl (Nat.le_of_ble_eq_true rfl) rfl (Or.inr (Or.inr ⟨_, rfl, rfl⟩)) ?_
  exact LP6_s hw (G := fun r1 v2 L rc rs M => LY L → LE L0 L →  OB L r1 4 →  X (FM (QRa L0 Q)) RX5 cX5_readPact (some (.object "CoalVend$Pact")) 3 "readPact" 10 rc rs (L, M) 14 [.ref 71, .ref r1, .int v2] []) (fun K14 r1 v2 L rc rs M hb hK hL hLE  hr1 => t_X5_readPact_14 hL hLE  hr1 hb  hK) hL hLE  obL4
def w_X5_readVoidKind_32 (L : Lay) (p0 : Int32)   (M : Mem) (Q : Int32 → Mem → Prop) : Prop := ∀ x5 : Int32, x5 = (jshl (1 : Int32) (mi M 71 3)) → (w_X5_next L  M (fun M6 => (Q x5 M6)))
set_option maxRecDepth 20000 in
theorem t_X5_readVoidKind_32 {L : Lay} (hL : LY L) {p0 : Int32}     {M : Mem} {Q : Int32 → Mem → Prop} (hw : w_X5_readVoidKind_32 L p0   M Q)  : X (FM (QI L Q)) RX5 cX5_readVoidKind (some .int) 3 "readVoidKind" 8 0 0 (L, M) 32 [.ref 71, junk, junk] [] := by
  unfold w_X5_readVoidKind_32 at hw
  refine X_iconst 33 (v := 1) dX5_readVoidKind_32 rfl rfl ?_
  refine X_aload_n 34 dX5_readVoidKind_33 rfl rfl ?_
  refine X_getI 37 f_X5_34 (hL.ob (c := 5) (by decide) rfl) rfl dX5_readVoidKind_34 rfl ?_
  refine Y_ishl 38 dX5_readVoidKind_37 rfl ?_
  refine X_nmI (fun x5 ex5 => ?_)
  have hw := hw x5 ex5
  refine X_istore_n 39 (ls' := [.ref 71, junk, .int x5]) dX5_readVoidKind_38 rfl rfl (Nat.le_of_ble_eq_true rfl) rfl (Or.inr (Or.inl rfl)) ?_
  refine X_aload_n 40 dX5_readVoidKind_39 rfl rfl ?_
  refine Y_cVV 43 (as := []) m_X5_55 (s_X5_next hL  hw) (hL.ob (c := 5) (by decide) rfl) rfl (by decide) (Nat.le_of_ble_eq_true rfl) dX5_readVoidKind_40 rfl rfl (fun M6 hw => ?_)
  refine X_iload_n 44 dX5_readVoidKind_43 rfl rfl ?_
  exact X_ret rfl rfl dX5_readVoidKind_44 ⟨_, _, rfl, rfl, hw⟩
def w_X5_readVoidKind (L : Lay) (p0 : Int32) (M : Mem) (Q : Int32 → Mem → Prop) : Prop := (((5 : Int32) < (mi M 71 3) → (w_X5_refuse L (1 : Int32) M (fun M4 => (Q (0 : Int32) M4)))) ∧ (¬ (5 : Int32) < (mi M 71 3) → (((((jshr p0 (mi M 71 3)) &&& (1 : Int32)) = (1 : Int32) → (w_X5_refuse L (3 : Int32) M (fun M3 => (w_X5_readVoidKind_32 L p0   M3 Q)))) ∧ (¬ ((jshr p0 (mi M 71 3)) &&& (1 : Int32)) = (1 : Int32) → (w_X5_readVoidKind_32 L p0   M Q))))))
set_option maxRecDepth 20000 in
theorem s_X5_readVoidKind {L : Lay} (hL : LY L) {p0 : Int32}  {M : Mem} {Q : Int32 → Mem → Prop} (hw : w_X5_readVoidKind L p0 M Q) : MX yX5_readVoidKind cX5_readVoidKind (some .int) 3 8 0 0 [.ref 71, .int p0] (L, M) (QI L Q) := by
  unfold w_X5_readVoidKind at hw
  refine MX_of (by decide) [.ref 71, .int p0, junk] (by rfl) (by exact Nat.le_of_ble_eq_true rfl) ?_
  show X (FM (QI L Q)) RX5 cX5_readVoidKind (some .int) 3 "readVoidKind" 8 0 0 (L, M) 0 [.ref 71, .int p0, junk] []
  refine X_aload_n 1 dX5_readVoidKind_0 rfl rfl ?_
  refine X_getI 4 f_X5_34 (hL.ob (c := 5) (by decide) rfl) rfl dX5_readVoidKind_1 rfl ?_
  refine X_iconst 5 (v := 5) dX5_readVoidKind_4 rfl rfl ?_
  refine X_icmp_le 15 8 dX5_readVoidKind_5 rfl rfl (fun c1 => ?_) (fun c1 => ?_)
  · have hw := hw.2 c1
    refine X_iload_n 16 dX5_readVoidKind_15 rfl rfl ?_
    refine X_aload_n 17 dX5_readVoidKind_16 rfl rfl ?_
    refine X_getI 20 f_X5_34 (hL.ob (c := 5) (by decide) rfl) rfl dX5_readVoidKind_17 rfl ?_
    refine Y_ishr 21 dX5_readVoidKind_20 rfl ?_
    refine X_iconst 22 (v := 1) dX5_readVoidKind_21 rfl rfl ?_
    refine X_iand 23 dX5_readVoidKind_22 rfl ?_
    refine X_iconst 24 (v := 1) dX5_readVoidKind_23 rfl rfl ?_
    refine X_icmp_ne 32 27 dX5_readVoidKind_24 rfl rfl (fun c2 => ?_) (fun c2 => ?_)
    · have hw := hw.2 c2
      refine X_weak (ls' := [.ref 71, junk, junk]) (WK.s (WK.j (WK.s WK.n))) (Nat.le_of_ble_eq_true rfl) ?_
      exact t_X5_readVoidKind_32 hL   hw 
    · have hw := hw.1 c2
      refine X_aload_n 28 dX5_readVoidKind_27 rfl rfl ?_
      refine X_iconst 29 (v := 3) dX5_readVoidKind_28 rfl rfl ?_
      refine Y_cVV 32 (as := [.int (3 : Int32)]) m_X5_44 (s_X5_refuse hL  hw) (hL.ob (c := 5) (by decide) rfl) rfl (by decide) (Nat.le_of_ble_eq_true rfl) dX5_readVoidKind_29 rfl rfl (fun M3 hw => ?_)
      refine X_weak (ls' := [.ref 71, junk, junk]) (WK.s (WK.j (WK.s WK.n))) (Nat.le_of_ble_eq_true rfl) ?_
      exact t_X5_readVoidKind_32 hL   hw 
  · have hw := hw.1 c1
    refine X_aload_n 9 dX5_readVoidKind_8 rfl rfl ?_
    refine X_iconst 10 (v := 1) dX5_readVoidKind_9 rfl rfl ?_
    refine Y_cVV 13 (as := [.int (1 : Int32)]) m_X5_44 (s_X5_refuse hL  hw) (hL.ob (c := 5) (by decide) rfl) rfl (by decide) (Nat.le_of_ble_eq_true rfl) dX5_readVoidKind_10 rfl rfl (fun M4 hw => ?_)
    refine X_iconst 14 (v := 0) dX5_readVoidKind_13 rfl rfl ?_
    exact X_ret rfl rfl dX5_readVoidKind_14 ⟨_, _, rfl, rfl, hw⟩
def w_X5_readLaw_103  (K10 : Int32 → Int32 → Int32 → Lay → Nat → Nat → Mem → Prop) (v1 : Int32) (v2 : Int32) (v3 : Int32) (L : Lay) (rc rs : Nat) (M : Mem) (Q : Option Nat → Lay → Mem → Prop) : Prop := w_X5_expect L (59 : Int32) M (fun M26 => (∀ x27 : Int32, x27 = v3 + (1 : Int32) → (K10 v1 v2 x27 L rc rs M26)))
set_option maxRecDepth 20000 in
theorem t_X5_readLaw_103 {L0 L : Lay}  {K10 : Int32 → Int32 → Int32 → Lay → Nat → Nat → Mem → Prop} {v1 : Int32} {v2 : Int32} {v3 : Int32} {rc rs : Nat} {M : Mem} {Q : Option Nat → Lay → Mem → Prop} (hL : LY L) (hLE : LE L0 L)   (hw : w_X5_readLaw_103  K10 v1 v2 v3 L rc rs M Q) (hK10 : ∀ (v1 : Int32) (v2 : Int32) (v3 : Int32) (L : Lay) (rc rs : Nat) (M : Mem), K10 v1 v2 v3 L rc rs M → LY L → LE L0 L →   X (FM (QRa L0 Q)) RX5 cX5_readLaw (some (.object "CoalVend$Law")) 4 "readLaw" 9 rc rs (L, M) 10 [.ref 71, .int v1, .int v2, .int v3] []) : X (FM (QRa L0 Q)) RX5 cX5_readLaw (some (.object "CoalVend$Law")) 4 "readLaw" 9 rc rs (L, M) 103 [.ref 71, .int v1, .int v2, .int v3] [] := by
  unfold w_X5_readLaw_103 at hw
  refine X_aload_n 104 dX5_readLaw_103 rfl rfl ?_
  refine X_bipush 106 (v := 59) dX5_readLaw_104 rfl rfl ?_
  refine Y_cVV 109 (as := [.int (59 : Int32)]) m_X5_58 (s_X5_expect hL  hw) (hL.ob (c := 5) (by decide) rfl) rfl (by decide) (Nat.le_of_ble_eq_true rfl) dX5_readLaw_106 rfl rfl (fun M26 hw => ?_)
  obtain ⟨x27, ex27⟩ : ∃ x27 : Int32, x27 = v3 + (1 : Int32) := ⟨_, rfl⟩
  have hw := hw x27 ex27
  refine X_iinc 112 (v := x27) (ls' := [.ref 71, .int v1, .int v2, .int x27]) dX5_readLaw_109 rfl rfl (by rw [ex27]; rfl) rfl (Or.inr (Or.inr ⟨_, rfl, rfl⟩)) ?_
  refine X_goto 10 dX5_readLaw_112 rfl ?_
  exact hK10 v1 v2 x27 L rc rs M26 hw hL hLE  
def w_X5_readLaw_85  (K10 : Int32 → Int32 → Int32 → Lay → Nat → Nat → Mem → Prop) (v1 : Int32) (v2 : Int32) (v3 : Int32) (L : Lay) (rc rs : Nat) (M : Mem) (Q : Option Nat → Lay → Mem → Prop) : Prop := ∀ x23 : Int32, x23 = (if (mi M 71 3) = (8 : Int32) then (3 : Int32) else (1 : Int32)) → (w_X5_refuse L x23 M (fun M24 => (w_X5_readLaw_103  K10 v1 v2 v3 L rc rs M24 Q)))
set_option maxRecDepth 20000 in
theorem t_X5_readLaw_85 {L0 L : Lay}  {K10 : Int32 → Int32 → Int32 → Lay → Nat → Nat → Mem → Prop} {v1 : Int32} {v2 : Int32} {v3 : Int32} {rc rs : Nat} {M : Mem} {Q : Option Nat → Lay → Mem → Prop} (hL : LY L) (hLE : LE L0 L)   (hw : w_X5_readLaw_85  K10 v1 v2 v3 L rc rs M Q) (hK10 : ∀ (v1 : Int32) (v2 : Int32) (v3 : Int32) (L : Lay) (rc rs : Nat) (M : Mem), K10 v1 v2 v3 L rc rs M → LY L → LE L0 L →   X (FM (QRa L0 Q)) RX5 cX5_readLaw (some (.object "CoalVend$Law")) 4 "readLaw" 9 rc rs (L, M) 10 [.ref 71, .int v1, .int v2, .int v3] []) : X (FM (QRa L0 Q)) RX5 cX5_readLaw (some (.object "CoalVend$Law")) 4 "readLaw" 9 rc rs (L, M) 85 [.ref 71, .int v1, .int v2, .int v3] [] := by
  unfold w_X5_readLaw_85 at hw
  refine X_aload_n 86 dX5_readLaw_85 rfl rfl ?_
  refine X_aload_n 87 dX5_readLaw_86 rfl rfl ?_
  refine X_getI 90 f_X5_34 (hL.ob (c := 5) (by decide) rfl) rfl dX5_readLaw_87 rfl ?_
  refine X_bipush 92 (v := 8) dX5_readLaw_90 rfl rfl ?_
  obtain ⟨x23, ex23⟩ : ∃ x23 : Int32, x23 = (if (mi M 71 3) = (8 : Int32) then (3 : Int32) else (1 : Int32)) := ⟨_, rfl⟩
  have hw := hw x23 ex23
  have hJ : X (FM (QRa L0 Q)) RX5 cX5_readLaw (some (.object "CoalVend$Law")) 4 "readLaw" 9 rc rs (L, M) 100 [.ref 71, .int v1, .int v2, .int v3] [.int x23, .ref 71] := by
    refine Y_cVV 103 (as := [.int x23]) m_X5_44 (s_X5_refuse hL  hw) (hL.ob (c := 5) (by decide) rfl) rfl (by decide) (Nat.le_of_ble_eq_true rfl) dX5_readLaw_100 rfl rfl (fun M24 hw => ?_)
    exact t_X5_readLaw_103 hL hLE   hw hK10
  refine X_icmp_ne 99 95 dX5_readLaw_92 rfl rfl (fun c25 => ?_) (fun c25 => ?_)
  · refine X_iconst 100 (v := 1) dX5_readLaw_99 rfl rfl ?_
    rw [if_neg c25] at ex23
    rw [ex23] at hJ
    exact hJ
  · refine X_iconst 96 (v := 3) dX5_readLaw_95 rfl rfl ?_
    refine X_goto 100 dX5_readLaw_96 rfl ?_
    rw [if_pos c25] at ex23
    rw [ex23] at hJ
    exact hJ
def w_X5_readLaw_115   (v1 : Int32) (v2 : Int32) (L : Lay) (rc rs : Nat) (M : Mem) (Q : Option Nat → Lay → Mem → Prop) : Prop := ∀ M15 : Mem, M15 = si M 71 1 (0 : Int32) → ((((mi M15 71 2) = 0 → (1 ≤ rc ∧ (2 ≤ rs ∧ (∀ (L19 : Lay) (M20 : Mem), (L19, M20) = alc (L, M15) (1, 0) → (w_X1_init L19 (L.1) v1 (jmax (0 : Int32) v2) M20 (fun M22 => (Q (some (L.1)) L19 M22))))))) ∧ (¬ (mi M15 71 2) = 0 → (Q none L M15))))
set_option maxRecDepth 20000 in
theorem t_X5_readLaw_115 {L0 L : Lay}   {v1 : Int32} {v2 : Int32} {rc rs : Nat} {M : Mem} {Q : Option Nat → Lay → Mem → Prop} (hL : LY L) (hLE : LE L0 L)   (hw : w_X5_readLaw_115   v1 v2 L rc rs M Q)  : X (FM (QRa L0 Q)) RX5 cX5_readLaw (some (.object "CoalVend$Law")) 4 "readLaw" 9 rc rs (L, M) 115 [.ref 71, .int v1, .int v2, junk] [] := by
  unfold w_X5_readLaw_115 at hw
  refine X_aload_n 116 dX5_readLaw_115 rfl rfl ?_
  refine X_iconst 117 (v := 0) dX5_readLaw_116 rfl rfl ?_
  refine X_putI 120 f_X5_24 (Or.inl rfl) (hL.ob (c := 5) (by decide) rfl) rfl dX5_readLaw_117 rfl ?_
  refine X_nmM (fun M15 eM15 => ?_)
  have hw := hw M15 eM15
  refine X_aload_n 121 dX5_readLaw_120 rfl rfl ?_
  refine X_getI 124 f_X5_37 (hL.ob (c := 5) (by decide) rfl) rfl dX5_readLaw_121 rfl ?_
  refine X_if_ne 143 127 (y := 0) dX5_readLaw_124 rfl rfl (fun c16 => ?_) (fun c16 => ?_)
  · have hw := hw.2 c16
    refine X_null 144 dX5_readLaw_143 rfl ?_
    exact X_retA (o := none) rfl (Or.inl ⟨_, rfl⟩) dX5_readLaw_144 ⟨_, _, _, rfl, rfl, hLE, hw⟩
  · have hw := hw.1 c16
    obtain ⟨c17, hw⟩ := hw
    obtain ⟨c18, hw⟩ := hw
    refine X_new 130 cb1 n_X5_86 c17 c18 dX5_readLaw_127 rfl ?_
    refine X_nmH (fun L19 M20 e21 => ?_)
    have hw := hw L19 M20 e21
    have obL19 := OB.of_alc e21
    have leL19 := LE.of_alc e21
    have hLE := hLE.tr leL19
    have hL := leL19.ly hL
    refine X_dup 131 dX5_readLaw_130 rfl rfl ?_
    refine X_iload_n 132 dX5_readLaw_131 rfl rfl ?_
    refine X_iconst 133 (v := 0) dX5_readLaw_132 rfl rfl ?_
    refine X_iload_n 134 dX5_readLaw_133 rfl rfl ?_
    refine Y_mmax 137 l_X5_88 (by decide) (Nat.le_of_ble_eq_true rfl) dX5_readLaw_134 rfl ?_
    refine Y_cIV 140 (as := [.int v1, .int ((jmax (0 : Int32) v2))]) m_X5_94 (s_X1_init obL19 hw) rfl (by decide) (Nat.le_of_ble_eq_true rfl) dX5_readLaw_137 rfl rfl (fun M22 hw => ?_)
    refine X_goto 144 dX5_readLaw_140 rfl ?_
    exact X_retA (o := (some (L.1))) rfl (Or.inl ⟨_, rfl⟩) dX5_readLaw_144 ⟨_, _, _, rfl, rfl, hLE, hw⟩
def w_X5_readLaw_10  (K10 : Int32 → Int32 → Int32 → Lay → Nat → Nat → Mem → Prop) (v1 : Int32) (v2 : Int32) (v3 : Int32) (L : Lay) (rc rs : Nat) (M : Mem) (Q : Option Nat → Lay → Mem → Prop) : Prop := ((v3 < (1000 : Int32) → ((((mi M 71 3) = (32 : Int32) → (w_X5_readLaw_115   v1 v2 L rc rs M Q)) ∧ (¬ (mi M 71 3) = (32 : Int32) → ((((mi M 71 2) = 0 → ((((mi M 71 3) = (7 : Int32) → (w_X5_next L  M (fun M11 => (w_X5_readVoidKind L v1 M11 (fun x13 M12 => (∀ x14 : Int32, x14 = (v1 ||| x13) → (w_X5_readLaw_103  K10 x14 v2 v3 L rc rs M12 Q))))))) ∧ (¬ (mi M 71 3) = (7 : Int32) → ((((mi M 71 3) = (8 : Int32) → (((v2 = (-1 : Int32) → (w_X5_next L  M (fun M8 => (w_X5_readNumber L (99 : Int32) M8 (fun x10 M9 => (w_X5_readLaw_103  K10 v1 x10 v3 L rc rs M9 Q)))))) ∧ (¬ v2 = (-1 : Int32) → (w_X5_readLaw_85  K10 v1 v2 v3 L rc rs M Q))))) ∧ (¬ (mi M 71 3) = (8 : Int32) → (w_X5_readLaw_85  K10 v1 v2 v3 L rc rs M Q)))))))) ∧ (¬ (mi M 71 2) = 0 → (w_X5_readLaw_115   v1 v2 L rc rs M Q)))))))) ∧ (¬ v3 < (1000 : Int32) → (w_X5_readLaw_115   v1 v2 L rc rs M Q)))
set_option maxRecDepth 20000 in
theorem t_X5_readLaw_10 {L0 L : Lay}  {K10 : Int32 → Int32 → Int32 → Lay → Nat → Nat → Mem → Prop} {v1 : Int32} {v2 : Int32} {v3 : Int32} {rc rs : Nat} {M : Mem} {Q : Option Nat → Lay → Mem → Prop} (hL : LY L) (hLE : LE L0 L)   (hw : w_X5_readLaw_10  K10 v1 v2 v3 L rc rs M Q) (hK10 : ∀ (v1 : Int32) (v2 : Int32) (v3 : Int32) (L : Lay) (rc rs : Nat) (M : Mem), K10 v1 v2 v3 L rc rs M → LY L → LE L0 L →   X (FM (QRa L0 Q)) RX5 cX5_readLaw (some (.object "CoalVend$Law")) 4 "readLaw" 9 rc rs (L, M) 10 [.ref 71, .int v1, .int v2, .int v3] []) : X (FM (QRa L0 Q)) RX5 cX5_readLaw (some (.object "CoalVend$Law")) 4 "readLaw" 9 rc rs (L, M) 10 [.ref 71, .int v1, .int v2, .int v3] [] := by
  unfold w_X5_readLaw_10 at hw
  refine X_iload_n 11 dX5_readLaw_10 rfl rfl ?_
  refine X_sipush 14 (v := 1000) dX5_readLaw_11 rfl rfl ?_
  refine X_icmp_ge 115 17 dX5_readLaw_14 rfl rfl (fun c2 => ?_) (fun c2 => ?_)
  · have hw := hw.2 c2
    refine X_weak (ls' := [.ref 71, .int v1, .int v2, junk]) (WK.s (WK.s (WK.s (WK.j WK.n)))) (Nat.le_of_ble_eq_true rfl) ?_
    exact t_X5_readLaw_115 hL hLE   hw 
  · have hw := hw.1 c2
    refine X_aload_n 18 dX5_readLaw_17 rfl rfl ?_
    refine X_getI 21 f_X5_34 (hL.ob (c := 5) (by decide) rfl) rfl dX5_readLaw_18 rfl ?_
    refine X_bipush 23 (v := 32) dX5_readLaw_21 rfl rfl ?_
    refine X_icmp_eq 115 26 dX5_readLaw_23 rfl rfl (fun c3 => ?_) (fun c3 => ?_)
    · have hw := hw.1 c3
      refine X_weak (ls' := [.ref 71, .int v1, .int v2, junk]) (WK.s (WK.s (WK.s (WK.j WK.n)))) (Nat.le_of_ble_eq_true rfl) ?_
      exact t_X5_readLaw_115 hL hLE   hw 
    · have hw := hw.2 c3
      refine X_aload_n 27 dX5_readLaw_26 rfl rfl ?_
      refine X_getI 30 f_X5_37 (hL.ob (c := 5) (by decide) rfl) rfl dX5_readLaw_27 rfl ?_
      refine X_if_ne 115 33 (y := 0) dX5_readLaw_30 rfl rfl (fun c4 => ?_) (fun c4 => ?_)
      · have hw := hw.2 c4
        refine X_weak (ls' := [.ref 71, .int v1, .int v2, junk]) (WK.s (WK.s (WK.s (WK.j WK.n)))) (Nat.le_of_ble_eq_true rfl) ?_
        exact t_X5_readLaw_115 hL hLE   hw 
      · have hw := hw.1 c4
        refine X_aload_n 34 dX5_readLaw_33 rfl rfl ?_
        refine X_getI 37 f_X5_34 (hL.ob (c := 5) (by decide) rfl) rfl dX5_readLaw_34 rfl ?_
        refine X_bipush 39 (v := 7) dX5_readLaw_37 rfl rfl ?_
        refine X_icmp_ne 57 42 dX5_readLaw_39 rfl rfl (fun c5 => ?_) (fun c5 => ?_)
        · have hw := hw.2 c5
          refine X_aload_n 58 dX5_readLaw_57 rfl rfl ?_
          refine X_getI 61 f_X5_34 (hL.ob (c := 5) (by decide) rfl) rfl dX5_readLaw_58 rfl ?_
          refine X_bipush 63 (v := 8) dX5_readLaw_61 rfl rfl ?_
          refine X_icmp_ne 85 66 dX5_readLaw_63 rfl rfl (fun c6 => ?_) (fun c6 => ?_)
          · have hw := hw.2 c6
            exact t_X5_readLaw_85 hL hLE   hw hK10
          · have hw := hw.1 c6
            refine X_iload_n 67 dX5_readLaw_66 rfl rfl ?_
            refine X_iconst 68 (v := -1) dX5_readLaw_67 rfl rfl ?_
            refine X_icmp_ne 85 71 dX5_readLaw_68 rfl rfl (fun c7 => ?_) (fun c7 => ?_)
            · have hw := hw.2 c7
              exact t_X5_readLaw_85 hL hLE   hw hK10
            · have hw := hw.1 c7
              refine X_aload_n 72 dX5_readLaw_71 rfl rfl ?_
              refine Y_cVV 75 (as := []) m_X5_55 (s_X5_next hL  hw) (hL.ob (c := 5) (by decide) rfl) rfl (by decide) (Nat.le_of_ble_eq_true rfl) dX5_readLaw_72 rfl rfl (fun M8 hw => ?_)
              refine X_aload_n 76 dX5_readLaw_75 rfl rfl ?_
              refine X_bipush 78 (v := 99) dX5_readLaw_76 rfl rfl ?_
              refine Y_cVI 81 (as := [.int (99 : Int32)]) m_X5_72 (s_X5_readNumber hL  hw) (hL.ob (c := 5) (by decide) rfl) rfl (by decide) (Nat.le_of_ble_eq_true rfl) dX5_readLaw_78 rfl rfl (fun x10 M9 hw => ?_)
              refine X_istore_n 82 (ls' := [.ref 71, .int v1, .int x10, .int v3]) dX5_readLaw_81 rfl rfl (Nat.le_of_ble_eq_true rfl) rfl (Or.inr (Or.inr ⟨_, rfl, rfl⟩)) ?_
              refine X_goto 103 dX5_readLaw_82 rfl ?_
              exact t_X5_readLaw_103 hL hLE   hw hK10
        · have hw := hw.1 c5
          refine X_aload_n 43 dX5_readLaw_42 rfl rfl ?_
          refine Y_cVV 46 (as := []) m_X5_55 (s_X5_next hL  hw) (hL.ob (c := 5) (by decide) rfl) rfl (by decide) (Nat.le_of_ble_eq_true rfl) dX5_readLaw_43 rfl rfl (fun M11 hw => ?_)
          refine X_iload_n 47 dX5_readLaw_46 rfl rfl ?_
          refine X_aload_n 48 dX5_readLaw_47 rfl rfl ?_
          refine X_iload_n 49 dX5_readLaw_48 rfl rfl ?_
          refine Y_cVI 52 (as := [.int v1]) m_X5_83 (s_X5_readVoidKind hL  hw) (hL.ob (c := 5) (by decide) rfl) rfl (by decide) (Nat.le_of_ble_eq_true rfl) dX5_readLaw_49 rfl rfl (fun x13 M12 hw => ?_)
          refine X_ior 53 dX5_readLaw_52 rfl ?_
          refine X_nmI (fun x14 ex14 => ?_)
          have hw := hw x14 ex14
          refine X_istore_n 54 (ls' := [.ref 71, .int x14, .int v2, .int v3]) dX5_readLaw_53 rfl rfl (Nat.le_of_ble_eq_true rfl) rfl (Or.inr (Or.inr ⟨_, rfl, rfl⟩)) ?_
          refine X_goto 103 dX5_readLaw_54 rfl ?_
          exact t_X5_readLaw_103 hL hLE   hw hK10
def w_X5_readLaw  (L : Lay) (rc rs : Nat) (M : Mem) (Q : Option Nat → Lay → Mem → Prop) : Prop := w_X5_start L  M (fun M1 => (LP7 (fun K10 v1 v2 v3 L rc rs M => w_X5_readLaw_10   K10 v1 v2 v3 L rc rs M Q) (0 : Int32) (-1 : Int32) (0 : Int32) L rc rs M1))
set_option maxRecDepth 20000 in
theorem s_X5_readLaw {L : Lay}  {rc rs : Nat} {M : Mem} {Q : Option Nat → Lay → Mem → Prop} (hL : LY L)  (hw : w_X5_readLaw  L rc rs M Q) : MX yX5_readLaw cX5_readLaw (some (.object "CoalVend$Law")) 4 9 rc rs [.ref 71] (L, M) (QRa L Q) := by
  unfold w_X5_readLaw at hw
  obtain ⟨L0, eL0⟩ : ∃ L0, L0 = L := ⟨L, rfl⟩
  rw [show QRa L Q = QRa L0 Q from by rw [eL0]]
  have hLE : LE L0 L := by rw [eL0]; exact LE.rf L
  refine MX_of (by decide) [.ref 71, junk, junk, junk] (by rfl) (by exact Nat.le_of_ble_eq_true rfl) ?_
  show X (FM (QRa L0 Q)) RX5 cX5_readLaw (some (.object "CoalVend$Law")) 4 "readLaw" 9 rc rs (L, M) 0 [.ref 71, junk, junk, junk] []
  refine X_aload_n 1 dX5_readLaw_0 rfl rfl ?_
  refine Y_cVV 4 (as := []) m_X5_28 (s_X5_start hL  hw) (hL.ob (c := 5) (by decide) rfl) rfl (by decide) (Nat.le_of_ble_eq_true rfl) dX5_readLaw_1 rfl rfl (fun M1 hw => ?_)
  refine X_iconst 5 (v := 0) dX5_readLaw_4 rfl rfl ?_
  refine X_istore_n 6 (ls' := [.ref 71, .int (0 : Int32), junk, junk]) dX5_readLaw_5 rfl rfl (Nat.le_of_ble_eq_true rfl) rfl (Or.inr (Or.inr ⟨_, rfl, rfl⟩)) ?_
  refine X_iconst 7 (v := -1) dX5_readLaw_6 rfl rfl ?_
  refine X_istore_n 8 (ls' := [.ref 71, .int (0 : Int32), .int (-1 : Int32), junk]) dX5_readLaw_7 rfl rfl (Nat.le_of_ble_eq_true rfl) rfl (Or.inr (Or.inr ⟨_, rfl, rfl⟩)) ?_
  refine X_iconst 9 (v := 0) dX5_readLaw_8 rfl rfl ?_
  refine X_istore_n 10 (ls' := [.ref 71, .int (0 : Int32), .int (-1 : Int32), .int (0 : Int32)]) dX5_readLaw_9 rfl rfl (Nat.le_of_ble_eq_true rfl) rfl (Or.inr (Or.inr ⟨_, rfl, rfl⟩)) ?_
  exact LP7_s hw (G := fun v1 v2 v3 L rc rs M => LY L → LE L0 L →   X (FM (QRa L0 Q)) RX5 cX5_readLaw (some (.object "CoalVend$Law")) 4 "readLaw" 9 rc rs (L, M) 10 [.ref 71, .int v1, .int v2, .int v3] []) (fun K10 v1 v2 v3 L rc rs M hb hK hL hLE   => t_X5_readLaw_10 hL hLE   hb  hK) hL hLE  
