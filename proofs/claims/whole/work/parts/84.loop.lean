-- LEVEL 3, part 67: the law's loop (by program: wip/whole/gen_law.py)
theorem nI_m7 {N n : Nat} (hN : N < 2 ^ 30) (hn : n < 2 ^ 30) : (nI N - nI 7 < nI n) ↔ N < n + 7 := by
  rw [Int32.lt_iff_toInt_lt, nI_toInt (by omega)]
  have e : (nI N - nI 7).toInt = (N : Int) - 7 := by
    rw [Int32.toInt_sub, nI_toInt (by omega), nI_toInt (by decide)]
    have : ((N : Int) - ((7 : Nat) : Int)).bmod (2 ^ 32) = (N : Int) - ((7 : Nat) : Int) := Int.bmod_eq_of_le (by omega) (by omega)
    rw [this]; rfl
  rw [e]; omega
set_option maxRecDepth 20000 in
theorem lc_all {N : Nat} {xs : Nat → Int32} {n rc rs : Nat} (hn : n + 7 ≤ N) (hN : N ≤ 3584) {L : Lay} {M : Mem} (hL : LY L) (h : RR L M) (hrc : 20 ≤ rc) (hrs : 9087 ≤ rs)
    (K : KL N xs n rc rs) {x : Int32} {j : Nat} (hj : j < 32) (hx : x = nI j) : XL N xs rc rs (L, M) 40 [.float 9, .ref 0, .ref 92, .ref 158, .int (nI n), junk, junk] [.int x] := by
  have k0 : XL N xs rc rs (L, M) 1521 [.float 9, .ref 0, .ref 92, .ref 158, .int (nI n), junk, junk] [] := X_room (by omega) (by omega) (K L M hL h)
  match j, hj, hx with
  | 0, _, hx => exact Y_tableIn 176 (k := 0) (off := 136) hx dL_law_40 (by decide) (by decide) rfl rfl (lc_0 hn hN hL h hrc hrs K)
  | 1, _, hx => exact Y_tableIn 237 (k := 1) (off := 197) hx dL_law_40 (by decide) (by decide) rfl rfl (lc_1 hn hN hL h hrc hrs K)
  | 2, _, hx => exact Y_tableIn 274 (k := 2) (off := 234) hx dL_law_40 (by decide) (by decide) rfl rfl (lc_2 hn hN hL h hrc hrs K)
  | 3, _, hx => exact Y_tableIn 311 (k := 3) (off := 271) hx dL_law_40 (by decide) (by decide) rfl rfl (lc_3 hn hN hL h hrc hrs K)
  | 4, _, hx => exact Y_tableIn 364 (k := 4) (off := 324) hx dL_law_40 (by decide) (by decide) rfl rfl (lc_4 hn hN hL h hrc hrs K)
  | 5, _, hx => exact Y_tableIn 401 (k := 5) (off := 361) hx dL_law_40 (by decide) (by decide) rfl rfl (lc_5 hn hN hL h hrc hrs K)
  | 6, _, hx => exact Y_tableIn 426 (k := 6) (off := 386) hx dL_law_40 (by decide) (by decide) rfl rfl (lc_6 hn hN hL h hrc hrs K)
  | 7, _, hx => exact Y_tableIn 463 (k := 7) (off := 423) hx dL_law_40 (by decide) (by decide) rfl rfl (lc_7 hn hN hL h hrc hrs K)
  | 8, _, hx => exact Y_tableIn 512 (k := 8) (off := 472) hx dL_law_40 (by decide) (by decide) rfl rfl (lc_8 hn hN hL h hrc hrs K)
  | 9, _, hx => exact Y_tableIn 659 (k := 9) (off := 619) hx dL_law_40 (by decide) (by decide) rfl rfl (lc_9 hn hN hL h hrc hrs K)
  | 10, _, hx => exact Y_tableIn 672 (k := 10) (off := 632) hx dL_law_40 (by decide) (by decide) rfl rfl (lc_10 hn hN hL h hrc hrs K)
  | 11, _, hx => exact Y_tableIn 685 (k := 11) (off := 645) hx dL_law_40 (by decide) (by decide) rfl rfl (lc_11 hn hN hL h hrc hrs K)
  | 12, _, hx => exact Y_tableIn 710 (k := 12) (off := 670) hx dL_law_40 (by decide) (by decide) rfl rfl (lc_12 hn hN hL h hrc hrs K)
  | 13, _, hx => exact Y_tableIn 735 (k := 13) (off := 695) hx dL_law_40 (by decide) (by decide) rfl rfl (lc_13 hn hN hL h hrc hrs K)
  | 14, _, hx => exact Y_tableIn 796 (k := 14) (off := 756) hx dL_law_40 (by decide) (by decide) rfl rfl (lc_14 hn hN hL h hrc hrs K)
  | 15, _, hx => exact Y_tableIn 857 (k := 15) (off := 817) hx dL_law_40 (by decide) (by decide) rfl rfl (lc_15 hn hN hL h hrc hrs K)
  | 16, _, hx => exact Y_tableIn 906 (k := 16) (off := 866) hx dL_law_40 (by decide) (by decide) rfl rfl (lc_16 hn hN hL h hrc hrs K)
  | 17, _, hx => exact Y_tableIn 943 (k := 17) (off := 903) hx dL_law_40 (by decide) (by decide) rfl rfl (lc_17 hn hN hL h hrc hrs K)
  | 18, _, hx => exact Y_tableIn 992 (k := 18) (off := 952) hx dL_law_40 (by decide) (by decide) rfl rfl (lc_18 hn hN hL h hrc hrs K)
  | 19, _, hx => exact Y_tableIn 1017 (k := 19) (off := 977) hx dL_law_40 (by decide) (by decide) rfl rfl (lc_19 hn hN hL h hrc hrs K)
  | 20, _, hx => exact Y_tableIn 1097 (k := 20) (off := 1057) hx dL_law_40 (by decide) (by decide) rfl rfl (lc_20 hn hN hL h hrc hrs K)
  | 21, _, hx => exact Y_tableIn 1146 (k := 21) (off := 1106) hx dL_law_40 (by decide) (by decide) rfl rfl (lc_21 hn hN hL h hrc hrs K)
  | 22, _, hx => exact Y_tableIn 1183 (k := 22) (off := 1143) hx dL_law_40 (by decide) (by decide) rfl rfl (lc_22 hn hN hL h hrc hrs K)
  | 23, _, hx => exact Y_tableIn 1239 (k := 23) (off := 1199) hx dL_law_40 (by decide) (by decide) rfl rfl (lc_23 hn hN hL h hrc hrs K)
  | 24, _, hx => exact Y_tableIn 1264 (k := 24) (off := 1224) hx dL_law_40 (by decide) (by decide) rfl rfl (lc_24 hn hN hL h hrc hrs K)
  | 25, _, hx => exact Y_tableIn 1305 (k := 25) (off := 1265) hx dL_law_40 (by decide) (by decide) rfl rfl (lc_25 hn hN hL h hrc hrs K)
  | 26, _, hx => exact Y_tableIn 1373 (k := 26) (off := 1333) hx dL_law_40 (by decide) (by decide) rfl rfl (lc_26 hn hN hL h hrc hrs K)
  | 27, _, hx => exact Y_tableIn 1422 (k := 27) (off := 1382) hx dL_law_40 (by decide) (by decide) rfl rfl (lc_27 hn hN hL h hrc hrs K)
  | 28, _, hx => exact Y_tableIn 1459 (k := 28) (off := 1419) hx dL_law_40 (by decide) (by decide) rfl rfl (lc_28 hn hN hL h hrc hrs K)
  | 29, _, hx => exact Y_tableIn 1496 (k := 29) (off := 1456) hx dL_law_40 (by decide) (by decide) rfl rfl (lc_29 hn hN hL h hrc hrs K)
  | 30, _, hx => subst hx; exact X_tableOut 1521 dL_law_40 (Or.inr (by decide)) rfl k0
  | 31, _, hx => subst hx; exact X_tableOut 1521 dL_law_40 (Or.inr (by decide)) rfl k0
  | j + 32, hj, _ => exact absurd hj (by omega)
theorem law_loop {N : Nat} {xs : Nat → Int32} (hN : N ≤ 3584) : ∀ (r n : Nat) {rc rs : Nat} {L : Lay} {M : Mem}, N < n + 7 * (r + 1) → n ≤ N → 20 * r ≤ rc → 9087 * r ≤ rs → LY L → RR L M → XL N xs rc rs (L, M) 23 [.float 9, .ref 0, .ref 92, .ref 158, .int (nI n), junk, junk] [] := by
  intro r
  induction r with
  | zero =>
    intro n rc rs L M h1 h2 h3 h4 hL h
    refine X_iload 25 dL_law_23 rfl rfl ?_
    refine X_aloadS_n 26 dL_law_25 rfl (by decide) rfl ?_
    refine X_slen 27 dL_law_26 rfl ?_
    refine X_bipush 29 (v := nI 7) dL_law_27 rfl rfl ?_
    refine X_isub 30 dL_law_29 rfl ?_
    refine X_icmp_gt 1527 33 dL_law_30 rfl rfl (fun c => ?_) (fun c => ?_)
    · refine X_iconst 1528 (v := 1) dL_law_1527 rfl rfl ?_
      exact X_end dL_law_1528
    · exact absurd (nI_m7 (by omega) (by omega) |>.mpr (by omega)) c
  | succ r ih =>
    intro n rc rs L M h1 h2 h3 h4 hL h
    refine X_iload 25 dL_law_23 rfl rfl ?_
    refine X_aloadS_n 26 dL_law_25 rfl (by decide) rfl ?_
    refine X_slen 27 dL_law_26 rfl ?_
    refine X_bipush 29 (v := nI 7) dL_law_27 rfl rfl ?_
    refine X_isub 30 dL_law_29 rfl ?_
    refine X_icmp_gt 1527 33 dL_law_30 rfl rfl (fun c => ?_) (fun c => ?_)
    · refine X_iconst 1528 (v := 1) dL_law_1527 rfl rfl ?_
      exact X_end dL_law_1528
    have hn : n + 7 ≤ N := by
      apply Nat.not_lt.mp
      intro q
      exact c ((nI_m7 (by omega) (by omega)).mpr q)
    refine X_aloadS_n 34 dL_law_33 rfl (by decide) rfl ?_
    refine X_iload 36 dL_law_34 rfl rfl ?_
    refine X_sld 37 (vp_in_nI (by omega) (by omega)) dL_law_36 rfl ?_
    rw [tn_nI (n := n) (by omega)]
    refine X_bipush 39 (v := 31) dL_law_37 rfl rfl ?_
    refine X_iand 40 dL_law_39 rfl ?_
    obtain ⟨j, hj, e⟩ := x31 (xs n)
    refine lc_all hn hN hL h (by omega) (by omega) (fun L' M' hL' h' => ?_) hj e
    refine X_iinc 1524 (v := nI (n + 7)) (ls' := [.float 9, .ref 0, .ref 92, .ref 158, .int (nI (n + 7)), junk, junk]) dL_law_1521 rfl rfl (by show nI n + nI 7 = _; rw [nI_add]) rfl (Or.inr (Or.inr ⟨_, rfl, rfl⟩)) ?_
    refine X_goto 23 dL_law_1524 rfl ?_
    exact ih (n + 7) (by omega) hn (by omega) (by omega) hL' h'
