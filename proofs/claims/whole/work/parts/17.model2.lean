-- printed walks (by program: wip/whole/gen.py)
def w_X12_begins_290 (L : Lay) (p0 : Int32) (p1 : Int32) (K243 : Int64 → Int32 → Mem → Prop) (v4 : Int64) (v6 : Int32) (y0 : Int32) (y1 : Int32) (M : Mem) (Q : Mem → Prop) : Prop := vp_in y1 10 ∧ (∀ M57 : Mem, M57 = si M 147 (tn y1) y0 → (vp_in v6 10 ∧ (∀ x59 : Int64, x59 = (v4 + ((mi M57 147 (tn v6)).toInt64)) → (∀ x60 : Int32, x60 = v6 + (1 : Int32) → (K243 x59 x60 M57)))))
set_option maxRecDepth 20000 in
theorem t_X12_begins_290 {L : Lay} (hL : LY L) {p0 : Int32} {p1 : Int32}  {K243 : Int64 → Int32 → Mem → Prop} {v4 : Int64} {v6 : Int32} {y0 : Int32} {y1 : Int32}  {M : Mem} {Q : Mem → Prop} (hw : w_X12_begins_290 L p0 p1 K243 v4 v6 y0 y1 M Q) (hK243 : ∀ (v4 : Int64) (v6 : Int32) (M : Mem), K243 v4 v6 M → X (FM (QV L Q)) RX12 cX12_begins none 10 "begins" 6 0 0 (L, M) 243 [.ref 92, .int p0, junk, junk, .long v4, junk, .int v6, junk, junk, junk] []) : X (FM (QV L Q)) RX12 cX12_begins none 10 "begins" 6 0 0 (L, M) 290 [.ref 92, .int p0, junk, junk, .long v4, junk, .int v6, junk, junk, junk] [.int y0, .int y1, .ref 147] := by
  unfold w_X12_begins_290 at hw
  obtain ⟨c56, hw⟩ := hw
  refine Y_iast 291 (k := (tn y1)) (hL.ar (t := 0) (n := 10) (by decide) rfl) c56 rfl dX12_begins_290 rfl ?_
  refine X_nmM (fun M57 eM57 => ?_)
  have hw := hw M57 eM57
  refine X_lload 293 dX12_begins_291 rfl rfl ?_
  refine X_aload_n 294 dX12_begins_293 rfl rfl ?_
  refine X_getR 297 f_X12_173 (hL.ob (c := 12) (by decide) rfl) rfl (hL.rr (by decide) rfl) dX12_begins_294 rfl ?_
  refine X_iload 299 dX12_begins_297 rfl rfl ?_
  obtain ⟨c58, hw⟩ := hw
  refine Y_iald 300 (k := (tn v6)) (hL.ar (t := 0) (n := 10) (by decide) rfl) c58 rfl dX12_begins_299 rfl ?_
  refine X_i2l 301 dX12_begins_300 rfl ?_
  refine X_ladd 302 dX12_begins_301 rfl ?_
  refine X_nmL (fun x59 ex59 => ?_)
  have hw := hw x59 ex59
  refine X_lstore 304 (ls' := [.ref 92, .int p0, junk, junk, .long x59, junk, .int v6, junk, junk, junk]) dX12_begins_302 rfl (Nat.le_of_ble_eq_true rfl) rfl (Or.inr (Or.inl rfl)) ?_
  obtain ⟨x60, ex60⟩ : ∃ x60 : Int32, x60 = v6 + (1 : Int32) := ⟨_, rfl⟩
  have hw := hw x60 ex60
  refine X_iinc 307 (v := x60) (ls' := [.ref 92, .int p0, junk, junk, .long x59, junk, .int x60, junk, junk, junk]) dX12_begins_304 rfl rfl (by rw [ex60]; rfl) rfl (Or.inr (Or.inl rfl)) ?_
  refine X_goto 243 dX12_begins_307 rfl ?_
  exact hK243 x59 x60 M57 hw
def w_X12_begins_494 (L : Lay) (p0 : Int32) (p1 : Int32) (K443 : Int32 → Int32 → Mem → Prop) (K454 : Int32 → Int32 → Int32 → Int32 → Mem → Prop) (v6 : Int32) (v7 : Int32) (v9 : Int32) (M : Mem) (Q : Mem → Prop) : Prop := ∀ x90 : Int32, x90 = v9 + (1 : Int32) → (K454 v6 v7 v9 x90 M)
set_option maxRecDepth 20000 in
theorem t_X12_begins_494 {L : Lay} (hL : LY L) {p0 : Int32} {p1 : Int32}  {K443 : Int32 → Int32 → Mem → Prop} {K454 : Int32 → Int32 → Int32 → Int32 → Mem → Prop} {v6 : Int32} {v7 : Int32} {v9 : Int32}  {M : Mem} {Q : Mem → Prop} (hw : w_X12_begins_494 L p0 p1 K443 K454 v6 v7 v9 M Q) (hK443 : ∀ (v6 : Int32) (v7 : Int32) (M : Mem), K443 v6 v7 M → X (FM (QV L Q)) RX12 cX12_begins none 10 "begins" 6 0 0 (L, M) 443 [.ref 92, .int p0, junk, junk, junk, junk, .int v6, .int v7, junk, junk] []) (hK454 : ∀ (v6 : Int32) (v7 : Int32) (v8 : Int32) (v9 : Int32) (M : Mem), K454 v6 v7 v8 v9 M → X (FM (QV L Q)) RX12 cX12_begins none 10 "begins" 6 0 0 (L, M) 454 [.ref 92, .int p0, junk, junk, junk, junk, .int v6, .int v7, .int v8, .int v9] []) : X (FM (QV L Q)) RX12 cX12_begins none 10 "begins" 6 0 0 (L, M) 494 [.ref 92, .int p0, junk, junk, junk, junk, .int v6, .int v7, junk, .int v9] [] := by
  unfold w_X12_begins_494 at hw
  refine X_iload 496 dX12_begins_494 rfl rfl ?_
  refine X_istore 498 (ls' := [.ref 92, .int p0, junk, junk, junk, junk, .int v6, .int v7, .int v9, .int v9]) dX12_begins_496 rfl (Nat.le_of_ble_eq_true rfl) rfl (Or.inr (Or.inr ⟨_, rfl, rfl⟩)) ?_
  obtain ⟨x90, ex90⟩ : ∃ x90 : Int32, x90 = v9 + (1 : Int32) := ⟨_, rfl⟩
  have hw := hw x90 ex90
  refine X_iinc 501 (v := x90) (ls' := [.ref 92, .int p0, junk, junk, junk, junk, .int v6, .int v7, .int v9, .int x90]) dX12_begins_498 rfl rfl (by rw [ex90]; rfl) rfl (Or.inr (Or.inr ⟨_, rfl, rfl⟩)) ?_
  refine X_goto 454 dX12_begins_501 rfl ?_
  exact hK454 v6 v7 v9 x90 M hw
def w_X12_begins_454 (L : Lay) (p0 : Int32) (p1 : Int32) (K443 : Int32 → Int32 → Mem → Prop) (K454 : Int32 → Int32 → Int32 → Int32 → Mem → Prop) (v6 : Int32) (v7 : Int32) (v8 : Int32) (v9 : Int32) (M : Mem) (Q : Mem → Prop) : Prop := ((v9 < (mi M 92 28) → (vp_in v9 10 ∧ ((((mi M 147 (tn v9)) = 0 → (∀ x89 : Int32, x89 = v9 + (1 : Int32) → (K454 v6 v7 v8 x89 M))) ∧ (¬ (mi M 147 (tn v9)) = 0 → (((v8 < 0 → (w_X12_begins_494 L p0 p1 K443 K454 v6 v7 v9 M Q)) ∧ (¬ v8 < 0 → (w_X12_better L v7 v9 v8 M (fun x86 M85 => (((x86 = 0 → (∀ x88 : Int32, x88 = v9 + (1 : Int32) → (K454 v6 v7 v8 x88 M85))) ∧ (¬ x86 = 0 → (w_X12_begins_494 L p0 p1 K443 K454 v6 v7 v9 M85 Q)))))))))))))) ∧ (¬ v9 < (mi M 92 28) → (vp_in (((10 : Int32) * p0) + v8) 20 ∧ (∀ M78 : Mem, M78 = si M 109 (tn (((10 : Int32) * p0) + v8)) ((mi M 109 (tn (((10 : Int32) * p0) + v8))) + (1 : Int32)) → (vp_in v8 10 ∧ (∀ M80 : Mem, M80 = si M78 147 (tn v8) (0 : Int32) → (∀ x81 : Int32, x81 = v6 + (-1 : Int32) → (K443 x81 v7 M80))))))))
set_option maxRecDepth 20000 in
theorem t_X12_begins_454 {L : Lay} (hL : LY L) {p0 : Int32} {p1 : Int32}  {K443 : Int32 → Int32 → Mem → Prop} {K454 : Int32 → Int32 → Int32 → Int32 → Mem → Prop} {v6 : Int32} {v7 : Int32} {v8 : Int32} {v9 : Int32}  {M : Mem} {Q : Mem → Prop} (hw : w_X12_begins_454 L p0 p1 K443 K454 v6 v7 v8 v9 M Q) (hK443 : ∀ (v6 : Int32) (v7 : Int32) (M : Mem), K443 v6 v7 M → X (FM (QV L Q)) RX12 cX12_begins none 10 "begins" 6 0 0 (L, M) 443 [.ref 92, .int p0, junk, junk, junk, junk, .int v6, .int v7, junk, junk] []) (hK454 : ∀ (v6 : Int32) (v7 : Int32) (v8 : Int32) (v9 : Int32) (M : Mem), K454 v6 v7 v8 v9 M → X (FM (QV L Q)) RX12 cX12_begins none 10 "begins" 6 0 0 (L, M) 454 [.ref 92, .int p0, junk, junk, junk, junk, .int v6, .int v7, .int v8, .int v9] []) : X (FM (QV L Q)) RX12 cX12_begins none 10 "begins" 6 0 0 (L, M) 454 [.ref 92, .int p0, junk, junk, junk, junk, .int v6, .int v7, .int v8, .int v9] [] := by
  unfold w_X12_begins_454 at hw
  refine X_iload 456 dX12_begins_454 rfl rfl ?_
  refine X_aload_n 457 dX12_begins_456 rfl rfl ?_
  refine X_getI 460 f_X12_210 (hL.ob (c := 12) (by decide) rfl) rfl dX12_begins_457 rfl ?_
  refine X_icmp_ge 504 463 dX12_begins_460 rfl rfl (fun c76 => ?_) (fun c76 => ?_)
  · have hw := hw.2 c76
    refine X_aload_n 505 dX12_begins_504 rfl rfl ?_
    refine X_getR 508 f_X12_58 (hL.ob (c := 12) (by decide) rfl) rfl (hL.rr (by decide) rfl) dX12_begins_505 rfl ?_
    refine X_bipush 510 (v := 10) dX12_begins_508 rfl rfl ?_
    refine X_iload_n 511 dX12_begins_510 rfl rfl ?_
    refine X_imul 512 dX12_begins_511 rfl ?_
    refine X_iload 514 dX12_begins_512 rfl rfl ?_
    refine X_iadd 515 dX12_begins_514 rfl ?_
    refine X_dup2 516 dX12_begins_515 rfl rfl rfl ?_
    obtain ⟨c77, hw⟩ := hw
    refine Y_iald 517 (k := (tn (((10 : Int32) * p0) + v8))) (hL.ar (t := 0) (n := 20) (by decide) rfl) c77 rfl dX12_begins_516 rfl ?_
    refine X_iconst 518 (v := 1) dX12_begins_517 rfl rfl ?_
    refine X_iadd 519 dX12_begins_518 rfl ?_
    refine Y_iast 520 (k := (tn (((10 : Int32) * p0) + v8))) (hL.ar (t := 0) (n := 20) (by decide) rfl) c77 rfl dX12_begins_519 rfl ?_
    refine X_nmM (fun M78 eM78 => ?_)
    have hw := hw M78 eM78
    refine X_aload_n 521 dX12_begins_520 rfl rfl ?_
    refine X_getR 524 f_X12_173 (hL.ob (c := 12) (by decide) rfl) rfl (hL.rr (by decide) rfl) dX12_begins_521 rfl ?_
    refine X_iload 526 dX12_begins_524 rfl rfl ?_
    refine X_iconst 527 (v := 0) dX12_begins_526 rfl rfl ?_
    obtain ⟨c79, hw⟩ := hw
    refine Y_iast 528 (k := (tn v8)) (hL.ar (t := 0) (n := 10) (by decide) rfl) c79 rfl dX12_begins_527 rfl ?_
    refine X_nmM (fun M80 eM80 => ?_)
    have hw := hw M80 eM80
    obtain ⟨x81, ex81⟩ : ∃ x81 : Int32, x81 = v6 + (-1 : Int32) := ⟨_, rfl⟩
    have hw := hw x81 ex81
    refine X_iinc 531 (v := x81) (ls' := [.ref 92, .int p0, junk, junk, junk, junk, .int x81, .int v7, .int v8, .int v9]) dX12_begins_528 rfl rfl (by rw [ex81]; rfl) rfl (Or.inr (Or.inl rfl)) ?_
    refine X_goto 443 dX12_begins_531 rfl ?_
    refine X_weak (ls' := [.ref 92, .int p0, junk, junk, junk, junk, .int x81, .int v7, junk, junk]) (WK.s (WK.s (WK.s (WK.s (WK.s (WK.s (WK.s (WK.s (WK.j (WK.j WK.n)))))))))) (Nat.le_of_ble_eq_true rfl) ?_
    exact hK443 x81 v7 M80 hw
  · have hw := hw.1 c76
    refine X_aload_n 464 dX12_begins_463 rfl rfl ?_
    refine X_getR 467 f_X12_173 (hL.ob (c := 12) (by decide) rfl) rfl (hL.rr (by decide) rfl) dX12_begins_464 rfl ?_
    refine X_iload 469 dX12_begins_467 rfl rfl ?_
    obtain ⟨c82, hw⟩ := hw
    refine Y_iald 470 (k := (tn v9)) (hL.ar (t := 0) (n := 10) (by decide) rfl) c82 rfl dX12_begins_469 rfl ?_
    refine X_if_ne 476 473 (y := 0) dX12_begins_470 rfl rfl (fun c83 => ?_) (fun c83 => ?_)
    · have hw := hw.2 c83
      refine X_iload 478 dX12_begins_476 rfl rfl ?_
      refine X_if_lt 494 481 (y := 0) dX12_begins_478 rfl rfl (fun c84 => ?_) (fun c84 => ?_)
      · have hw := hw.1 c84
        refine X_weak (ls' := [.ref 92, .int p0, junk, junk, junk, junk, .int v6, .int v7, junk, .int v9]) (WK.s (WK.s (WK.s (WK.s (WK.s (WK.s (WK.s (WK.s (WK.j (WK.s WK.n)))))))))) (Nat.le_of_ble_eq_true rfl) ?_
        exact t_X12_begins_494 hL   hw hK443 hK454
      · have hw := hw.2 c84
        refine X_aload_n 482 dX12_begins_481 rfl rfl ?_
        refine X_iload 484 dX12_begins_482 rfl rfl ?_
        refine X_iload 486 dX12_begins_484 rfl rfl ?_
        refine X_iload 488 dX12_begins_486 rfl rfl ?_
        refine Y_cVZ 491 (as := [.int v7, .int v9, .int v8]) m_X12_401 (s_X12_better hL  hw) (hL.ob (c := 12) (by decide) rfl) rfl (by decide) (Nat.le_of_ble_eq_true rfl) dX12_begins_488 rfl rfl (fun x86 M85 bx86 hw => ?_)
        refine X_if_eq 498 494 (y := 0) dX12_begins_491 rfl rfl (fun c87 => ?_) (fun c87 => ?_)
        · have hw := hw.1 c87
          obtain ⟨x88, ex88⟩ : ∃ x88 : Int32, x88 = v9 + (1 : Int32) := ⟨_, rfl⟩
          have hw := hw x88 ex88
          refine X_iinc 501 (v := x88) (ls' := [.ref 92, .int p0, junk, junk, junk, junk, .int v6, .int v7, .int v8, .int x88]) dX12_begins_498 rfl rfl (by rw [ex88]; rfl) rfl (Or.inr (Or.inr ⟨_, rfl, rfl⟩)) ?_
          refine X_goto 454 dX12_begins_501 rfl ?_
          exact hK454 v6 v7 v8 x88 M85 hw
        · have hw := hw.2 c87
          refine X_weak (ls' := [.ref 92, .int p0, junk, junk, junk, junk, .int v6, .int v7, junk, .int v9]) (WK.s (WK.s (WK.s (WK.s (WK.s (WK.s (WK.s (WK.s (WK.j (WK.s WK.n)))))))))) (Nat.le_of_ble_eq_true rfl) ?_
          exact t_X12_begins_494 hL   hw hK443 hK454
    · have hw := hw.1 c83
      refine X_goto 498 dX12_begins_473 rfl ?_
      obtain ⟨x89, ex89⟩ : ∃ x89 : Int32, x89 = v9 + (1 : Int32) := ⟨_, rfl⟩
      have hw := hw x89 ex89
      refine X_iinc 501 (v := x89) (ls' := [.ref 92, .int p0, junk, junk, junk, junk, .int v6, .int v7, .int v8, .int x89]) dX12_begins_498 rfl rfl (by rw [ex89]; rfl) rfl (Or.inr (Or.inr ⟨_, rfl, rfl⟩)) ?_
      refine X_goto 454 dX12_begins_501 rfl ?_
      exact hK454 v6 v7 v8 x89 M hw
def w_X12_begins_537 (L : Lay) (p0 : Int32) (p1 : Int32) (K537 : Int32 → Mem → Prop) (v4 : Int32) (M : Mem) (Q : Mem → Prop) : Prop := ((v4 < (mi M 92 28) → (vp_in (((10 : Int32) * p0) + v4) 20 ∧ (∀ M44 : Mem, M44 = si M 108 (tn (((10 : Int32) * p0) + v4)) (0 : Int32) → (∀ x45 : Int32, x45 = v4 + (1 : Int32) → (K537 x45 M44))))) ∧ (¬ v4 < (mi M 92 28) → (Q M)))
set_option maxRecDepth 20000 in
theorem t_X12_begins_537 {L : Lay} (hL : LY L) {p0 : Int32} {p1 : Int32}  {K537 : Int32 → Mem → Prop} {v4 : Int32}  {M : Mem} {Q : Mem → Prop} (hw : w_X12_begins_537 L p0 p1 K537 v4 M Q) (hK537 : ∀ (v4 : Int32) (M : Mem), K537 v4 M → X (FM (QV L Q)) RX12 cX12_begins none 10 "begins" 6 0 0 (L, M) 537 [.ref 92, .int p0, junk, junk, .int v4, junk, junk, junk, junk, junk] []) : X (FM (QV L Q)) RX12 cX12_begins none 10 "begins" 6 0 0 (L, M) 537 [.ref 92, .int p0, junk, junk, .int v4, junk, junk, junk, junk, junk] [] := by
  unfold w_X12_begins_537 at hw
  refine X_iload 539 dX12_begins_537 rfl rfl ?_
  refine X_aload_n 540 dX12_begins_539 rfl rfl ?_
  refine X_getI 543 f_X12_210 (hL.ob (c := 12) (by decide) rfl) rfl dX12_begins_540 rfl ?_
  refine X_icmp_ge 565 546 dX12_begins_543 rfl rfl (fun c42 => ?_) (fun c42 => ?_)
  · have hw := hw.2 c42
    exact X_retV rfl dX12_begins_565 ⟨_, rfl, rfl, hw⟩
  · have hw := hw.1 c42
    refine X_aload_n 547 dX12_begins_546 rfl rfl ?_
    refine X_getR 550 f_X12_55 (hL.ob (c := 12) (by decide) rfl) rfl (hL.rr (by decide) rfl) dX12_begins_547 rfl ?_
    refine X_bipush 552 (v := 10) dX12_begins_550 rfl rfl ?_
    refine X_iload_n 553 dX12_begins_552 rfl rfl ?_
    refine X_imul 554 dX12_begins_553 rfl ?_
    refine X_iload 556 dX12_begins_554 rfl rfl ?_
    refine X_iadd 557 dX12_begins_556 rfl ?_
    refine X_iconst 558 (v := 0) dX12_begins_557 rfl rfl ?_
    obtain ⟨c43, hw⟩ := hw
    refine Y_iast 559 (k := (tn (((10 : Int32) * p0) + v4))) (hL.ar (t := 0) (n := 20) (by decide) rfl) c43 rfl dX12_begins_558 rfl ?_
    refine X_nmM (fun M44 eM44 => ?_)
    have hw := hw M44 eM44
    obtain ⟨x45, ex45⟩ : ∃ x45 : Int32, x45 = v4 + (1 : Int32) := ⟨_, rfl⟩
    have hw := hw x45 ex45
    refine X_iinc 562 (v := x45) (ls' := [.ref 92, .int p0, junk, junk, .int x45, junk, junk, junk, junk, junk]) dX12_begins_559 rfl rfl (by rw [ex45]; rfl) rfl (Or.inr (Or.inl rfl)) ?_
    refine X_goto 537 dX12_begins_562 rfl ?_
    exact hK537 x45 M44 hw
def w_X12_begins_534 (L : Lay) (p0 : Int32) (p1 : Int32)   (M : Mem) (Q : Mem → Prop) : Prop := LP2 (fun K537 v4 M => w_X12_begins_537 L p0 p1  K537 v4 M Q) (0 : Int32) M
set_option maxRecDepth 20000 in
theorem t_X12_begins_534 {L : Lay} (hL : LY L) {p0 : Int32} {p1 : Int32}     {M : Mem} {Q : Mem → Prop} (hw : w_X12_begins_534 L p0 p1   M Q)  : X (FM (QV L Q)) RX12 cX12_begins none 10 "begins" 6 0 0 (L, M) 534 [.ref 92, .int p0, junk, junk, junk, junk, junk, junk, junk, junk] [] := by
  unfold w_X12_begins_534 at hw
  refine X_iconst 535 (v := 0) dX12_begins_534 rfl rfl ?_
  refine X_istore 537 (ls' := [.ref 92, .int p0, junk, junk, .int (0 : Int32), junk, junk, junk, junk, junk]) dX12_begins_535 rfl (Nat.le_of_ble_eq_true rfl) rfl (Or.inr (Or.inl rfl)) ?_
  exact LP2_s hw (G := fun v4 M => X (FM (QV L Q)) RX12 cX12_begins none 10 "begins" 6 0 0 (L, M) 537 [.ref 92, .int p0, junk, junk, .int v4, junk, junk, junk, junk, junk] []) (fun K537 v4 M hb hK => t_X12_begins_537 hL  hb  hK)
def w_X12_begins_443 (L : Lay) (p0 : Int32) (p1 : Int32) (K443 : Int32 → Int32 → Mem → Prop) (v6 : Int32) (v7 : Int32) (M : Mem) (Q : Mem → Prop) : Prop := ((0 < v6 → (LP5 (fun K454 v6 v7 v8 v9 M => w_X12_begins_454 L p0 p1 K443 K454 v6 v7 v8 v9 M Q) v6 v7 (-1 : Int32) (0 : Int32) M)) ∧ (¬ 0 < v6 → (w_X12_begins_534 L p0 p1   M Q)))
set_option maxRecDepth 20000 in
theorem t_X12_begins_443 {L : Lay} (hL : LY L) {p0 : Int32} {p1 : Int32}  {K443 : Int32 → Int32 → Mem → Prop} {v6 : Int32} {v7 : Int32}  {M : Mem} {Q : Mem → Prop} (hw : w_X12_begins_443 L p0 p1 K443 v6 v7 M Q) (hK443 : ∀ (v6 : Int32) (v7 : Int32) (M : Mem), K443 v6 v7 M → X (FM (QV L Q)) RX12 cX12_begins none 10 "begins" 6 0 0 (L, M) 443 [.ref 92, .int p0, junk, junk, junk, junk, .int v6, .int v7, junk, junk] []) : X (FM (QV L Q)) RX12 cX12_begins none 10 "begins" 6 0 0 (L, M) 443 [.ref 92, .int p0, junk, junk, junk, junk, .int v6, .int v7, junk, junk] [] := by
  unfold w_X12_begins_443 at hw
  refine X_iload 445 dX12_begins_443 rfl rfl ?_
  refine X_if_le 534 448 (y := 0) dX12_begins_445 rfl rfl (fun c75 => ?_) (fun c75 => ?_)
  · have hw := hw.2 c75
    refine X_weak (ls' := [.ref 92, .int p0, junk, junk, junk, junk, junk, junk, junk, junk]) (WK.s (WK.s (WK.s (WK.s (WK.s (WK.s (WK.j (WK.j (WK.s (WK.s WK.n)))))))))) (Nat.le_of_ble_eq_true rfl) ?_
    exact t_X12_begins_534 hL   hw 
  · have hw := hw.1 c75
    refine X_iconst 449 (v := -1) dX12_begins_448 rfl rfl ?_
    refine X_istore 451 (ls' := [.ref 92, .int p0, junk, junk, junk, junk, .int v6, .int v7, .int (-1 : Int32), junk]) dX12_begins_449 rfl (Nat.le_of_ble_eq_true rfl) rfl (Or.inr (Or.inr ⟨_, rfl, rfl⟩)) ?_
    refine X_iconst 452 (v := 0) dX12_begins_451 rfl rfl ?_
    refine X_istore 454 (ls' := [.ref 92, .int p0, junk, junk, junk, junk, .int v6, .int v7, .int (-1 : Int32), .int (0 : Int32)]) dX12_begins_452 rfl (Nat.le_of_ble_eq_true rfl) rfl (Or.inr (Or.inr ⟨_, rfl, rfl⟩)) ?_
    exact LP5_s hw (G := fun v6 v7 v8 v9 M => X (FM (QV L Q)) RX12 cX12_begins none 10 "begins" 6 0 0 (L, M) 454 [.ref 92, .int p0, junk, junk, junk, junk, .int v6, .int v7, .int v8, .int v9] []) (fun K454 v6 v7 v8 v9 M hb hK => t_X12_begins_454 hL  hb hK443 hK)
def w_X12_begins_441 (L : Lay) (p0 : Int32) (p1 : Int32)  (v6 : Int32) (y0 : Int32) (M : Mem) (Q : Mem → Prop) : Prop := LP3 (fun K443 v6 v7 M => w_X12_begins_443 L p0 p1  K443 v6 v7 M Q) v6 y0 M
set_option maxRecDepth 20000 in
theorem t_X12_begins_441 {L : Lay} (hL : LY L) {p0 : Int32} {p1 : Int32}   {v6 : Int32} {y0 : Int32}  {M : Mem} {Q : Mem → Prop} (hw : w_X12_begins_441 L p0 p1  v6 y0 M Q)  : X (FM (QV L Q)) RX12 cX12_begins none 10 "begins" 6 0 0 (L, M) 441 [.ref 92, .int p0, junk, junk, junk, junk, .int v6, junk, junk, junk] [.int y0] := by
  unfold w_X12_begins_441 at hw
  refine X_istore 443 (ls' := [.ref 92, .int p0, junk, junk, junk, junk, .int v6, .int y0, junk, junk]) dX12_begins_441 rfl (Nat.le_of_ble_eq_true rfl) rfl (Or.inr (Or.inr ⟨_, rfl, rfl⟩)) ?_
  exact LP3_s hw (G := fun v6 v7 M => X (FM (QV L Q)) RX12 cX12_begins none 10 "begins" 6 0 0 (L, M) 443 [.ref 92, .int p0, junk, junk, junk, junk, .int v6, .int v7, junk, junk] []) (fun K443 v6 v7 M hb hK => t_X12_begins_443 hL  hb  hK)
def w_X12_begins_414 (L : Lay) (p0 : Int32) (p1 : Int32)  (v6 : Int32) (M : Mem) (Q : Mem → Prop) : Prop := vp_in p0 2 ∧ (((((mi M 103 (tn p0)) &&& (16 : Int32)) = 0 → (vp_in (mi M 99 (tn p0)) 26 ∧ (w_X12_begins_441 L p0 p1  v6 (mi M 133 (tn (mi M 99 (tn p0)))) M Q))) ∧ (¬ ((mi M 103 (tn p0)) &&& (16 : Int32)) = 0 → (w_X12_begins_441 L p0 p1  v6 (-1 : Int32) M Q))))
set_option maxRecDepth 20000 in
theorem t_X12_begins_414 {L : Lay} (hL : LY L) {p0 : Int32} {p1 : Int32}   {v6 : Int32}  {M : Mem} {Q : Mem → Prop} (hw : w_X12_begins_414 L p0 p1  v6 M Q)  : X (FM (QV L Q)) RX12 cX12_begins none 10 "begins" 6 0 0 (L, M) 414 [.ref 92, .int p0, junk, junk, junk, junk, .int v6, junk, junk, junk] [] := by
  unfold w_X12_begins_414 at hw
  refine X_aload_n 415 dX12_begins_414 rfl rfl ?_
  refine X_getR 418 f_X12_40 (hL.ob (c := 12) (by decide) rfl) rfl (hL.rr (by decide) rfl) dX12_begins_415 rfl ?_
  refine X_iload_n 419 dX12_begins_418 rfl rfl ?_
  obtain ⟨c72, hw⟩ := hw
  refine Y_iald 420 (k := (tn p0)) (hL.ar (t := 0) (n := 2) (by decide) rfl) c72 rfl dX12_begins_419 rfl ?_
  refine X_bipush 422 (v := 16) dX12_begins_420 rfl rfl ?_
  refine X_iand 423 dX12_begins_422 rfl ?_
  refine X_if_eq 430 426 (y := 0) dX12_begins_423 rfl rfl (fun c73 => ?_) (fun c73 => ?_)
  · have hw := hw.1 c73
    refine X_aload_n 431 dX12_begins_430 rfl rfl ?_
    refine X_getR 434 f_X12_131 (hL.ob (c := 12) (by decide) rfl) rfl (hL.rr (by decide) rfl) dX12_begins_431 rfl ?_
    refine X_aload_n 435 dX12_begins_434 rfl rfl ?_
    refine X_getR 438 f_X12_28 (hL.ob (c := 12) (by decide) rfl) rfl (hL.rr (by decide) rfl) dX12_begins_435 rfl ?_
    refine X_iload_n 439 dX12_begins_438 rfl rfl ?_
    refine Y_iald 440 (k := (tn p0)) (hL.ar (t := 0) (n := 2) (by decide) rfl) c72 rfl dX12_begins_439 rfl ?_
    obtain ⟨c74, hw⟩ := hw
    refine Y_iald 441 (k := (tn (mi M 99 (tn p0)))) (hL.ar (t := 0) (n := 26) (by decide) rfl) c74 rfl dX12_begins_440 rfl ?_
    exact t_X12_begins_441 hL   hw 
  · have hw := hw.2 c73
    refine X_iconst 427 (v := -1) dX12_begins_426 rfl rfl ?_
    refine X_goto 441 dX12_begins_427 rfl ?_
    exact t_X12_begins_441 hL   hw 
def w_X12_begins_332 (L : Lay) (p0 : Int32) (p1 : Int32) (K332 : Int64 → Int32 → Int32 → Mem → Prop) (v4 : Int64) (v6 : Int32) (v7 : Int32) (M : Mem) (Q : Mem → Prop) : Prop := ((v7 < (mi M 92 28) → (((0 < (lg_cmp v4 (0 : Int64)) → (vp_in p0 2 ∧ (vp_in v7 10 ∧ (∀ x65 : Int64, x65 = (((mi M 100 (tn p0)).toInt64) * ((mi M 147 (tn v7)).toInt64)) → (¬ v4 = 0 ∧ (vp_in (((10 : Int32) * p0) + v7) 20 ∧ (∀ M68 : Mem, M68 = si M 109 (tn (((10 : Int32) * p0) + v7)) ((x65 / v4).toInt32) → (∀ M69 : Mem, M69 = si M68 148 (tn v7) ((jlrem x65 v4).toInt32) → (∀ x70 : Int32, x70 = (v6 - ((x65 / v4).toInt32)) → (∀ x71 : Int32, x71 = v7 + (1 : Int32) → (K332 v4 x70 x71 M69))))))))))) ∧ (¬ 0 < (lg_cmp v4 (0 : Int64)) → (w_X12_begins_414 L p0 p1  v6 M Q))))) ∧ (¬ v7 < (mi M 92 28) → (w_X12_begins_414 L p0 p1  v6 M Q)))
set_option maxRecDepth 20000 in
theorem t_X12_begins_332 {L : Lay} (hL : LY L) {p0 : Int32} {p1 : Int32}  {K332 : Int64 → Int32 → Int32 → Mem → Prop} {v4 : Int64} {v6 : Int32} {v7 : Int32}  {M : Mem} {Q : Mem → Prop} (hw : w_X12_begins_332 L p0 p1 K332 v4 v6 v7 M Q) (hK332 : ∀ (v4 : Int64) (v6 : Int32) (v7 : Int32) (M : Mem), K332 v4 v6 v7 M → X (FM (QV L Q)) RX12 cX12_begins none 10 "begins" 6 0 0 (L, M) 332 [.ref 92, .int p0, junk, junk, .long v4, junk, .int v6, .int v7, junk, junk] []) : X (FM (QV L Q)) RX12 cX12_begins none 10 "begins" 6 0 0 (L, M) 332 [.ref 92, .int p0, junk, junk, .long v4, junk, .int v6, .int v7, junk, junk] [] := by
  unfold w_X12_begins_332 at hw
  refine X_iload 334 dX12_begins_332 rfl rfl ?_
  refine X_aload_n 335 dX12_begins_334 rfl rfl ?_
  refine X_getI 338 f_X12_210 (hL.ob (c := 12) (by decide) rfl) rfl dX12_begins_335 rfl ?_
  refine X_icmp_ge 414 341 dX12_begins_338 rfl rfl (fun c61 => ?_) (fun c61 => ?_)
  · have hw := hw.2 c61
    refine X_weak (ls' := [.ref 92, .int p0, junk, junk, junk, junk, .int v6, junk, junk, junk]) (WK.s (WK.s (WK.s (WK.s (WK.j (WK.s (WK.s (WK.j (WK.s (WK.s WK.n)))))))))) (Nat.le_of_ble_eq_true rfl) ?_
    exact t_X12_begins_414 hL   hw 
  · have hw := hw.1 c61
    refine X_lload 343 dX12_begins_341 rfl rfl ?_
    refine X_lconst 344 (v := 0) dX12_begins_343 rfl rfl ?_
    refine X_lcmp 345 dX12_begins_344 rfl ?_
    refine X_if_le 414 348 (y := 0) dX12_begins_345 rfl rfl (fun c62 => ?_) (fun c62 => ?_)
    · have hw := hw.2 c62
      refine X_weak (ls' := [.ref 92, .int p0, junk, junk, junk, junk, .int v6, junk, junk, junk]) (WK.s (WK.s (WK.s (WK.s (WK.j (WK.s (WK.s (WK.j (WK.s (WK.s WK.n)))))))))) (Nat.le_of_ble_eq_true rfl) ?_
      exact t_X12_begins_414 hL   hw 
    · have hw := hw.1 c62
      refine X_aload_n 349 dX12_begins_348 rfl rfl ?_
      refine X_getR 352 f_X12_31 (hL.ob (c := 12) (by decide) rfl) rfl (hL.rr (by decide) rfl) dX12_begins_349 rfl ?_
      refine X_iload_n 353 dX12_begins_352 rfl rfl ?_
      obtain ⟨c63, hw⟩ := hw
      refine Y_iald 354 (k := (tn p0)) (hL.ar (t := 0) (n := 2) (by decide) rfl) c63 rfl dX12_begins_353 rfl ?_
      refine X_i2l 355 dX12_begins_354 rfl ?_
      refine X_aload_n 356 dX12_begins_355 rfl rfl ?_
      refine X_getR 359 f_X12_173 (hL.ob (c := 12) (by decide) rfl) rfl (hL.rr (by decide) rfl) dX12_begins_356 rfl ?_
      refine X_iload 361 dX12_begins_359 rfl rfl ?_
      obtain ⟨c64, hw⟩ := hw
      refine Y_iald 362 (k := (tn v7)) (hL.ar (t := 0) (n := 10) (by decide) rfl) c64 rfl dX12_begins_361 rfl ?_
      refine X_i2l 363 dX12_begins_362 rfl ?_
      refine X_lmul 364 dX12_begins_363 rfl ?_
      refine X_nmL (fun x65 ex65 => ?_)
      have hw := hw x65 ex65
      refine X_lstore 366 (ls' := [.ref 92, .int p0, junk, junk, .long v4, junk, .int v6, .int v7, .long x65, junk]) dX12_begins_364 rfl (Nat.le_of_ble_eq_true rfl) rfl (Or.inr (Or.inr ⟨_, rfl, rfl⟩)) ?_
      refine X_aload_n 367 dX12_begins_366 rfl rfl ?_
      refine X_getR 370 f_X12_58 (hL.ob (c := 12) (by decide) rfl) rfl (hL.rr (by decide) rfl) dX12_begins_367 rfl ?_
      refine X_bipush 372 (v := 10) dX12_begins_370 rfl rfl ?_
      refine X_iload_n 373 dX12_begins_372 rfl rfl ?_
      refine X_imul 374 dX12_begins_373 rfl ?_
      refine X_iload 376 dX12_begins_374 rfl rfl ?_
      refine X_iadd 377 dX12_begins_376 rfl ?_
      refine X_lload 379 dX12_begins_377 rfl rfl ?_
      refine X_lload 381 dX12_begins_379 rfl rfl ?_
      obtain ⟨c66, hw⟩ := hw
      refine X_ldiv 382 dX12_begins_381 rfl c66 ?_
      refine X_l2i 383 dX12_begins_382 rfl ?_
      obtain ⟨c67, hw⟩ := hw
      refine Y_iast 384 (k := (tn (((10 : Int32) * p0) + v7))) (hL.ar (t := 0) (n := 20) (by decide) rfl) c67 rfl dX12_begins_383 rfl ?_
      refine X_nmM (fun M68 eM68 => ?_)
      have hw := hw M68 eM68
      refine X_aload_n 385 dX12_begins_384 rfl rfl ?_
      refine X_getR 388 f_X12_176 (hL.ob (c := 12) (by decide) rfl) rfl (hL.rr (by decide) rfl) dX12_begins_385 rfl ?_
      refine X_iload 390 dX12_begins_388 rfl rfl ?_
      refine X_lload 392 dX12_begins_390 rfl rfl ?_
      refine X_lload 394 dX12_begins_392 rfl rfl ?_
      refine Y_lrem 395 dX12_begins_394 rfl c66 ?_
      refine X_l2i 396 dX12_begins_395 rfl ?_
      refine Y_iast 397 (k := (tn v7)) (hL.ar (t := 0) (n := 10) (by decide) rfl) c64 rfl dX12_begins_396 rfl ?_
      refine X_nmM (fun M69 eM69 => ?_)
      have hw := hw M69 eM69
      refine X_iload 399 dX12_begins_397 rfl rfl ?_
      refine X_lload 401 dX12_begins_399 rfl rfl ?_
      refine X_lload 403 dX12_begins_401 rfl rfl ?_
      refine X_ldiv 404 dX12_begins_403 rfl c66 ?_
      refine X_l2i 405 dX12_begins_404 rfl ?_
      refine X_isub 406 dX12_begins_405 rfl ?_
      refine X_nmI (fun x70 ex70 => ?_)
      have hw := hw x70 ex70
      refine X_istore 408 (ls' := [.ref 92, .int p0, junk, junk, .long v4, junk, .int x70, .int v7, .long x65, junk]) dX12_begins_406 rfl (Nat.le_of_ble_eq_true rfl) rfl (Or.inr (Or.inl rfl)) ?_
      obtain ⟨x71, ex71⟩ : ∃ x71 : Int32, x71 = v7 + (1 : Int32) := ⟨_, rfl⟩
      have hw := hw x71 ex71
      refine X_iinc 411 (v := x71) (ls' := [.ref 92, .int p0, junk, junk, .long v4, junk, .int x70, .int x71, .long x65, junk]) dX12_begins_408 rfl rfl (by rw [ex71]; rfl) rfl (Or.inr (Or.inr ⟨_, rfl, rfl⟩)) ?_
      refine X_goto 332 dX12_begins_411 rfl ?_
      refine X_weak (ls' := [.ref 92, .int p0, junk, junk, .long v4, junk, .int x70, .int x71, junk, junk]) (WK.s (WK.s (WK.s (WK.s (WK.s (WK.s (WK.s (WK.s (WK.j (WK.s WK.n)))))))))) (Nat.le_of_ble_eq_true rfl) ?_
      exact hK332 v4 x70 x71 M69 hw
def w_X12_begins_327 (L : Lay) (p0 : Int32) (p1 : Int32)  (v4 : Int64) (y0 : Int32) (M : Mem) (Q : Mem → Prop) : Prop := LP4 (fun K332 v4 v6 v7 M => w_X12_begins_332 L p0 p1  K332 v4 v6 v7 M Q) v4 y0 (0 : Int32) M
set_option maxRecDepth 20000 in
theorem t_X12_begins_327 {L : Lay} (hL : LY L) {p0 : Int32} {p1 : Int32}   {v4 : Int64} {y0 : Int32}  {M : Mem} {Q : Mem → Prop} (hw : w_X12_begins_327 L p0 p1  v4 y0 M Q)  : X (FM (QV L Q)) RX12 cX12_begins none 10 "begins" 6 0 0 (L, M) 327 [.ref 92, .int p0, junk, junk, .long v4, junk, junk, junk, junk, junk] [.int y0] := by
  unfold w_X12_begins_327 at hw
  refine X_istore 329 (ls' := [.ref 92, .int p0, junk, junk, .long v4, junk, .int y0, junk, junk, junk]) dX12_begins_327 rfl (Nat.le_of_ble_eq_true rfl) rfl (Or.inr (Or.inl rfl)) ?_
  refine X_iconst 330 (v := 0) dX12_begins_329 rfl rfl ?_
  refine X_istore 332 (ls' := [.ref 92, .int p0, junk, junk, .long v4, junk, .int y0, .int (0 : Int32), junk, junk]) dX12_begins_330 rfl (Nat.le_of_ble_eq_true rfl) rfl (Or.inr (Or.inr ⟨_, rfl, rfl⟩)) ?_
  exact LP4_s hw (G := fun v4 v6 v7 M => X (FM (QV L Q)) RX12 cX12_begins none 10 "begins" 6 0 0 (L, M) 332 [.ref 92, .int p0, junk, junk, .long v4, junk, .int v6, .int v7, junk, junk] []) (fun K332 v4 v6 v7 M hb hK => t_X12_begins_332 hL  hb  hK)
def w_X12_begins_243 (L : Lay) (p0 : Int32) (p1 : Int32) (K243 : Int64 → Int32 → Mem → Prop) (v4 : Int64) (v6 : Int32) (M : Mem) (Q : Mem → Prop) : Prop := ((v6 < (mi M 92 28) → (∀ M49 : Mem, M49 = si M 92 68 v6 → (w_X12_isTold L p0 (0 : Int32) (1 : Int32) M49 (fun x51 M50 => (((x51 = 0 → (w_X12_begins_290 L p0 p1 K243 v4 v6 (1 : Int32) v6 M50 Q)) ∧ (¬ x51 = 0 → (vp_in p0 2 ∧ (w_X12_worthWithin L p0 (mi M50 99 (tn p0)) (0 : Int32) M50 (fun x55 M54 => (w_X12_begins_290 L p0 p1 K243 v4 v6 x55 v6 M54 Q))))))))))) ∧ (¬ v6 < (mi M 92 28) → ((((lg_cmp v4 (0 : Int64)) = 0 → (w_X12_begins_327 L p0 p1  v4 (0 : Int32) M Q)) ∧ (¬ (lg_cmp v4 (0 : Int64)) = 0 → (vp_in p0 2 ∧ (w_X12_begins_327 L p0 p1  v4 (mi M 100 (tn p0)) M Q)))))))
set_option maxRecDepth 20000 in
theorem t_X12_begins_243 {L : Lay} (hL : LY L) {p0 : Int32} {p1 : Int32}  {K243 : Int64 → Int32 → Mem → Prop} {v4 : Int64} {v6 : Int32}  {M : Mem} {Q : Mem → Prop} (hw : w_X12_begins_243 L p0 p1 K243 v4 v6 M Q) (hK243 : ∀ (v4 : Int64) (v6 : Int32) (M : Mem), K243 v4 v6 M → X (FM (QV L Q)) RX12 cX12_begins none 10 "begins" 6 0 0 (L, M) 243 [.ref 92, .int p0, junk, junk, .long v4, junk, .int v6, junk, junk, junk] []) : X (FM (QV L Q)) RX12 cX12_begins none 10 "begins" 6 0 0 (L, M) 243 [.ref 92, .int p0, junk, junk, .long v4, junk, .int v6, junk, junk, junk] [] := by
  unfold w_X12_begins_243 at hw
  refine X_iload 245 dX12_begins_243 rfl rfl ?_
  refine X_aload_n 246 dX12_begins_245 rfl rfl ?_
  refine X_getI 249 f_X12_210 (hL.ob (c := 12) (by decide) rfl) rfl dX12_begins_246 rfl ?_
  refine X_icmp_ge 310 252 dX12_begins_249 rfl rfl (fun c46 => ?_) (fun c46 => ?_)
  · have hw := hw.2 c46
    refine X_lload 312 dX12_begins_310 rfl rfl ?_
    refine X_lconst 313 (v := 0) dX12_begins_312 rfl rfl ?_
    refine X_lcmp 314 dX12_begins_313 rfl ?_
    refine X_if_ne 321 317 (y := 0) dX12_begins_314 rfl rfl (fun c47 => ?_) (fun c47 => ?_)
    · have hw := hw.2 c47
      refine X_aload_n 322 dX12_begins_321 rfl rfl ?_
      refine X_getR 325 f_X12_31 (hL.ob (c := 12) (by decide) rfl) rfl (hL.rr (by decide) rfl) dX12_begins_322 rfl ?_
      refine X_iload_n 326 dX12_begins_325 rfl rfl ?_
      obtain ⟨c48, hw⟩ := hw
      refine Y_iald 327 (k := (tn p0)) (hL.ar (t := 0) (n := 2) (by decide) rfl) c48 rfl dX12_begins_326 rfl ?_
      refine X_weak (ls' := [.ref 92, .int p0, junk, junk, .long v4, junk, junk, junk, junk, junk]) (WK.s (WK.s (WK.s (WK.s (WK.s (WK.s (WK.j (WK.s (WK.s (WK.s WK.n)))))))))) (Nat.le_of_ble_eq_true rfl) ?_
      exact t_X12_begins_327 hL   hw 
    · have hw := hw.1 c47
      refine X_iconst 318 (v := 0) dX12_begins_317 rfl rfl ?_
      refine X_goto 327 dX12_begins_318 rfl ?_
      refine X_weak (ls' := [.ref 92, .int p0, junk, junk, .long v4, junk, junk, junk, junk, junk]) (WK.s (WK.s (WK.s (WK.s (WK.s (WK.s (WK.j (WK.s (WK.s (WK.s WK.n)))))))))) (Nat.le_of_ble_eq_true rfl) ?_
      exact t_X12_begins_327 hL   hw 
  · have hw := hw.1 c46
    refine X_aload_n 253 dX12_begins_252 rfl rfl ?_
    refine X_iload 255 dX12_begins_253 rfl rfl ?_
    refine X_putI 258 f_X12_373 (Or.inl rfl) (hL.ob (c := 12) (by decide) rfl) rfl dX12_begins_255 rfl ?_
    refine X_nmM (fun M49 eM49 => ?_)
    have hw := hw M49 eM49
    refine X_aload_n 259 dX12_begins_258 rfl rfl ?_
    refine X_getR 262 f_X12_173 (hL.ob (c := 12) (by decide) rfl) rfl (hL.rr (by decide) rfl) dX12_begins_259 rfl ?_
    refine X_iload 264 dX12_begins_262 rfl rfl ?_
    refine X_aload_n 265 dX12_begins_264 rfl rfl ?_
    refine X_iload_n 266 dX12_begins_265 rfl rfl ?_
    refine X_iconst 267 (v := 0) dX12_begins_266 rfl rfl ?_
    refine X_iconst 268 (v := 1) dX12_begins_267 rfl rfl ?_
    refine Y_cVZ 271 (as := [.int p0, .int (0 : Int32), .int (1 : Int32)]) m_X12_395 (s_X12_isTold hL  hw) (hL.ob (c := 12) (by decide) rfl) rfl (by decide) (Nat.le_of_ble_eq_true rfl) dX12_begins_268 rfl rfl (fun x51 M50 bx51 hw => ?_)
    refine X_if_eq 289 274 (y := 0) dX12_begins_271 rfl rfl (fun c52 => ?_) (fun c52 => ?_)
    · have hw := hw.1 c52
      refine X_iconst 290 (v := 1) dX12_begins_289 rfl rfl ?_
      exact t_X12_begins_290 hL   hw hK243
    · have hw := hw.2 c52
      refine X_aload_n 275 dX12_begins_274 rfl rfl ?_
      refine X_iload_n 276 dX12_begins_275 rfl rfl ?_
      refine X_aload_n 277 dX12_begins_276 rfl rfl ?_
      refine X_getR 280 f_X12_28 (hL.ob (c := 12) (by decide) rfl) rfl (hL.rr (by decide) rfl) dX12_begins_277 rfl ?_
      refine X_iload_n 281 dX12_begins_280 rfl rfl ?_
      obtain ⟨c53, hw⟩ := hw
      refine Y_iald 282 (k := (tn p0)) (hL.ar (t := 0) (n := 2) (by decide) rfl) c53 rfl dX12_begins_281 rfl ?_
      refine X_iconst 283 (v := 0) dX12_begins_282 rfl rfl ?_
      refine Y_cVI 286 (as := [.int p0, .int ((mi M50 99 (tn p0))), .int (0 : Int32)]) m_X12_398 (s_X12_worthWithin hL  hw) (hL.ob (c := 12) (by decide) rfl) rfl (by decide) (Nat.le_of_ble_eq_true rfl) dX12_begins_283 rfl rfl (fun x55 M54 hw => ?_)
      refine X_goto 290 dX12_begins_286 rfl ?_
      exact t_X12_begins_290 hL   hw hK243
def w_X12_begins_236 (L : Lay) (p0 : Int32) (p1 : Int32)  (y0 : Int32) (y1 : Int32) (M : Mem) (Q : Mem → Prop) : Prop := vp_in y1 2 ∧ (∀ M41 : Mem, M41 = si M 100 (tn y1) y0 → (LP3 (fun K243 v4 v6 M => w_X12_begins_243 L p0 p1  K243 v4 v6 M Q) (0 : Int64) (0 : Int32) M41))
set_option maxRecDepth 20000 in
theorem t_X12_begins_236 {L : Lay} (hL : LY L) {p0 : Int32} {p1 : Int32}   {y0 : Int32} {y1 : Int32}  {M : Mem} {Q : Mem → Prop} (hw : w_X12_begins_236 L p0 p1  y0 y1 M Q)  : X (FM (QV L Q)) RX12 cX12_begins none 10 "begins" 6 0 0 (L, M) 236 [.ref 92, .int p0, junk, junk, junk, junk, junk, junk, junk, junk] [.int y0, .int y1, .ref 100] := by
  unfold w_X12_begins_236 at hw
  obtain ⟨c40, hw⟩ := hw
  refine Y_iast 237 (k := (tn y1)) (hL.ar (t := 0) (n := 2) (by decide) rfl) c40 rfl dX12_begins_236 rfl ?_
  refine X_nmM (fun M41 eM41 => ?_)
  have hw := hw M41 eM41
  refine X_lconst 238 (v := 0) dX12_begins_237 rfl rfl ?_
  refine X_lstore 240 (ls' := [.ref 92, .int p0, junk, junk, .long (0 : Int64), junk, junk, junk, junk, junk]) dX12_begins_238 rfl (Nat.le_of_ble_eq_true rfl) rfl (Or.inr (Or.inl rfl)) ?_
  refine X_iconst 241 (v := 0) dX12_begins_240 rfl rfl ?_
  refine X_istore 243 (ls' := [.ref 92, .int p0, junk, junk, .long (0 : Int64), junk, .int (0 : Int32), junk, junk, junk]) dX12_begins_241 rfl (Nat.le_of_ble_eq_true rfl) rfl (Or.inr (Or.inl rfl)) ?_
  exact LP3_s hw (G := fun v4 v6 M => X (FM (QV L Q)) RX12 cX12_begins none 10 "begins" 6 0 0 (L, M) 243 [.ref 92, .int p0, junk, junk, .long v4, junk, .int v6, junk, junk, junk] []) (fun K243 v4 v6 M hb hK => t_X12_begins_243 hL  hb  hK)
def w_X12_begins_145 (L : Lay) (p0 : Int32) (p1 : Int32) (K145 : Int32 → Mem → Prop) (v4 : Int32) (M : Mem) (Q : Mem → Prop) : Prop := ((v4 < (mi M 92 28) → (vp_in p0 2 ∧ (∀ x35 : Int32, x35 = (if (mi M 99 (tn p0)) < 0 then (-1 : Int32) else (0 : Int32)) → (vp_in (((10 : Int32) * p0) + v4) 20 ∧ (∀ M37 : Mem, M37 = si M 109 (tn (((10 : Int32) * p0) + v4)) x35 → (∀ x38 : Int32, x38 = v4 + (1 : Int32) → (K145 x38 M37))))))) ∧ (¬ v4 < (mi M 92 28) → (vp_in p0 2 ∧ ((((mi M 99 (tn p0)) < 0 → (w_X12_begins_534 L p0 p1   M Q)) ∧ (¬ (mi M 99 (tn p0)) < 0 → (((p1 < 0 → (w_X12_isTold L p0 (1 : Int32) (2 : Int32) M (fun x30 M29 => (((x30 = 0 → (w_X12_begins_236 L p0 p1  (9999 : Int32) p0 M29 Q)) ∧ (¬ x30 = 0 → (w_X12_worthWithin L p0 (mi M29 99 (tn p0)) (1 : Int32) M29 (fun x33 M32 => (w_X12_begins_236 L p0 p1  x33 p0 M32 Q))))))))) ∧ (¬ p1 < 0 → (w_X12_begins_236 L p0 p1  p1 p0 M Q))))))))))
set_option maxRecDepth 20000 in
theorem t_X12_begins_145 {L : Lay} (hL : LY L) {p0 : Int32} {p1 : Int32}  {K145 : Int32 → Mem → Prop} {v4 : Int32}  {M : Mem} {Q : Mem → Prop} (hw : w_X12_begins_145 L p0 p1 K145 v4 M Q) (hK145 : ∀ (v4 : Int32) (M : Mem), K145 v4 M → X (FM (QV L Q)) RX12 cX12_begins none 10 "begins" 6 0 0 (L, M) 145 [.ref 92, .int p0, .int p1, junk, .int v4, junk, junk, junk, junk, junk] []) : X (FM (QV L Q)) RX12 cX12_begins none 10 "begins" 6 0 0 (L, M) 145 [.ref 92, .int p0, .int p1, junk, .int v4, junk, junk, junk, junk, junk] [] := by
  unfold w_X12_begins_145 at hw
  refine X_iload 147 dX12_begins_145 rfl rfl ?_
  refine X_aload_n 148 dX12_begins_147 rfl rfl ?_
  refine X_getI 151 f_X12_210 (hL.ob (c := 12) (by decide) rfl) rfl dX12_begins_148 rfl ?_
  refine X_icmp_ge 186 154 dX12_begins_151 rfl rfl (fun c25 => ?_) (fun c25 => ?_)
  · have hw := hw.2 c25
    refine X_aload_n 187 dX12_begins_186 rfl rfl ?_
    refine X_getR 190 f_X12_28 (hL.ob (c := 12) (by decide) rfl) rfl (hL.rr (by decide) rfl) dX12_begins_187 rfl ?_
    refine X_iload_n 191 dX12_begins_190 rfl rfl ?_
    obtain ⟨c26, hw⟩ := hw
    refine Y_iald 192 (k := (tn p0)) (hL.ar (t := 0) (n := 2) (by decide) rfl) c26 rfl dX12_begins_191 rfl ?_
    refine X_if_lt 534 195 (y := 0) dX12_begins_192 rfl rfl (fun c27 => ?_) (fun c27 => ?_)
    · have hw := hw.1 c27
      refine X_weak (ls' := [.ref 92, .int p0, junk, junk, junk, junk, junk, junk, junk, junk]) (WK.s (WK.s (WK.j (WK.s (WK.j (WK.s (WK.s (WK.s (WK.s (WK.s WK.n)))))))))) (Nat.le_of_ble_eq_true rfl) ?_
      exact t_X12_begins_534 hL   hw 
    · have hw := hw.2 c27
      refine X_aload_n 196 dX12_begins_195 rfl rfl ?_
      refine X_getR 199 f_X12_31 (hL.ob (c := 12) (by decide) rfl) rfl (hL.rr (by decide) rfl) dX12_begins_196 rfl ?_
      refine X_iload_n 200 dX12_begins_199 rfl rfl ?_
      refine X_iload_n 201 dX12_begins_200 rfl rfl ?_
      refine X_if_lt 208 204 (y := 0) dX12_begins_201 rfl rfl (fun c28 => ?_) (fun c28 => ?_)
      · have hw := hw.1 c28
        refine X_aload_n 209 dX12_begins_208 rfl rfl ?_
        refine X_iload_n 210 dX12_begins_209 rfl rfl ?_
        refine X_iconst 211 (v := 1) dX12_begins_210 rfl rfl ?_
        refine X_iconst 212 (v := 2) dX12_begins_211 rfl rfl ?_
        refine Y_cVZ 215 (as := [.int p0, .int (1 : Int32), .int (2 : Int32)]) m_X12_395 (s_X12_isTold hL  hw) (hL.ob (c := 12) (by decide) rfl) rfl (by decide) (Nat.le_of_ble_eq_true rfl) dX12_begins_212 rfl rfl (fun x30 M29 bx30 hw => ?_)
        refine X_if_eq 233 218 (y := 0) dX12_begins_215 rfl rfl (fun c31 => ?_) (fun c31 => ?_)
        · have hw := hw.1 c31
          refine X_sipush 236 (v := 9999) dX12_begins_233 rfl rfl ?_
          refine X_weak (ls' := [.ref 92, .int p0, junk, junk, junk, junk, junk, junk, junk, junk]) (WK.s (WK.s (WK.j (WK.s (WK.j (WK.s (WK.s (WK.s (WK.s (WK.s WK.n)))))))))) (Nat.le_of_ble_eq_true rfl) ?_
          exact t_X12_begins_236 hL   hw 
        · have hw := hw.2 c31
          refine X_aload_n 219 dX12_begins_218 rfl rfl ?_
          refine X_iload_n 220 dX12_begins_219 rfl rfl ?_
          refine X_aload_n 221 dX12_begins_220 rfl rfl ?_
          refine X_getR 224 f_X12_28 (hL.ob (c := 12) (by decide) rfl) rfl (hL.rr (by decide) rfl) dX12_begins_221 rfl ?_
          refine X_iload_n 225 dX12_begins_224 rfl rfl ?_
          refine Y_iald 226 (k := (tn p0)) (hL.ar (t := 0) (n := 2) (by decide) rfl) c26 rfl dX12_begins_225 rfl ?_
          refine X_iconst 227 (v := 1) dX12_begins_226 rfl rfl ?_
          refine Y_cVI 230 (as := [.int p0, .int ((mi M29 99 (tn p0))), .int (1 : Int32)]) m_X12_398 (s_X12_worthWithin hL  hw) (hL.ob (c := 12) (by decide) rfl) rfl (by decide) (Nat.le_of_ble_eq_true rfl) dX12_begins_227 rfl rfl (fun x33 M32 hw => ?_)
          refine X_goto 236 dX12_begins_230 rfl ?_
          refine X_weak (ls' := [.ref 92, .int p0, junk, junk, junk, junk, junk, junk, junk, junk]) (WK.s (WK.s (WK.j (WK.s (WK.j (WK.s (WK.s (WK.s (WK.s (WK.s WK.n)))))))))) (Nat.le_of_ble_eq_true rfl) ?_
          exact t_X12_begins_236 hL   hw 
      · have hw := hw.2 c28
        refine X_iload_n 205 dX12_begins_204 rfl rfl ?_
        refine X_goto 236 dX12_begins_205 rfl ?_
        refine X_weak (ls' := [.ref 92, .int p0, junk, junk, junk, junk, junk, junk, junk, junk]) (WK.s (WK.s (WK.j (WK.s (WK.j (WK.s (WK.s (WK.s (WK.s (WK.s WK.n)))))))))) (Nat.le_of_ble_eq_true rfl) ?_
        exact t_X12_begins_236 hL   hw 
  · have hw := hw.1 c25
    refine X_aload_n 155 dX12_begins_154 rfl rfl ?_
    refine X_getR 158 f_X12_58 (hL.ob (c := 12) (by decide) rfl) rfl (hL.rr (by decide) rfl) dX12_begins_155 rfl ?_
    refine X_bipush 160 (v := 10) dX12_begins_158 rfl rfl ?_
    refine X_iload_n 161 dX12_begins_160 rfl rfl ?_
    refine X_imul 162 dX12_begins_161 rfl ?_
    refine X_iload 164 dX12_begins_162 rfl rfl ?_
    refine X_iadd 165 dX12_begins_164 rfl ?_
    refine X_aload_n 166 dX12_begins_165 rfl rfl ?_
    refine X_getR 169 f_X12_28 (hL.ob (c := 12) (by decide) rfl) rfl (hL.rr (by decide) rfl) dX12_begins_166 rfl ?_
    refine X_iload_n 170 dX12_begins_169 rfl rfl ?_
    obtain ⟨c34, hw⟩ := hw
    refine Y_iald 171 (k := (tn p0)) (hL.ar (t := 0) (n := 2) (by decide) rfl) c34 rfl dX12_begins_170 rfl ?_
    obtain ⟨x35, ex35⟩ : ∃ x35 : Int32, x35 = (if (mi M 99 (tn p0)) < 0 then (-1 : Int32) else (0 : Int32)) := ⟨_, rfl⟩
    have hw := hw x35 ex35
    have hJ : X (FM (QV L Q)) RX12 cX12_begins none 10 "begins" 6 0 0 (L, M) 179 [.ref 92, .int p0, .int p1, junk, .int v4, junk, junk, junk, junk, junk] [.int x35, .int ((((10 : Int32) * p0) + v4)), .ref 109] := by
      obtain ⟨c36, hw⟩ := hw
      refine Y_iast 180 (k := (tn (((10 : Int32) * p0) + v4))) (hL.ar (t := 0) (n := 20) (by decide) rfl) c36 rfl dX12_begins_179 rfl ?_
      refine X_nmM (fun M37 eM37 => ?_)
      have hw := hw M37 eM37
      obtain ⟨x38, ex38⟩ : ∃ x38 : Int32, x38 = v4 + (1 : Int32) := ⟨_, rfl⟩
      have hw := hw x38 ex38
      refine X_iinc 183 (v := x38) (ls' := [.ref 92, .int p0, .int p1, junk, .int x38, junk, junk, junk, junk, junk]) dX12_begins_180 rfl rfl (by rw [ex38]; rfl) rfl (Or.inr (Or.inl rfl)) ?_
      refine X_goto 145 dX12_begins_183 rfl ?_
      exact hK145 x38 M37 hw
    refine X_if_ge 178 174 (y := 0) dX12_begins_171 rfl rfl (fun c39 => ?_) (fun c39 => ?_)
    · refine X_iconst 179 (v := 0) dX12_begins_178 rfl rfl ?_
      rw [if_neg c39] at ex35
      rw [ex35] at hJ
      exact hJ
    · refine X_iconst 175 (v := -1) dX12_begins_174 rfl rfl ?_
      refine X_goto 179 dX12_begins_175 rfl ?_
      rw [if_pos c39] at ex35
      rw [ex35] at hJ
      exact hJ
def w_X12_begins_142 (L : Lay) (p0 : Int32) (p1 : Int32)   (M : Mem) (Q : Mem → Prop) : Prop := LP2 (fun K145 v4 M => w_X12_begins_145 L p0 p1  K145 v4 M Q) (0 : Int32) M
set_option maxRecDepth 20000 in
theorem t_X12_begins_142 {L : Lay} (hL : LY L) {p0 : Int32} {p1 : Int32}     {M : Mem} {Q : Mem → Prop} (hw : w_X12_begins_142 L p0 p1   M Q)  : X (FM (QV L Q)) RX12 cX12_begins none 10 "begins" 6 0 0 (L, M) 142 [.ref 92, .int p0, .int p1, junk, junk, junk, junk, junk, junk, junk] [] := by
  unfold w_X12_begins_142 at hw
  refine X_iconst 143 (v := 0) dX12_begins_142 rfl rfl ?_
  refine X_istore 145 (ls' := [.ref 92, .int p0, .int p1, junk, .int (0 : Int32), junk, junk, junk, junk, junk]) dX12_begins_143 rfl (Nat.le_of_ble_eq_true rfl) rfl (Or.inr (Or.inl rfl)) ?_
  exact LP2_s hw (G := fun v4 M => X (FM (QV L Q)) RX12 cX12_begins none 10 "begins" 6 0 0 (L, M) 145 [.ref 92, .int p0, .int p1, junk, .int v4, junk, junk, junk, junk, junk] []) (fun K145 v4 M hb hK => t_X12_begins_145 hL  hb  hK)
def w_X12_begins_131 (L : Lay) (p0 : Int32) (p1 : Int32)  (v3 : Int32) (M : Mem) (Q : Mem → Prop) : Prop := ((v3 = 0 → (w_X12_begins_142 L p0 p1   M Q)) ∧ (¬ v3 = 0 → (vp_in p0 2 ∧ (∀ M16 : Mem, M16 = si M 99 (tn p0) (-1 : Int32) → (w_X12_begins_142 L p0 p1   M16 Q)))))
set_option maxRecDepth 20000 in
theorem t_X12_begins_131 {L : Lay} (hL : LY L) {p0 : Int32} {p1 : Int32}   {v3 : Int32}  {M : Mem} {Q : Mem → Prop} (hw : w_X12_begins_131 L p0 p1  v3 M Q)  : X (FM (QV L Q)) RX12 cX12_begins none 10 "begins" 6 0 0 (L, M) 131 [.ref 92, .int p0, .int p1, .int v3, junk, junk, junk, junk, junk, junk] [] := by
  unfold w_X12_begins_131 at hw
  refine X_iload_n 132 dX12_begins_131 rfl rfl ?_
  refine X_if_eq 142 135 (y := 0) dX12_begins_132 rfl rfl (fun c14 => ?_) (fun c14 => ?_)
  · have hw := hw.1 c14
    refine X_weak (ls' := [.ref 92, .int p0, .int p1, junk, junk, junk, junk, junk, junk, junk]) (WK.s (WK.s (WK.s (WK.j (WK.s (WK.s (WK.s (WK.s (WK.s (WK.s WK.n)))))))))) (Nat.le_of_ble_eq_true rfl) ?_
    exact t_X12_begins_142 hL   hw 
  · have hw := hw.2 c14
    refine X_aload_n 136 dX12_begins_135 rfl rfl ?_
    refine X_getR 139 f_X12_28 (hL.ob (c := 12) (by decide) rfl) rfl (hL.rr (by decide) rfl) dX12_begins_136 rfl ?_
    refine X_iload_n 140 dX12_begins_139 rfl rfl ?_
    refine X_iconst 141 (v := -1) dX12_begins_140 rfl rfl ?_
    obtain ⟨c15, hw⟩ := hw
    refine Y_iast 142 (k := (tn p0)) (hL.ar (t := 0) (n := 2) (by decide) rfl) c15 rfl dX12_begins_141 rfl ?_
    refine X_nmM (fun M16 eM16 => ?_)
    have hw := hw M16 eM16
    refine X_weak (ls' := [.ref 92, .int p0, .int p1, junk, junk, junk, junk, junk, junk, junk]) (WK.s (WK.s (WK.s (WK.j (WK.s (WK.s (WK.s (WK.s (WK.s (WK.s WK.n)))))))))) (Nat.le_of_ble_eq_true rfl) ?_
    exact t_X12_begins_142 hL   hw 
def w_X12_begins_89 (L : Lay) (p0 : Int32) (p1 : Int32) (K89 : Int32 → Int32 → Mem → Prop) (v3 : Int32) (v4 : Int32) (M : Mem) (Q : Mem → Prop) : Prop := vp_in p0 2 ∧ (vp_in (mi M 99 (tn p0)) 26 ∧ (((v4 < (mi M 132 (tn (mi M 99 (tn p0)))) → (w_X12_worth L p0 (mi M 99 (tn p0)) ((3 : Int32) + v4) M (fun x21 M20 => (((x21 = 0 → (∀ x23 : Int32, x23 = v4 + (1 : Int32) → (K89 v3 x23 M20))) ∧ (¬ x21 = 0 → (∀ x24 : Int32, x24 = v4 + (1 : Int32) → (K89 (1 : Int32) x24 M20)))))))) ∧ (¬ v4 < (mi M 132 (tn (mi M 99 (tn p0)))) → (w_X12_begins_131 L p0 p1  v3 M Q)))))
set_option maxRecDepth 20000 in
theorem t_X12_begins_89 {L : Lay} (hL : LY L) {p0 : Int32} {p1 : Int32}  {K89 : Int32 → Int32 → Mem → Prop} {v3 : Int32} {v4 : Int32}  {M : Mem} {Q : Mem → Prop} (hw : w_X12_begins_89 L p0 p1 K89 v3 v4 M Q) (hK89 : ∀ (v3 : Int32) (v4 : Int32) (M : Mem), K89 v3 v4 M → X (FM (QV L Q)) RX12 cX12_begins none 10 "begins" 6 0 0 (L, M) 89 [.ref 92, .int p0, .int p1, .int v3, .int v4, junk, junk, junk, junk, junk] []) : X (FM (QV L Q)) RX12 cX12_begins none 10 "begins" 6 0 0 (L, M) 89 [.ref 92, .int p0, .int p1, .int v3, .int v4, junk, junk, junk, junk, junk] [] := by
  unfold w_X12_begins_89 at hw
  refine X_iload 91 dX12_begins_89 rfl rfl ?_
  refine X_aload_n 92 dX12_begins_91 rfl rfl ?_
  refine X_getR 95 f_X12_128 (hL.ob (c := 12) (by decide) rfl) rfl (hL.rr (by decide) rfl) dX12_begins_92 rfl ?_
  refine X_aload_n 96 dX12_begins_95 rfl rfl ?_
  refine X_getR 99 f_X12_28 (hL.ob (c := 12) (by decide) rfl) rfl (hL.rr (by decide) rfl) dX12_begins_96 rfl ?_
  refine X_iload_n 100 dX12_begins_99 rfl rfl ?_
  obtain ⟨c17, hw⟩ := hw
  refine Y_iald 101 (k := (tn p0)) (hL.ar (t := 0) (n := 2) (by decide) rfl) c17 rfl dX12_begins_100 rfl ?_
  obtain ⟨c18, hw⟩ := hw
  refine Y_iald 102 (k := (tn (mi M 99 (tn p0)))) (hL.ar (t := 0) (n := 26) (by decide) rfl) c18 rfl dX12_begins_101 rfl ?_
  refine X_icmp_ge 131 105 dX12_begins_102 rfl rfl (fun c19 => ?_) (fun c19 => ?_)
  · have hw := hw.2 c19
    refine X_weak (ls' := [.ref 92, .int p0, .int p1, .int v3, junk, junk, junk, junk, junk, junk]) (WK.s (WK.s (WK.s (WK.s (WK.j (WK.s (WK.s (WK.s (WK.s (WK.s WK.n)))))))))) (Nat.le_of_ble_eq_true rfl) ?_
    exact t_X12_begins_131 hL   hw 
  · have hw := hw.1 c19
    refine X_aload_n 106 dX12_begins_105 rfl rfl ?_
    refine X_iload_n 107 dX12_begins_106 rfl rfl ?_
    refine X_aload_n 108 dX12_begins_107 rfl rfl ?_
    refine X_getR 111 f_X12_28 (hL.ob (c := 12) (by decide) rfl) rfl (hL.rr (by decide) rfl) dX12_begins_108 rfl ?_
    refine X_iload_n 112 dX12_begins_111 rfl rfl ?_
    refine Y_iald 113 (k := (tn p0)) (hL.ar (t := 0) (n := 2) (by decide) rfl) c17 rfl dX12_begins_112 rfl ?_
    refine X_iconst 114 (v := 3) dX12_begins_113 rfl rfl ?_
    refine X_iload 116 dX12_begins_114 rfl rfl ?_
    refine X_iadd 117 dX12_begins_116 rfl ?_
    refine Y_cVI 120 (as := [.int p0, .int ((mi M 99 (tn p0))), .int (((3 : Int32) + v4))]) m_X12_388 (s_X12_worth hL  hw) (hL.ob (c := 12) (by decide) rfl) rfl (by decide) (Nat.le_of_ble_eq_true rfl) dX12_begins_117 rfl rfl (fun x21 M20 hw => ?_)
    refine X_if_eq 125 123 (y := 0) dX12_begins_120 rfl rfl (fun c22 => ?_) (fun c22 => ?_)
    · have hw := hw.1 c22
      obtain ⟨x23, ex23⟩ : ∃ x23 : Int32, x23 = v4 + (1 : Int32) := ⟨_, rfl⟩
      have hw := hw x23 ex23
      refine X_iinc 128 (v := x23) (ls' := [.ref 92, .int p0, .int p1, .int v3, .int x23, junk, junk, junk, junk, junk]) dX12_begins_125 rfl rfl (by rw [ex23]; rfl) rfl (Or.inr (Or.inr ⟨_, rfl, rfl⟩)) ?_
      refine X_goto 89 dX12_begins_128 rfl ?_
      exact hK89 v3 x23 M20 hw
    · have hw := hw.2 c22
      refine X_iconst 124 (v := 1) dX12_begins_123 rfl rfl ?_
      refine X_istore_n 125 (ls' := [.ref 92, .int p0, .int p1, .int (1 : Int32), .int v4, junk, junk, junk, junk, junk]) dX12_begins_124 rfl rfl (Nat.le_of_ble_eq_true rfl) rfl (Or.inr (Or.inr ⟨_, rfl, rfl⟩)) ?_
      obtain ⟨x24, ex24⟩ : ∃ x24 : Int32, x24 = v4 + (1 : Int32) := ⟨_, rfl⟩
      have hw := hw x24 ex24
      refine X_iinc 128 (v := x24) (ls' := [.ref 92, .int p0, .int p1, .int (1 : Int32), .int x24, junk, junk, junk, junk, junk]) dX12_begins_125 rfl rfl (by rw [ex24]; rfl) rfl (Or.inr (Or.inr ⟨_, rfl, rfl⟩)) ?_
      refine X_goto 89 dX12_begins_128 rfl ?_
      exact hK89 (1 : Int32) x24 M20 hw
def w_X12_begins_53 (L : Lay) (p0 : Int32) (p1 : Int32)   (M : Mem) (Q : Mem → Prop) : Prop := ∀ M9 : Mem, M9 = si M 92 68 (-1 : Int32) → (∀ M10 : Mem, M10 = si M9 92 69 (0 : Int32) → (vp_in p0 2 ∧ ((((mi M10 99 (tn p0)) < 0 → (w_X12_begins_131 L p0 p1  (0 : Int32) M10 Q)) ∧ (¬ (mi M10 99 (tn p0)) < 0 → (((((mi M10 103 (tn p0)) &&& (8 : Int32)) = 0 → (LP3 (fun K89 v3 v4 M => w_X12_begins_89 L p0 p1  K89 v3 v4 M Q) (0 : Int32) (0 : Int32) M10)) ∧ (¬ ((mi M10 103 (tn p0)) &&& (8 : Int32)) = 0 → (w_X12_begins_131 L p0 p1  (0 : Int32) M10 Q)))))))))
set_option maxRecDepth 20000 in
theorem t_X12_begins_53 {L : Lay} (hL : LY L) {p0 : Int32} {p1 : Int32}     {M : Mem} {Q : Mem → Prop} (hw : w_X12_begins_53 L p0 p1   M Q)  : X (FM (QV L Q)) RX12 cX12_begins none 10 "begins" 6 0 0 (L, M) 53 [.ref 92, .int p0, .int p1, junk, junk, junk, junk, junk, junk, junk] [] := by
  unfold w_X12_begins_53 at hw
  refine X_aload_n 54 dX12_begins_53 rfl rfl ?_
  refine X_iconst 55 (v := -1) dX12_begins_54 rfl rfl ?_
  refine X_putI 58 f_X12_373 (Or.inl rfl) (hL.ob (c := 12) (by decide) rfl) rfl dX12_begins_55 rfl ?_
  refine X_nmM (fun M9 eM9 => ?_)
  have hw := hw M9 eM9
  refine X_aload_n 59 dX12_begins_58 rfl rfl ?_
  refine X_iconst 60 (v := 0) dX12_begins_59 rfl rfl ?_
  refine X_putI 63 f_X12_376 (Or.inl rfl) (hL.ob (c := 12) (by decide) rfl) rfl dX12_begins_60 rfl ?_
  refine X_nmM (fun M10 eM10 => ?_)
  have hw := hw M10 eM10
  refine X_iconst 64 (v := 0) dX12_begins_63 rfl rfl ?_
  refine X_istore_n 65 (ls' := [.ref 92, .int p0, .int p1, .int (0 : Int32), junk, junk, junk, junk, junk, junk]) dX12_begins_64 rfl rfl (Nat.le_of_ble_eq_true rfl) rfl (Or.inr (Or.inr ⟨_, rfl, rfl⟩)) ?_
  refine X_aload_n 66 dX12_begins_65 rfl rfl ?_
  refine X_getR 69 f_X12_28 (hL.ob (c := 12) (by decide) rfl) rfl (hL.rr (by decide) rfl) dX12_begins_66 rfl ?_
  refine X_iload_n 70 dX12_begins_69 rfl rfl ?_
  obtain ⟨c11, hw⟩ := hw
  refine Y_iald 71 (k := (tn p0)) (hL.ar (t := 0) (n := 2) (by decide) rfl) c11 rfl dX12_begins_70 rfl ?_
  refine X_if_lt 131 74 (y := 0) dX12_begins_71 rfl rfl (fun c12 => ?_) (fun c12 => ?_)
  · have hw := hw.1 c12
    exact t_X12_begins_131 hL   hw 
  · have hw := hw.2 c12
    refine X_aload_n 75 dX12_begins_74 rfl rfl ?_
    refine X_getR 78 f_X12_40 (hL.ob (c := 12) (by decide) rfl) rfl (hL.rr (by decide) rfl) dX12_begins_75 rfl ?_
    refine X_iload_n 79 dX12_begins_78 rfl rfl ?_
    refine Y_iald 80 (k := (tn p0)) (hL.ar (t := 0) (n := 2) (by decide) rfl) c11 rfl dX12_begins_79 rfl ?_
    refine X_bipush 82 (v := 8) dX12_begins_80 rfl rfl ?_
    refine X_iand 83 dX12_begins_82 rfl ?_
    refine X_if_ne 131 86 (y := 0) dX12_begins_83 rfl rfl (fun c13 => ?_) (fun c13 => ?_)
    · have hw := hw.2 c13
      exact t_X12_begins_131 hL   hw 
    · have hw := hw.1 c13
      refine X_iconst 87 (v := 0) dX12_begins_86 rfl rfl ?_
      refine X_istore 89 (ls' := [.ref 92, .int p0, .int p1, .int (0 : Int32), .int (0 : Int32), junk, junk, junk, junk, junk]) dX12_begins_87 rfl (Nat.le_of_ble_eq_true rfl) rfl (Or.inr (Or.inr ⟨_, rfl, rfl⟩)) ?_
      exact LP3_s hw (G := fun v3 v4 M => X (FM (QV L Q)) RX12 cX12_begins none 10 "begins" 6 0 0 (L, M) 89 [.ref 92, .int p0, .int p1, .int v3, .int v4, junk, junk, junk, junk, junk] []) (fun K89 v3 v4 M hb hK => t_X12_begins_89 hL  hb  hK)
def w_X12_begins (L : Lay) (p0 : Int32) (p1 : Int32) (M : Mem) (Q : Mem → Prop) : Prop := vp_in p0 2 ∧ ((((mi M 101 (tn p0)) = (1 : Int32) → (∀ M3 : Mem, M3 = si M 101 (tn p0) (0 : Int32) → (∀ M4 : Mem, M4 = si M3 99 (tn p0) (24 : Int32) → (((p0 = 0 → (∀ x6 : Int32, x6 = ((mi M4 93 0) / (30 : Int32)) → (w_X12_copies L (24 : Int32) x6 M4 (fun M7 => (∀ M8 : Mem, M8 = si M7 99 0 x6 → (w_X12_begins_53 L p0 p1   M8 Q)))))) ∧ (¬ p0 = 0 → (w_X12_begins_53 L p0 p1   M4 Q))))))) ∧ (¬ (mi M 101 (tn p0)) = (1 : Int32) → (w_X12_begins_53 L p0 p1   M Q))))
set_option maxRecDepth 20000 in
theorem s_X12_begins {L : Lay} (hL : LY L) {p0 : Int32} {p1 : Int32}  {M : Mem} {Q : Mem → Prop} (hw : w_X12_begins L p0 p1 M Q) : MX yX12_begins cX12_begins none 10 6 0 0 [.ref 92, .int p0, .int p1] (L, M) (QV L Q) := by
  unfold w_X12_begins at hw
  refine MX_of (by decide) [.ref 92, .int p0, .int p1, junk, junk, junk, junk, junk, junk, junk] (by rfl) (by exact Nat.le_of_ble_eq_true rfl) ?_
  show X (FM (QV L Q)) RX12 cX12_begins none 10 "begins" 6 0 0 (L, M) 0 [.ref 92, .int p0, .int p1, junk, junk, junk, junk, junk, junk, junk] []
  refine X_aload_n 1 dX12_begins_0 rfl rfl ?_
  refine X_getR 4 f_X12_34 (hL.ob (c := 12) (by decide) rfl) rfl (hL.rr (by decide) rfl) dX12_begins_1 rfl ?_
  refine X_iload_n 5 dX12_begins_4 rfl rfl ?_
  obtain ⟨c1, hw⟩ := hw
  refine Y_iald 6 (k := (tn p0)) (hL.ar (t := 0) (n := 2) (by decide) rfl) c1 rfl dX12_begins_5 rfl ?_
  refine X_iconst 7 (v := 1) dX12_begins_6 rfl rfl ?_
  refine X_icmp_ne 53 10 dX12_begins_7 rfl rfl (fun c2 => ?_) (fun c2 => ?_)
  · have hw := hw.2 c2
    exact t_X12_begins_53 hL   hw 
  · have hw := hw.1 c2
    refine X_aload_n 11 dX12_begins_10 rfl rfl ?_
    refine X_getR 14 f_X12_34 (hL.ob (c := 12) (by decide) rfl) rfl (hL.rr (by decide) rfl) dX12_begins_11 rfl ?_
    refine X_iload_n 15 dX12_begins_14 rfl rfl ?_
    refine X_iconst 16 (v := 0) dX12_begins_15 rfl rfl ?_
    refine Y_iast 17 (k := (tn p0)) (hL.ar (t := 0) (n := 2) (by decide) rfl) c1 rfl dX12_begins_16 rfl ?_
    refine X_nmM (fun M3 eM3 => ?_)
    have hw := hw M3 eM3
    refine X_aload_n 18 dX12_begins_17 rfl rfl ?_
    refine X_getR 21 f_X12_28 (hL.ob (c := 12) (by decide) rfl) rfl (hL.rr (by decide) rfl) dX12_begins_18 rfl ?_
    refine X_iload_n 22 dX12_begins_21 rfl rfl ?_
    refine X_bipush 24 (v := 24) dX12_begins_22 rfl rfl ?_
    refine Y_iast 25 (k := (tn p0)) (hL.ar (t := 0) (n := 2) (by decide) rfl) c1 rfl dX12_begins_24 rfl ?_
    refine X_nmM (fun M4 eM4 => ?_)
    have hw := hw M4 eM4
    refine X_iload_n 26 dX12_begins_25 rfl rfl ?_
    refine X_if_ne 53 29 (y := 0) dX12_begins_26 rfl rfl (fun c5 => ?_) (fun c5 => ?_)
    · have hw := hw.2 c5
      exact t_X12_begins_53 hL   hw 
    · have hw := hw.1 c5
      refine X_aload_n 30 dX12_begins_29 rfl rfl ?_
      refine X_getR 33 f_X12_7 (hL.ob (c := 12) (by decide) rfl) rfl (hL.rr (by decide) rfl) dX12_begins_30 rfl ?_
      refine X_iconst 34 (v := 0) dX12_begins_33 rfl rfl ?_
      refine Y_iald 35 (k := 0) (hL.ar (t := 0) (n := 2) (by decide) rfl) (vlit (by decide)) (by decide) dX12_begins_34 rfl ?_
      refine X_bipush 37 (v := 30) dX12_begins_35 rfl rfl ?_
      refine X_idiv 38 dX12_begins_37 rfl (by decide) ?_
      refine X_nmI (fun x6 ex6 => ?_)
      have hw := hw x6 ex6
      refine X_istore_n 39 (ls' := [.ref 92, .int p0, .int p1, .int x6, junk, junk, junk, junk, junk, junk]) dX12_begins_38 rfl rfl (Nat.le_of_ble_eq_true rfl) rfl (Or.inr (Or.inr ⟨_, rfl, rfl⟩)) ?_
      refine X_aload_n 40 dX12_begins_39 rfl rfl ?_
      refine X_bipush 42 (v := 24) dX12_begins_40 rfl rfl ?_
      refine X_iload_n 43 dX12_begins_42 rfl rfl ?_
      refine Y_cVV 46 (as := [.int (24 : Int32), .int x6]) m_X12_356 (s_X12_copies hL  hw) (hL.ob (c := 12) (by decide) rfl) rfl (by decide) (Nat.le_of_ble_eq_true rfl) dX12_begins_43 rfl rfl (fun M7 hw => ?_)
      refine X_aload_n 47 dX12_begins_46 rfl rfl ?_
      refine X_getR 50 f_X12_28 (hL.ob (c := 12) (by decide) rfl) rfl (hL.rr (by decide) rfl) dX12_begins_47 rfl ?_
      refine X_iconst 51 (v := 0) dX12_begins_50 rfl rfl ?_
      refine X_iload_n 52 dX12_begins_51 rfl rfl ?_
      refine Y_iast 53 (k := 0) (hL.ar (t := 0) (n := 2) (by decide) rfl) (vlit (by decide)) (by decide) dX12_begins_52 rfl ?_
      refine X_nmM (fun M8 eM8 => ?_)
      have hw := hw M8 eM8
      refine X_weak (ls' := [.ref 92, .int p0, .int p1, junk, junk, junk, junk, junk, junk, junk]) (WK.s (WK.s (WK.s (WK.j (WK.s (WK.s (WK.s (WK.s (WK.s (WK.s WK.n)))))))))) (Nat.le_of_ble_eq_true rfl) ?_
      exact t_X12_begins_53 hL   hw 
def w_X12_isStopped (L : Lay) (p0 : Int32) (p1 : Int32) (M : Mem) (Q : Int32 → Mem → Prop) : Prop := vp_in p0 2 ∧ ((((mi M 99 (tn p0)) < 0 → (Q (0 : Int32) M)) ∧ (¬ (mi M 99 (tn p0)) < 0 → (vp_in (((10 : Int32) * p0) + p1) 20 ∧ ((((mi M 111 (tn (((10 : Int32) * p0) + p1))) = 0 → (∀ x5 : Int32, x5 = (if (mi M 109 (tn (((10 : Int32) * p0) + p1))) < ((mi M 108 (tn (((10 : Int32) * p0) + p1))) + (8 : Int32)) then (1 : Int32) else (0 : Int32)) → (Q x5 M))) ∧ (¬ (mi M 111 (tn (((10 : Int32) * p0) + p1))) = 0 → (Q (0 : Int32) M))))))))
set_option maxRecDepth 20000 in
theorem s_X12_isStopped {L : Lay} (hL : LY L) {p0 : Int32} {p1 : Int32}  {M : Mem} {Q : Int32 → Mem → Prop} (hw : w_X12_isStopped L p0 p1 M Q) : MX yX12_isStopped cX12_isStopped (some .boolean) 3 1 0 0 [.ref 92, .int p0, .int p1] (L, M) (QZ L Q) := by
  unfold w_X12_isStopped at hw
  refine MX_of (by decide) [.ref 92, .int p0, .int p1] (by rfl) (by exact Nat.le_of_ble_eq_true rfl) ?_
  show X (FM (QZ L Q)) RX12 cX12_isStopped (some .boolean) 3 "isStopped" 1 0 0 (L, M) 0 [.ref 92, .int p0, .int p1] []
  refine X_aload_n 1 dX12_isStopped_0 rfl rfl ?_
  refine X_getR 4 f_X12_28 (hL.ob (c := 12) (by decide) rfl) rfl (hL.rr (by decide) rfl) dX12_isStopped_1 rfl ?_
  refine X_iload_n 5 dX12_isStopped_4 rfl rfl ?_
  obtain ⟨c1, hw⟩ := hw
  refine Y_iald 6 (k := (tn p0)) (hL.ar (t := 0) (n := 2) (by decide) rfl) c1 rfl dX12_isStopped_5 rfl ?_
  refine X_if_lt 55 9 (y := 0) dX12_isStopped_6 rfl rfl (fun c2 => ?_) (fun c2 => ?_)
  · have hw := hw.1 c2
    refine X_iconst 56 (v := 0) dX12_isStopped_55 rfl rfl ?_
    exact X_ret rfl (nar_bool (Or.inl rfl)) dX12_isStopped_56 ⟨_, _, rfl, Or.inl rfl, rfl, hw⟩
  · have hw := hw.2 c2
    refine X_aload_n 10 dX12_isStopped_9 rfl rfl ?_
    refine X_getR 13 f_X12_64 (hL.ob (c := 12) (by decide) rfl) rfl (hL.rr (by decide) rfl) dX12_isStopped_10 rfl ?_
    refine X_bipush 15 (v := 10) dX12_isStopped_13 rfl rfl ?_
    refine X_iload_n 16 dX12_isStopped_15 rfl rfl ?_
    refine X_imul 17 dX12_isStopped_16 rfl ?_
    refine X_iload_n 18 dX12_isStopped_17 rfl rfl ?_
    refine X_iadd 19 dX12_isStopped_18 rfl ?_
    obtain ⟨c3, hw⟩ := hw
    refine Y_zald 20 (k := (tn (((10 : Int32) * p0) + p1))) (hL.ar (t := 1) (n := 20) (by decide) rfl) c3 rfl dX12_isStopped_19 rfl ?_
    refine X_if_ne 55 23 (y := 0) dX12_isStopped_20 rfl rfl (fun c4 => ?_) (fun c4 => ?_)
    · have hw := hw.2 c4
      refine X_iconst 56 (v := 0) dX12_isStopped_55 rfl rfl ?_
      exact X_ret rfl (nar_bool (Or.inl rfl)) dX12_isStopped_56 ⟨_, _, rfl, Or.inl rfl, rfl, hw⟩
    · have hw := hw.1 c4
      refine X_aload_n 24 dX12_isStopped_23 rfl rfl ?_
      refine X_getR 27 f_X12_55 (hL.ob (c := 12) (by decide) rfl) rfl (hL.rr (by decide) rfl) dX12_isStopped_24 rfl ?_
      refine X_bipush 29 (v := 10) dX12_isStopped_27 rfl rfl ?_
      refine X_iload_n 30 dX12_isStopped_29 rfl rfl ?_
      refine X_imul 31 dX12_isStopped_30 rfl ?_
      refine X_iload_n 32 dX12_isStopped_31 rfl rfl ?_
      refine X_iadd 33 dX12_isStopped_32 rfl ?_
      refine Y_iald 34 (k := (tn (((10 : Int32) * p0) + p1))) (hL.ar (t := 0) (n := 20) (by decide) rfl) c3 rfl dX12_isStopped_33 rfl ?_
      refine X_bipush 36 (v := 8) dX12_isStopped_34 rfl rfl ?_
      refine X_iadd 37 dX12_isStopped_36 rfl ?_
      refine X_aload_n 38 dX12_isStopped_37 rfl rfl ?_
      refine X_getR 41 f_X12_58 (hL.ob (c := 12) (by decide) rfl) rfl (hL.rr (by decide) rfl) dX12_isStopped_38 rfl ?_
      refine X_bipush 43 (v := 10) dX12_isStopped_41 rfl rfl ?_
      refine X_iload_n 44 dX12_isStopped_43 rfl rfl ?_
      refine X_imul 45 dX12_isStopped_44 rfl ?_
      refine X_iload_n 46 dX12_isStopped_45 rfl rfl ?_
      refine X_iadd 47 dX12_isStopped_46 rfl ?_
      refine Y_iald 48 (k := (tn (((10 : Int32) * p0) + p1))) (hL.ar (t := 0) (n := 20) (by decide) rfl) c3 rfl dX12_isStopped_47 rfl ?_
      obtain ⟨x5, ex5⟩ : ∃ x5 : Int32, x5 = (if (mi M 109 (tn (((10 : Int32) * p0) + p1))) < ((mi M 108 (tn (((10 : Int32) * p0) + p1))) + (8 : Int32)) then (1 : Int32) else (0 : Int32)) := ⟨_, rfl⟩
      have hw := hw x5 ex5
      have bx5 : BZ x5 := by rw [ex5]; (repeat' split) <;> first | exact Or.inl rfl | exact Or.inr rfl
      have hJ : X (FM (QZ L Q)) RX12 cX12_isStopped (some .boolean) 3 "isStopped" 1 0 0 (L, M) 56 [.ref 92, .int p0, .int p1] [.int x5] := by
        exact X_ret rfl (nar_bool (bx5)) dX12_isStopped_56 ⟨_, _, rfl, bx5, rfl, hw⟩
      refine X_icmp_le 55 51 dX12_isStopped_48 rfl rfl (fun c6 => ?_) (fun c6 => ?_)
      · refine X_iconst 56 (v := 0) dX12_isStopped_55 rfl rfl ?_
        rw [if_neg c6] at ex5
        rw [ex5] at hJ
        exact hJ
      · refine X_iconst 52 (v := 1) dX12_isStopped_51 rfl rfl ?_
        refine X_goto 56 dX12_isStopped_52 rfl ?_
        rw [if_pos c6] at ex5
        rw [ex5] at hJ
        exact hJ
def w_X12_ownerFor_2 (L : Lay) (p0 : Int32) (p1 : Int32) (K2 : Int32 → Mem → Prop) (v3 : Int32) (M : Mem) (Q : Int32 → Mem → Prop) : Prop := ((v3 < (mi M 92 28) → (vp_in p0 2 ∧ (¬ (mi M 92 28) = 0 ∧ (∀ x4 : Int32, x4 = (jrem ((mi M 95 (tn p0)) + v3) (mi M 92 28)) → (vp_in x4 10 ∧ (vp_in p1 8 ∧ ((((mi M 120 (tn x4)) < (mi M 126 (tn p1)) → (∀ x8 : Int32, x8 = v3 + (1 : Int32) → (K2 x8 M))) ∧ (¬ (mi M 120 (tn x4)) < (mi M 126 (tn p1)) → (vp_in (((10 : Int32) * p0) + x4) 20 ∧ ((((mi M 107 (tn (((10 : Int32) * p0) + x4))) < (8 : Int32) → (∀ x11 : Int32, x11 = v3 + (1 : Int32) → (K2 x11 M))) ∧ (¬ (mi M 107 (tn (((10 : Int32) * p0) + x4))) < (8 : Int32) → (w_X12_isStopped L p0 x4 M (fun x13 M12 => (((x13 = 0 → (Q x4 M12)) ∧ (¬ x13 = 0 → (∀ x15 : Int32, x15 = v3 + (1 : Int32) → (K2 x15 M12)))))))))))))))))))) ∧ (¬ v3 < (mi M 92 28) → (Q (-1 : Int32) M)))
set_option maxRecDepth 20000 in
theorem t_X12_ownerFor_2 {L : Lay} (hL : LY L) {p0 : Int32} {p1 : Int32}  {K2 : Int32 → Mem → Prop} {v3 : Int32}  {M : Mem} {Q : Int32 → Mem → Prop} (hw : w_X12_ownerFor_2 L p0 p1 K2 v3 M Q) (hK2 : ∀ (v3 : Int32) (M : Mem), K2 v3 M → X (FM (QI L Q)) RX12 cX12_ownerFor (some .int) 5 "ownerFor" 2 0 0 (L, M) 2 [.ref 92, .int p0, .int p1, .int v3, junk] []) : X (FM (QI L Q)) RX12 cX12_ownerFor (some .int) 5 "ownerFor" 2 0 0 (L, M) 2 [.ref 92, .int p0, .int p1, .int v3, junk] [] := by
  unfold w_X12_ownerFor_2 at hw
  refine X_iload_n 3 dX12_ownerFor_2 rfl rfl ?_
  refine X_aload_n 4 dX12_ownerFor_3 rfl rfl ?_
  refine X_getI 7 f_X12_210 (hL.ob (c := 12) (by decide) rfl) rfl dX12_ownerFor_4 rfl ?_
  refine X_icmp_ge 77 10 dX12_ownerFor_7 rfl rfl (fun c1 => ?_) (fun c1 => ?_)
  · have hw := hw.2 c1
    refine X_iconst 78 (v := -1) dX12_ownerFor_77 rfl rfl ?_
    exact X_ret rfl rfl dX12_ownerFor_78 ⟨_, _, rfl, rfl, hw⟩
  · have hw := hw.1 c1
    refine X_aload_n 11 dX12_ownerFor_10 rfl rfl ?_
    refine X_getR 14 f_X12_16 (hL.ob (c := 12) (by decide) rfl) rfl (hL.rr (by decide) rfl) dX12_ownerFor_11 rfl ?_
    refine X_iload_n 15 dX12_ownerFor_14 rfl rfl ?_
    obtain ⟨c2, hw⟩ := hw
    refine Y_iald 16 (k := (tn p0)) (hL.ar (t := 0) (n := 2) (by decide) rfl) c2 rfl dX12_ownerFor_15 rfl ?_
    refine X_iload_n 17 dX12_ownerFor_16 rfl rfl ?_
    refine X_iadd 18 dX12_ownerFor_17 rfl ?_
    refine X_aload_n 19 dX12_ownerFor_18 rfl rfl ?_
    refine X_getI 22 f_X12_210 (hL.ob (c := 12) (by decide) rfl) rfl dX12_ownerFor_19 rfl ?_
    obtain ⟨c3, hw⟩ := hw
    refine Y_irem 23 dX12_ownerFor_22 rfl c3 ?_
    refine X_nmI (fun x4 ex4 => ?_)
    have hw := hw x4 ex4
    refine X_istore 25 (ls' := [.ref 92, .int p0, .int p1, .int v3, .int x4]) dX12_ownerFor_23 rfl (Nat.le_of_ble_eq_true rfl) rfl (Or.inr (Or.inr ⟨_, rfl, rfl⟩)) ?_
    refine X_aload_n 26 dX12_ownerFor_25 rfl rfl ?_
    refine X_getR 29 f_X12_92 (hL.ob (c := 12) (by decide) rfl) rfl (hL.rr (by decide) rfl) dX12_ownerFor_26 rfl ?_
    refine X_iload 31 dX12_ownerFor_29 rfl rfl ?_
    obtain ⟨c5, hw⟩ := hw
    refine Y_iald 32 (k := (tn x4)) (hL.ar (t := 0) (n := 10) (by decide) rfl) c5 rfl dX12_ownerFor_31 rfl ?_
    refine X_aload_n 33 dX12_ownerFor_32 rfl rfl ?_
    refine X_getR 36 f_X12_110 (hL.ob (c := 12) (by decide) rfl) rfl (hL.rr (by decide) rfl) dX12_ownerFor_33 rfl ?_
    refine X_iload_n 37 dX12_ownerFor_36 rfl rfl ?_
    obtain ⟨c6, hw⟩ := hw
    refine Y_iald 38 (k := (tn p1)) (hL.ar (t := 0) (n := 8) (by decide) rfl) c6 rfl dX12_ownerFor_37 rfl ?_
    refine X_icmp_lt 71 41 dX12_ownerFor_38 rfl rfl (fun c7 => ?_) (fun c7 => ?_)
    · have hw := hw.1 c7
      obtain ⟨x8, ex8⟩ : ∃ x8 : Int32, x8 = v3 + (1 : Int32) := ⟨_, rfl⟩
      have hw := hw x8 ex8
      refine X_iinc 74 (v := x8) (ls' := [.ref 92, .int p0, .int p1, .int x8, .int x4]) dX12_ownerFor_71 rfl rfl (by rw [ex8]; rfl) rfl (Or.inr (Or.inr ⟨_, rfl, rfl⟩)) ?_
      refine X_goto 2 dX12_ownerFor_74 rfl ?_
      refine X_weak (ls' := [.ref 92, .int p0, .int p1, .int x8, junk]) (WK.s (WK.s (WK.s (WK.s (WK.j WK.n))))) (Nat.le_of_ble_eq_true rfl) ?_
      exact hK2 x8 M hw
    · have hw := hw.2 c7
      refine X_aload_n 42 dX12_ownerFor_41 rfl rfl ?_
      refine X_getR 45 f_X12_52 (hL.ob (c := 12) (by decide) rfl) rfl (hL.rr (by decide) rfl) dX12_ownerFor_42 rfl ?_
      refine X_bipush 47 (v := 10) dX12_ownerFor_45 rfl rfl ?_
      refine X_iload_n 48 dX12_ownerFor_47 rfl rfl ?_
      refine X_imul 49 dX12_ownerFor_48 rfl ?_
      refine X_iload 51 dX12_ownerFor_49 rfl rfl ?_
      refine X_iadd 52 dX12_ownerFor_51 rfl ?_
      obtain ⟨c9, hw⟩ := hw
      refine Y_iald 53 (k := (tn (((10 : Int32) * p0) + x4))) (hL.ar (t := 0) (n := 20) (by decide) rfl) c9 rfl dX12_ownerFor_52 rfl ?_
      refine X_bipush 55 (v := 8) dX12_ownerFor_53 rfl rfl ?_
      refine X_icmp_lt 71 58 dX12_ownerFor_55 rfl rfl (fun c10 => ?_) (fun c10 => ?_)
      · have hw := hw.1 c10
        obtain ⟨x11, ex11⟩ : ∃ x11 : Int32, x11 = v3 + (1 : Int32) := ⟨_, rfl⟩
        have hw := hw x11 ex11
        refine X_iinc 74 (v := x11) (ls' := [.ref 92, .int p0, .int p1, .int x11, .int x4]) dX12_ownerFor_71 rfl rfl (by rw [ex11]; rfl) rfl (Or.inr (Or.inr ⟨_, rfl, rfl⟩)) ?_
        refine X_goto 2 dX12_ownerFor_74 rfl ?_
        refine X_weak (ls' := [.ref 92, .int p0, .int p1, .int x11, junk]) (WK.s (WK.s (WK.s (WK.s (WK.j WK.n))))) (Nat.le_of_ble_eq_true rfl) ?_
        exact hK2 x11 M hw
      · have hw := hw.2 c10
        refine X_aload_n 59 dX12_ownerFor_58 rfl rfl ?_
        refine X_iload_n 60 dX12_ownerFor_59 rfl rfl ?_
        refine X_iload 62 dX12_ownerFor_60 rfl rfl ?_
        refine Y_cVZ 65 (as := [.int p0, .int x4]) m_X12_404 (s_X12_isStopped hL  hw) (hL.ob (c := 12) (by decide) rfl) rfl (by decide) (Nat.le_of_ble_eq_true rfl) dX12_ownerFor_62 rfl rfl (fun x13 M12 bx13 hw => ?_)
        refine X_if_ne 71 68 (y := 0) dX12_ownerFor_65 rfl rfl (fun c14 => ?_) (fun c14 => ?_)
        · have hw := hw.2 c14
          obtain ⟨x15, ex15⟩ : ∃ x15 : Int32, x15 = v3 + (1 : Int32) := ⟨_, rfl⟩
          have hw := hw x15 ex15
          refine X_iinc 74 (v := x15) (ls' := [.ref 92, .int p0, .int p1, .int x15, .int x4]) dX12_ownerFor_71 rfl rfl (by rw [ex15]; rfl) rfl (Or.inr (Or.inr ⟨_, rfl, rfl⟩)) ?_
          refine X_goto 2 dX12_ownerFor_74 rfl ?_
          refine X_weak (ls' := [.ref 92, .int p0, .int p1, .int x15, junk]) (WK.s (WK.s (WK.s (WK.s (WK.j WK.n))))) (Nat.le_of_ble_eq_true rfl) ?_
          exact hK2 x15 M12 hw
        · have hw := hw.1 c14
          refine X_iload 70 dX12_ownerFor_68 rfl rfl ?_
          exact X_ret rfl rfl dX12_ownerFor_70 ⟨_, _, rfl, rfl, hw⟩
def w_X12_ownerFor (L : Lay) (p0 : Int32) (p1 : Int32) (M : Mem) (Q : Int32 → Mem → Prop) : Prop := LP2 (fun K2 v3 M => w_X12_ownerFor_2 L p0 p1  K2 v3 M Q) (0 : Int32) M
set_option maxRecDepth 20000 in
theorem s_X12_ownerFor {L : Lay} (hL : LY L) {p0 : Int32} {p1 : Int32}  {M : Mem} {Q : Int32 → Mem → Prop} (hw : w_X12_ownerFor L p0 p1 M Q) : MX yX12_ownerFor cX12_ownerFor (some .int) 5 2 0 0 [.ref 92, .int p0, .int p1] (L, M) (QI L Q) := by
  unfold w_X12_ownerFor at hw
  refine MX_of (by decide) [.ref 92, .int p0, .int p1, junk, junk] (by rfl) (by exact Nat.le_of_ble_eq_true rfl) ?_
  show X (FM (QI L Q)) RX12 cX12_ownerFor (some .int) 5 "ownerFor" 2 0 0 (L, M) 0 [.ref 92, .int p0, .int p1, junk, junk] []
  refine X_iconst 1 (v := 0) dX12_ownerFor_0 rfl rfl ?_
  refine X_istore_n 2 (ls' := [.ref 92, .int p0, .int p1, .int (0 : Int32), junk]) dX12_ownerFor_1 rfl rfl (Nat.le_of_ble_eq_true rfl) rfl (Or.inr (Or.inr ⟨_, rfl, rfl⟩)) ?_
  exact LP2_s hw (G := fun v3 M => X (FM (QI L Q)) RX12 cX12_ownerFor (some .int) 5 "ownerFor" 2 0 0 (L, M) 2 [.ref 92, .int p0, .int p1, .int v3, junk] []) (fun K2 v3 M hb hK => t_X12_ownerFor_2 hL  hb  hK)
def w_X12_hasRoom (L : Lay) (p0 : Int32) (p1 : Int32) (M : Mem) (Q : Int32 → Mem → Prop) : Prop := vp_in (((8 : Int32) * p0) + p1) 16 ∧ (vp_in p1 8 ∧ (∀ x3 : Int32, x3 = (if (mi M 125 (tn p1)) < (((8 : Int32) * (mi M 113 (tn (((8 : Int32) * p0) + p1)))) + (8 : Int32)) then (0 : Int32) else (1 : Int32)) → (Q x3 M)))
set_option maxRecDepth 20000 in
theorem s_X12_hasRoom {L : Lay} (hL : LY L) {p0 : Int32} {p1 : Int32}  {M : Mem} {Q : Int32 → Mem → Prop} (hw : w_X12_hasRoom L p0 p1 M Q) : MX yX12_hasRoom cX12_hasRoom (some .boolean) 3 1 0 0 [.ref 92, .int p0, .int p1] (L, M) (QZ L Q) := by
  unfold w_X12_hasRoom at hw
  refine MX_of (by decide) [.ref 92, .int p0, .int p1] (by rfl) (by exact Nat.le_of_ble_eq_true rfl) ?_
  show X (FM (QZ L Q)) RX12 cX12_hasRoom (some .boolean) 3 "hasRoom" 1 0 0 (L, M) 0 [.ref 92, .int p0, .int p1] []
  refine X_bipush 2 (v := 8) dX12_hasRoom_0 rfl rfl ?_
  refine X_aload_n 3 dX12_hasRoom_2 rfl rfl ?_
  refine X_getR 6 f_X12_71 (hL.ob (c := 12) (by decide) rfl) rfl (hL.rr (by decide) rfl) dX12_hasRoom_3 rfl ?_
  refine X_bipush 8 (v := 8) dX12_hasRoom_6 rfl rfl ?_
  refine X_iload_n 9 dX12_hasRoom_8 rfl rfl ?_
  refine X_imul 10 dX12_hasRoom_9 rfl ?_
  refine X_iload_n 11 dX12_hasRoom_10 rfl rfl ?_
  refine X_iadd 12 dX12_hasRoom_11 rfl ?_
  obtain ⟨c1, hw⟩ := hw
  refine Y_iald 13 (k := (tn (((8 : Int32) * p0) + p1))) (hL.ar (t := 0) (n := 16) (by decide) rfl) c1 rfl dX12_hasRoom_12 rfl ?_
  refine X_imul 14 dX12_hasRoom_13 rfl ?_
  refine X_bipush 16 (v := 8) dX12_hasRoom_14 rfl rfl ?_
  refine X_iadd 17 dX12_hasRoom_16 rfl ?_
  refine X_aload_n 18 dX12_hasRoom_17 rfl rfl ?_
  refine X_getR 21 f_X12_107 (hL.ob (c := 12) (by decide) rfl) rfl (hL.rr (by decide) rfl) dX12_hasRoom_18 rfl ?_
  refine X_iload_n 22 dX12_hasRoom_21 rfl rfl ?_
  obtain ⟨c2, hw⟩ := hw
  refine Y_iald 23 (k := (tn p1)) (hL.ar (t := 0) (n := 8) (by decide) rfl) c2 rfl dX12_hasRoom_22 rfl ?_
  obtain ⟨x3, ex3⟩ : ∃ x3 : Int32, x3 = (if (mi M 125 (tn p1)) < (((8 : Int32) * (mi M 113 (tn (((8 : Int32) * p0) + p1)))) + (8 : Int32)) then (0 : Int32) else (1 : Int32)) := ⟨_, rfl⟩
  have hw := hw x3 ex3
  have bx3 : BZ x3 := by rw [ex3]; (repeat' split) <;> first | exact Or.inl rfl | exact Or.inr rfl
  have hJ : X (FM (QZ L Q)) RX12 cX12_hasRoom (some .boolean) 3 "hasRoom" 1 0 0 (L, M) 31 [.ref 92, .int p0, .int p1] [.int x3] := by
    exact X_ret rfl (nar_bool (bx3)) dX12_hasRoom_31 ⟨_, _, rfl, bx3, rfl, hw⟩
  refine X_icmp_gt 30 26 dX12_hasRoom_23 rfl rfl (fun c4 => ?_) (fun c4 => ?_)
  · refine X_iconst 31 (v := 0) dX12_hasRoom_30 rfl rfl ?_
    rw [if_pos c4] at ex3
    rw [ex3] at hJ
    exact hJ
  · refine X_iconst 27 (v := 1) dX12_hasRoom_26 rfl rfl ?_
    refine X_goto 31 dX12_hasRoom_27 rfl ?_
    rw [if_neg c4] at ex3
    rw [ex3] at hJ
    exact hJ
def w_X12_loads_74 (L : Lay) (p0 : Int32) (K7 : Int32 → Int32 → Int32 → Mem → Prop) (v2 : Int32) (v3 : Int32) (v4 : Int32) (M : Mem) (Q : Int32 → Mem → Prop) : Prop := w_X12_ownerFor L p0 v4 M (fun x26 M25 => (((x26 < 0 → (∀ x29 : Int32, x29 = v4 + (1 : Int32) → (K7 v2 v3 x29 M25))) ∧ (¬ x26 < 0 → (∀ x28 : Int32, x28 = v4 + (1 : Int32) → (K7 v4 x26 x28 M25))))))
set_option maxRecDepth 20000 in
theorem t_X12_loads_74 {L : Lay} (hL : LY L) {p0 : Int32}  {K7 : Int32 → Int32 → Int32 → Mem → Prop} {v2 : Int32} {v3 : Int32} {v4 : Int32}  {M : Mem} {Q : Int32 → Mem → Prop} (hw : w_X12_loads_74 L p0 K7 v2 v3 v4 M Q) (hK7 : ∀ (v2 : Int32) (v3 : Int32) (v4 : Int32) (M : Mem), K7 v2 v3 v4 M → X (FM (QZ L Q)) RX12 cX12_loads (some .boolean) 6 "loads" 3 0 0 (L, M) 7 [.ref 92, .int p0, .int v2, .int v3, .int v4, junk] []) : X (FM (QZ L Q)) RX12 cX12_loads (some .boolean) 6 "loads" 3 0 0 (L, M) 74 [.ref 92, .int p0, .int v2, .int v3, .int v4, junk] [] := by
  unfold w_X12_loads_74 at hw
  refine X_aload_n 75 dX12_loads_74 rfl rfl ?_
  refine X_iload_n 76 dX12_loads_75 rfl rfl ?_
  refine X_iload 78 dX12_loads_76 rfl rfl ?_
  refine Y_cVI 81 (as := [.int p0, .int v4]) m_X12_411 (s_X12_ownerFor hL  hw) (hL.ob (c := 12) (by decide) rfl) rfl (by decide) (Nat.le_of_ble_eq_true rfl) dX12_loads_78 rfl rfl (fun x26 M25 hw => ?_)
  refine X_istore 83 (ls' := [.ref 92, .int p0, .int v2, .int v3, .int v4, .int x26]) dX12_loads_81 rfl (Nat.le_of_ble_eq_true rfl) rfl (Or.inr (Or.inr ⟨_, rfl, rfl⟩)) ?_
  refine X_iload 85 dX12_loads_83 rfl rfl ?_
  refine X_if_ge 91 88 (y := 0) dX12_loads_85 rfl rfl (fun c27 => ?_) (fun c27 => ?_)
  · have hw := hw.2 c27
    refine X_iload 93 dX12_loads_91 rfl rfl ?_
    refine X_istore_n 94 (ls' := [.ref 92, .int p0, .int v4, .int v3, .int v4, .int x26]) dX12_loads_93 rfl rfl (Nat.le_of_ble_eq_true rfl) rfl (Or.inr (Or.inr ⟨_, rfl, rfl⟩)) ?_
    refine X_iload 96 dX12_loads_94 rfl rfl ?_
    refine X_istore_n 97 (ls' := [.ref 92, .int p0, .int v4, .int x26, .int v4, .int x26]) dX12_loads_96 rfl rfl (Nat.le_of_ble_eq_true rfl) rfl (Or.inr (Or.inr ⟨_, rfl, rfl⟩)) ?_
    obtain ⟨x28, ex28⟩ : ∃ x28 : Int32, x28 = v4 + (1 : Int32) := ⟨_, rfl⟩
    have hw := hw x28 ex28
    refine X_iinc 100 (v := x28) (ls' := [.ref 92, .int p0, .int v4, .int x26, .int x28, .int x26]) dX12_loads_97 rfl rfl (by rw [ex28]; rfl) rfl (Or.inr (Or.inr ⟨_, rfl, rfl⟩)) ?_
    refine X_goto 7 dX12_loads_100 rfl ?_
    refine X_weak (ls' := [.ref 92, .int p0, .int v4, .int x26, .int x28, junk]) (WK.s (WK.s (WK.s (WK.s (WK.s (WK.j WK.n)))))) (Nat.le_of_ble_eq_true rfl) ?_
    exact hK7 v4 x26 x28 M25 hw
  · have hw := hw.1 c27
    refine X_goto 97 dX12_loads_88 rfl ?_
    obtain ⟨x29, ex29⟩ : ∃ x29 : Int32, x29 = v4 + (1 : Int32) := ⟨_, rfl⟩
    have hw := hw x29 ex29
    refine X_iinc 100 (v := x29) (ls' := [.ref 92, .int p0, .int v2, .int v3, .int x29, .int x26]) dX12_loads_97 rfl rfl (by rw [ex29]; rfl) rfl (Or.inr (Or.inr ⟨_, rfl, rfl⟩)) ?_
    refine X_goto 7 dX12_loads_100 rfl ?_
    refine X_weak (ls' := [.ref 92, .int p0, .int v2, .int v3, .int x29, junk]) (WK.s (WK.s (WK.s (WK.s (WK.s (WK.j WK.n)))))) (Nat.le_of_ble_eq_true rfl) ?_
    exact hK7 v2 v3 x29 M25 hw
def w_X12_loads_7 (L : Lay) (p0 : Int32) (K7 : Int32 → Int32 → Int32 → Mem → Prop) (v2 : Int32) (v3 : Int32) (v4 : Int32) (M : Mem) (Q : Int32 → Mem → Prop) : Prop := ((v4 < (mi M 92 34) → (vp_in (((8 : Int32) * p0) + v4) 16 ∧ ((((mi M 112 (tn (((8 : Int32) * p0) + v4))) = 0 → (w_X12_hasRoom L p0 v4 M (fun x18 M17 => (((x18 = 0 → (∀ x20 : Int32, x20 = v4 + (1 : Int32) → (K7 v2 v3 x20 M17))) ∧ (¬ x18 = 0 → (((v2 < 0 → (w_X12_loads_74 L p0 K7 v2 v3 v4 M17 Q)) ∧ (¬ v2 < 0 → (vp_in (((8 : Int32) * p0) + v2) 16 ∧ ((((mi M17 115 (tn (((8 : Int32) * p0) + v4))) < (mi M17 115 (tn (((8 : Int32) * p0) + v2))) → (w_X12_loads_74 L p0 K7 v2 v3 v4 M17 Q)) ∧ (¬ (mi M17 115 (tn (((8 : Int32) * p0) + v4))) < (mi M17 115 (tn (((8 : Int32) * p0) + v2))) → (∀ x24 : Int32, x24 = v4 + (1 : Int32) → (K7 v2 v3 x24 M17))))))))))))))) ∧ (¬ (mi M 112 (tn (((8 : Int32) * p0) + v4))) = 0 → (∀ x16 : Int32, x16 = v4 + (1 : Int32) → (K7 v2 v3 x16 M))))))) ∧ (¬ v4 < (mi M 92 34) → (((v2 < 0 → (Q (0 : Int32) M)) ∧ (¬ v2 < 0 → (vp_in (((8 : Int32) * p0) + v2) 16 ∧ (vp_in ((((96 : Int32) * p0) + ((12 : Int32) * v2)) + (mi M 113 (tn (((8 : Int32) * p0) + v2)))) 192 ∧ (∀ M5 : Mem, M5 = si M 116 (tn ((((96 : Int32) * p0) + ((12 : Int32) * v2)) + (mi M 113 (tn (((8 : Int32) * p0) + v2))))) v3 → (∀ M6 : Mem, M6 = si M5 113 (tn (((8 : Int32) * p0) + v2)) ((mi M5 113 (tn (((8 : Int32) * p0) + v2))) + (1 : Int32)) → (vp_in (((10 : Int32) * p0) + v3) 20 ∧ (∀ M8 : Mem, M8 = si M6 107 (tn (((10 : Int32) * p0) + v3)) ((mi M6 107 (tn (((10 : Int32) * p0) + v3))) - (8 : Int32)) → (∀ M9 : Mem, M9 = si M8 108 (tn (((10 : Int32) * p0) + v3)) ((mi M8 108 (tn (((10 : Int32) * p0) + v3))) + (8 : Int32)) → (∀ x10 : Int32, x10 = (if (v3 + (1 : Int32)) = (mi M9 92 28) then (0 : Int32) else (v3 + (1 : Int32))) → (vp_in p0 2 ∧ (∀ M12 : Mem, M12 = si M9 95 (tn p0) x10 → (Q (1 : Int32) M12))))))))))))))))
set_option maxRecDepth 20000 in
theorem t_X12_loads_7 {L : Lay} (hL : LY L) {p0 : Int32}  {K7 : Int32 → Int32 → Int32 → Mem → Prop} {v2 : Int32} {v3 : Int32} {v4 : Int32}  {M : Mem} {Q : Int32 → Mem → Prop} (hw : w_X12_loads_7 L p0 K7 v2 v3 v4 M Q) (hK7 : ∀ (v2 : Int32) (v3 : Int32) (v4 : Int32) (M : Mem), K7 v2 v3 v4 M → X (FM (QZ L Q)) RX12 cX12_loads (some .boolean) 6 "loads" 3 0 0 (L, M) 7 [.ref 92, .int p0, .int v2, .int v3, .int v4, junk] []) : X (FM (QZ L Q)) RX12 cX12_loads (some .boolean) 6 "loads" 3 0 0 (L, M) 7 [.ref 92, .int p0, .int v2, .int v3, .int v4, junk] [] := by
  unfold w_X12_loads_7 at hw
  refine X_iload 9 dX12_loads_7 rfl rfl ?_
  refine X_aload_n 10 dX12_loads_9 rfl rfl ?_
  refine X_getI 13 f_X12_221 (hL.ob (c := 12) (by decide) rfl) rfl dX12_loads_10 rfl ?_
  refine X_icmp_ge 103 16 dX12_loads_13 rfl rfl (fun c1 => ?_) (fun c1 => ?_)
  · have hw := hw.2 c1
    refine X_iload_n 104 dX12_loads_103 rfl rfl ?_
    refine X_if_ge 109 107 (y := 0) dX12_loads_104 rfl rfl (fun c2 => ?_) (fun c2 => ?_)
    · have hw := hw.2 c2
      refine X_aload_n 110 dX12_loads_109 rfl rfl ?_
      refine X_getR 113 f_X12_80 (hL.ob (c := 12) (by decide) rfl) rfl (hL.rr (by decide) rfl) dX12_loads_110 rfl ?_
      refine X_bipush 115 (v := 96) dX12_loads_113 rfl rfl ?_
      refine X_iload_n 116 dX12_loads_115 rfl rfl ?_
      refine X_imul 117 dX12_loads_116 rfl ?_
      refine X_bipush 119 (v := 12) dX12_loads_117 rfl rfl ?_
      refine X_iload_n 120 dX12_loads_119 rfl rfl ?_
      refine X_imul 121 dX12_loads_120 rfl ?_
      refine X_iadd 122 dX12_loads_121 rfl ?_
      refine X_aload_n 123 dX12_loads_122 rfl rfl ?_
      refine X_getR 126 f_X12_71 (hL.ob (c := 12) (by decide) rfl) rfl (hL.rr (by decide) rfl) dX12_loads_123 rfl ?_
      refine X_bipush 128 (v := 8) dX12_loads_126 rfl rfl ?_
      refine X_iload_n 129 dX12_loads_128 rfl rfl ?_
      refine X_imul 130 dX12_loads_129 rfl ?_
      refine X_iload_n 131 dX12_loads_130 rfl rfl ?_
      refine X_iadd 132 dX12_loads_131 rfl ?_
      obtain ⟨c3, hw⟩ := hw
      refine Y_iald 133 (k := (tn (((8 : Int32) * p0) + v2))) (hL.ar (t := 0) (n := 16) (by decide) rfl) c3 rfl dX12_loads_132 rfl ?_
      refine X_iadd 134 dX12_loads_133 rfl ?_
      refine X_iload_n 135 dX12_loads_134 rfl rfl ?_
      obtain ⟨c4, hw⟩ := hw
      refine Y_iast 136 (k := (tn ((((96 : Int32) * p0) + ((12 : Int32) * v2)) + (mi M 113 (tn (((8 : Int32) * p0) + v2)))))) (hL.ar (t := 0) (n := 192) (by decide) rfl) c4 rfl dX12_loads_135 rfl ?_
      refine X_nmM (fun M5 eM5 => ?_)
      have hw := hw M5 eM5
      refine X_aload_n 137 dX12_loads_136 rfl rfl ?_
      refine X_getR 140 f_X12_71 (hL.ob (c := 12) (by decide) rfl) rfl (hL.rr (by decide) rfl) dX12_loads_137 rfl ?_
      refine X_bipush 142 (v := 8) dX12_loads_140 rfl rfl ?_
      refine X_iload_n 143 dX12_loads_142 rfl rfl ?_
      refine X_imul 144 dX12_loads_143 rfl ?_
      refine X_iload_n 145 dX12_loads_144 rfl rfl ?_
      refine X_iadd 146 dX12_loads_145 rfl ?_
      refine X_dup2 147 dX12_loads_146 rfl rfl rfl ?_
      refine Y_iald 148 (k := (tn (((8 : Int32) * p0) + v2))) (hL.ar (t := 0) (n := 16) (by decide) rfl) c3 rfl dX12_loads_147 rfl ?_
      refine X_iconst 149 (v := 1) dX12_loads_148 rfl rfl ?_
      refine X_iadd 150 dX12_loads_149 rfl ?_
      refine Y_iast 151 (k := (tn (((8 : Int32) * p0) + v2))) (hL.ar (t := 0) (n := 16) (by decide) rfl) c3 rfl dX12_loads_150 rfl ?_
      refine X_nmM (fun M6 eM6 => ?_)
      have hw := hw M6 eM6
      refine X_aload_n 152 dX12_loads_151 rfl rfl ?_
      refine X_getR 155 f_X12_52 (hL.ob (c := 12) (by decide) rfl) rfl (hL.rr (by decide) rfl) dX12_loads_152 rfl ?_
      refine X_bipush 157 (v := 10) dX12_loads_155 rfl rfl ?_
      refine X_iload_n 158 dX12_loads_157 rfl rfl ?_
      refine X_imul 159 dX12_loads_158 rfl ?_
      refine X_iload_n 160 dX12_loads_159 rfl rfl ?_
      refine X_iadd 161 dX12_loads_160 rfl ?_
      refine X_dup2 162 dX12_loads_161 rfl rfl rfl ?_
      obtain ⟨c7, hw⟩ := hw
      refine Y_iald 163 (k := (tn (((10 : Int32) * p0) + v3))) (hL.ar (t := 0) (n := 20) (by decide) rfl) c7 rfl dX12_loads_162 rfl ?_
      refine X_bipush 165 (v := 8) dX12_loads_163 rfl rfl ?_
      refine X_isub 166 dX12_loads_165 rfl ?_
      refine Y_iast 167 (k := (tn (((10 : Int32) * p0) + v3))) (hL.ar (t := 0) (n := 20) (by decide) rfl) c7 rfl dX12_loads_166 rfl ?_
      refine X_nmM (fun M8 eM8 => ?_)
      have hw := hw M8 eM8
      refine X_aload_n 168 dX12_loads_167 rfl rfl ?_
      refine X_getR 171 f_X12_55 (hL.ob (c := 12) (by decide) rfl) rfl (hL.rr (by decide) rfl) dX12_loads_168 rfl ?_
      refine X_bipush 173 (v := 10) dX12_loads_171 rfl rfl ?_
      refine X_iload_n 174 dX12_loads_173 rfl rfl ?_
      refine X_imul 175 dX12_loads_174 rfl ?_
      refine X_iload_n 176 dX12_loads_175 rfl rfl ?_
      refine X_iadd 177 dX12_loads_176 rfl ?_
      refine X_dup2 178 dX12_loads_177 rfl rfl rfl ?_
      refine Y_iald 179 (k := (tn (((10 : Int32) * p0) + v3))) (hL.ar (t := 0) (n := 20) (by decide) rfl) c7 rfl dX12_loads_178 rfl ?_
      refine X_bipush 181 (v := 8) dX12_loads_179 rfl rfl ?_
      refine X_iadd 182 dX12_loads_181 rfl ?_
      refine Y_iast 183 (k := (tn (((10 : Int32) * p0) + v3))) (hL.ar (t := 0) (n := 20) (by decide) rfl) c7 rfl dX12_loads_182 rfl ?_
      refine X_nmM (fun M9 eM9 => ?_)
      have hw := hw M9 eM9
      refine X_aload_n 184 dX12_loads_183 rfl rfl ?_
      refine X_getR 187 f_X12_16 (hL.ob (c := 12) (by decide) rfl) rfl (hL.rr (by decide) rfl) dX12_loads_184 rfl ?_
      refine X_iload_n 188 dX12_loads_187 rfl rfl ?_
      refine X_iload_n 189 dX12_loads_188 rfl rfl ?_
      refine X_iconst 190 (v := 1) dX12_loads_189 rfl rfl ?_
      refine X_iadd 191 dX12_loads_190 rfl ?_
      refine X_aload_n 192 dX12_loads_191 rfl rfl ?_
      refine X_getI 195 f_X12_210 (hL.ob (c := 12) (by decide) rfl) rfl dX12_loads_192 rfl ?_
      obtain ⟨x10, ex10⟩ : ∃ x10 : Int32, x10 = (if (v3 + (1 : Int32)) = (mi M9 92 28) then (0 : Int32) else (v3 + (1 : Int32))) := ⟨_, rfl⟩
      have hw := hw x10 ex10
      have hJ : X (FM (QZ L Q)) RX12 cX12_loads (some .boolean) 6 "loads" 3 0 0 (L, M9) 205 [.ref 92, .int p0, .int v2, .int v3, .int v4, junk] [.int x10, .int p0, .ref 95] := by
        obtain ⟨c11, hw⟩ := hw
        refine Y_iast 206 (k := (tn p0)) (hL.ar (t := 0) (n := 2) (by decide) rfl) c11 rfl dX12_loads_205 rfl ?_
        refine X_nmM (fun M12 eM12 => ?_)
        have hw := hw M12 eM12
        refine X_iconst 207 (v := 1) dX12_loads_206 rfl rfl ?_
        exact X_ret rfl (nar_bool (Or.inr rfl)) dX12_loads_207 ⟨_, _, rfl, Or.inr rfl, rfl, hw⟩
      refine X_icmp_ne 202 198 dX12_loads_195 rfl rfl (fun c13 => ?_) (fun c13 => ?_)
      · refine X_iload_n 203 dX12_loads_202 rfl rfl ?_
        refine X_iconst 204 (v := 1) dX12_loads_203 rfl rfl ?_
        refine X_iadd 205 dX12_loads_204 rfl ?_
        rw [if_neg c13] at ex10
        rw [ex10] at hJ
        exact hJ
      · refine X_iconst 199 (v := 0) dX12_loads_198 rfl rfl ?_
        refine X_goto 205 dX12_loads_199 rfl ?_
        rw [if_pos c13] at ex10
        rw [ex10] at hJ
        exact hJ
    · have hw := hw.1 c2
      refine X_iconst 108 (v := 0) dX12_loads_107 rfl rfl ?_
      exact X_ret rfl (nar_bool (Or.inl rfl)) dX12_loads_108 ⟨_, _, rfl, Or.inl rfl, rfl, hw⟩
  · have hw := hw.1 c1
    refine X_aload_n 17 dX12_loads_16 rfl rfl ?_
    refine X_getR 20 f_X12_68 (hL.ob (c := 12) (by decide) rfl) rfl (hL.rr (by decide) rfl) dX12_loads_17 rfl ?_
    refine X_bipush 22 (v := 8) dX12_loads_20 rfl rfl ?_
    refine X_iload_n 23 dX12_loads_22 rfl rfl ?_
    refine X_imul 24 dX12_loads_23 rfl ?_
    refine X_iload 26 dX12_loads_24 rfl rfl ?_
    refine X_iadd 27 dX12_loads_26 rfl ?_
    obtain ⟨c14, hw⟩ := hw
    refine Y_iald 28 (k := (tn (((8 : Int32) * p0) + v4))) (hL.ar (t := 0) (n := 16) (by decide) rfl) c14 rfl dX12_loads_27 rfl ?_
    refine X_if_ne 97 31 (y := 0) dX12_loads_28 rfl rfl (fun c15 => ?_) (fun c15 => ?_)
    · have hw := hw.2 c15
      obtain ⟨x16, ex16⟩ : ∃ x16 : Int32, x16 = v4 + (1 : Int32) := ⟨_, rfl⟩
      have hw := hw x16 ex16
      refine X_iinc 100 (v := x16) (ls' := [.ref 92, .int p0, .int v2, .int v3, .int x16, junk]) dX12_loads_97 rfl rfl (by rw [ex16]; rfl) rfl (Or.inr (Or.inr ⟨_, rfl, rfl⟩)) ?_
      refine X_goto 7 dX12_loads_100 rfl ?_
      exact hK7 v2 v3 x16 M hw
    · have hw := hw.1 c15
      refine X_aload_n 32 dX12_loads_31 rfl rfl ?_
      refine X_iload_n 33 dX12_loads_32 rfl rfl ?_
      refine X_iload 35 dX12_loads_33 rfl rfl ?_
      refine Y_cVZ 38 (as := [.int p0, .int v4]) m_X12_408 (s_X12_hasRoom hL  hw) (hL.ob (c := 12) (by decide) rfl) rfl (by decide) (Nat.le_of_ble_eq_true rfl) dX12_loads_35 rfl rfl (fun x18 M17 bx18 hw => ?_)
      refine X_if_eq 97 41 (y := 0) dX12_loads_38 rfl rfl (fun c19 => ?_) (fun c19 => ?_)
      · have hw := hw.1 c19
        obtain ⟨x20, ex20⟩ : ∃ x20 : Int32, x20 = v4 + (1 : Int32) := ⟨_, rfl⟩
        have hw := hw x20 ex20
        refine X_iinc 100 (v := x20) (ls' := [.ref 92, .int p0, .int v2, .int v3, .int x20, junk]) dX12_loads_97 rfl rfl (by rw [ex20]; rfl) rfl (Or.inr (Or.inr ⟨_, rfl, rfl⟩)) ?_
        refine X_goto 7 dX12_loads_100 rfl ?_
        exact hK7 v2 v3 x20 M17 hw
      · have hw := hw.2 c19
        refine X_iload_n 42 dX12_loads_41 rfl rfl ?_
        refine X_if_lt 74 45 (y := 0) dX12_loads_42 rfl rfl (fun c21 => ?_) (fun c21 => ?_)
        · have hw := hw.1 c21
          exact t_X12_loads_74 hL   hw hK7
        · have hw := hw.2 c21
          refine X_aload_n 46 dX12_loads_45 rfl rfl ?_
          refine X_getR 49 f_X12_77 (hL.ob (c := 12) (by decide) rfl) rfl (hL.rr (by decide) rfl) dX12_loads_46 rfl ?_
          refine X_bipush 51 (v := 8) dX12_loads_49 rfl rfl ?_
          refine X_iload_n 52 dX12_loads_51 rfl rfl ?_
          refine X_imul 53 dX12_loads_52 rfl ?_
          refine X_iload 55 dX12_loads_53 rfl rfl ?_
          refine X_iadd 56 dX12_loads_55 rfl ?_
          refine Y_iald 57 (k := (tn (((8 : Int32) * p0) + v4))) (hL.ar (t := 0) (n := 16) (by decide) rfl) c14 rfl dX12_loads_56 rfl ?_
          refine X_aload_n 58 dX12_loads_57 rfl rfl ?_
          refine X_getR 61 f_X12_77 (hL.ob (c := 12) (by decide) rfl) rfl (hL.rr (by decide) rfl) dX12_loads_58 rfl ?_
          refine X_bipush 63 (v := 8) dX12_loads_61 rfl rfl ?_
          refine X_iload_n 64 dX12_loads_63 rfl rfl ?_
          refine X_imul 65 dX12_loads_64 rfl ?_
          refine X_iload_n 66 dX12_loads_65 rfl rfl ?_
          refine X_iadd 67 dX12_loads_66 rfl ?_
          obtain ⟨c22, hw⟩ := hw
          refine Y_iald 68 (k := (tn (((8 : Int32) * p0) + v2))) (hL.ar (t := 0) (n := 16) (by decide) rfl) c22 rfl dX12_loads_67 rfl ?_
          refine X_icmp_lt 74 71 dX12_loads_68 rfl rfl (fun c23 => ?_) (fun c23 => ?_)
          · have hw := hw.1 c23
            exact t_X12_loads_74 hL   hw hK7
          · have hw := hw.2 c23
            refine X_goto 97 dX12_loads_71 rfl ?_
            obtain ⟨x24, ex24⟩ : ∃ x24 : Int32, x24 = v4 + (1 : Int32) := ⟨_, rfl⟩
            have hw := hw x24 ex24
            refine X_iinc 100 (v := x24) (ls' := [.ref 92, .int p0, .int v2, .int v3, .int x24, junk]) dX12_loads_97 rfl rfl (by rw [ex24]; rfl) rfl (Or.inr (Or.inr ⟨_, rfl, rfl⟩)) ?_
            refine X_goto 7 dX12_loads_100 rfl ?_
            exact hK7 v2 v3 x24 M17 hw
def w_X12_loads (L : Lay) (p0 : Int32) (M : Mem) (Q : Int32 → Mem → Prop) : Prop := LP4 (fun K7 v2 v3 v4 M => w_X12_loads_7 L p0  K7 v2 v3 v4 M Q) (-1 : Int32) (-1 : Int32) (0 : Int32) M
set_option maxRecDepth 20000 in
theorem s_X12_loads {L : Lay} (hL : LY L) {p0 : Int32}  {M : Mem} {Q : Int32 → Mem → Prop} (hw : w_X12_loads L p0 M Q) : MX yX12_loads cX12_loads (some .boolean) 6 3 0 0 [.ref 92, .int p0] (L, M) (QZ L Q) := by
  unfold w_X12_loads at hw
  refine MX_of (by decide) [.ref 92, .int p0, junk, junk, junk, junk] (by rfl) (by exact Nat.le_of_ble_eq_true rfl) ?_
  show X (FM (QZ L Q)) RX12 cX12_loads (some .boolean) 6 "loads" 3 0 0 (L, M) 0 [.ref 92, .int p0, junk, junk, junk, junk] []
  refine X_iconst 1 (v := -1) dX12_loads_0 rfl rfl ?_
  refine X_istore_n 2 (ls' := [.ref 92, .int p0, .int (-1 : Int32), junk, junk, junk]) dX12_loads_1 rfl rfl (Nat.le_of_ble_eq_true rfl) rfl (Or.inr (Or.inr ⟨_, rfl, rfl⟩)) ?_
  refine X_iconst 3 (v := -1) dX12_loads_2 rfl rfl ?_
  refine X_istore_n 4 (ls' := [.ref 92, .int p0, .int (-1 : Int32), .int (-1 : Int32), junk, junk]) dX12_loads_3 rfl rfl (Nat.le_of_ble_eq_true rfl) rfl (Or.inr (Or.inr ⟨_, rfl, rfl⟩)) ?_
  refine X_iconst 5 (v := 0) dX12_loads_4 rfl rfl ?_
  refine X_istore 7 (ls' := [.ref 92, .int p0, .int (-1 : Int32), .int (-1 : Int32), .int (0 : Int32), junk]) dX12_loads_5 rfl (Nat.le_of_ble_eq_true rfl) rfl (Or.inr (Or.inr ⟨_, rfl, rfl⟩)) ?_
  exact LP4_s hw (G := fun v2 v3 v4 M => X (FM (QZ L Q)) RX12 cX12_loads (some .boolean) 6 "loads" 3 0 0 (L, M) 7 [.ref 92, .int p0, .int v2, .int v3, .int v4, junk] []) (fun K7 v2 v3 v4 M hb hK => t_X12_loads_7 hL  hb  hK)
def w_X12_sells_10 (L : Lay) (p0 : Int32) (p1 : Int32) (K10 : Int32 → Int32 → Mem → Prop) (v3 : Int32) (v4 : Int32) (M : Mem) (Q : Mem → Prop) : Prop := vp_in (((8 : Int32) * p0) + p1) 16 ∧ (((v4 < (mi M 113 (tn (((8 : Int32) * p0) + p1))) → (vp_in ((((96 : Int32) * p0) + ((12 : Int32) * p1)) + v4) 192 ∧ (∀ x9 : Int32, x9 = (mi M 116 (tn ((((96 : Int32) * p0) + ((12 : Int32) * p1)) + v4))) → (vp_in x9 10 ∧ (w_X12_priceAt L p0 (mi M 120 (tn x9)) M (fun x12 M11 => (vp_in (((10 : Int32) * p0) + x9) 20 ∧ (vp_in p0 2 ∧ (∀ M15 : Mem, M15 = si M11 110 (tn (((10 : Int32) * p0) + x9)) ((mi M11 110 (tn (((10 : Int32) * p0) + x9))) + ((8 : Int32) * (((x12 - ((x12 * (mi M11 124 (tn x9))) / (100 : Int32))) - (mi M11 104 (tn p0))) - (mi M11 123 (tn x9))))) → (∀ M16 : Mem, M16 = si M15 105 (tn p0) ((mi M15 105 (tn p0)) + (1 : Int32)) → (∀ x17 : Int32, x17 = v4 + (1 : Int32) → (K10 v3 x17 M16)))))))))))) ∧ (¬ v4 < (mi M 113 (tn (((8 : Int32) * p0) + p1))) → (vp_in p0 2 ∧ (∀ M6 : Mem, M6 = si M 96 (tn p0) (jmin (99999 : Int32) (v3 + ((8 : Int32) * (mi M 113 (tn (((8 : Int32) * p0) + p1)))))) → (∀ M7 : Mem, M7 = si M6 113 (tn (((8 : Int32) * p0) + p1)) (0 : Int32) → (Q M7)))))))
set_option maxRecDepth 20000 in
theorem t_X12_sells_10 {L : Lay} (hL : LY L) {p0 : Int32} {p1 : Int32}  {K10 : Int32 → Int32 → Mem → Prop} {v3 : Int32} {v4 : Int32}  {M : Mem} {Q : Mem → Prop} (hw : w_X12_sells_10 L p0 p1 K10 v3 v4 M Q) (hK10 : ∀ (v3 : Int32) (v4 : Int32) (M : Mem), K10 v3 v4 M → X (FM (QV L Q)) RX12 cX12_sells none 7 "sells" 3 0 0 (L, M) 10 [.ref 92, .int p0, .int p1, .int v3, .int v4, junk, junk] []) : X (FM (QV L Q)) RX12 cX12_sells none 7 "sells" 3 0 0 (L, M) 10 [.ref 92, .int p0, .int p1, .int v3, .int v4, junk, junk] [] := by
  unfold w_X12_sells_10 at hw
  refine X_iload 12 dX12_sells_10 rfl rfl ?_
  refine X_aload_n 13 dX12_sells_12 rfl rfl ?_
  refine X_getR 16 f_X12_71 (hL.ob (c := 12) (by decide) rfl) rfl (hL.rr (by decide) rfl) dX12_sells_13 rfl ?_
  refine X_bipush 18 (v := 8) dX12_sells_16 rfl rfl ?_
  refine X_iload_n 19 dX12_sells_18 rfl rfl ?_
  refine X_imul 20 dX12_sells_19 rfl ?_
  refine X_iload_n 21 dX12_sells_20 rfl rfl ?_
  refine X_iadd 22 dX12_sells_21 rfl ?_
  obtain ⟨c3, hw⟩ := hw
  refine Y_iald 23 (k := (tn (((8 : Int32) * p0) + p1))) (hL.ar (t := 0) (n := 16) (by decide) rfl) c3 rfl dX12_sells_22 rfl ?_
  refine X_icmp_ge 124 26 dX12_sells_23 rfl rfl (fun c4 => ?_) (fun c4 => ?_)
  · have hw := hw.2 c4
    refine X_aload_n 125 dX12_sells_124 rfl rfl ?_
    refine X_getR 128 f_X12_19 (hL.ob (c := 12) (by decide) rfl) rfl (hL.rr (by decide) rfl) dX12_sells_125 rfl ?_
    refine X_iload_n 129 dX12_sells_128 rfl rfl ?_
    refine X_ldc 131 dX12_sells_129 rfl k_X12_227 ?_
    refine X_iload_n 132 dX12_sells_131 rfl rfl ?_
    refine X_bipush 134 (v := 8) dX12_sells_132 rfl rfl ?_
    refine X_aload_n 135 dX12_sells_134 rfl rfl ?_
    refine X_getR 138 f_X12_71 (hL.ob (c := 12) (by decide) rfl) rfl (hL.rr (by decide) rfl) dX12_sells_135 rfl ?_
    refine X_bipush 140 (v := 8) dX12_sells_138 rfl rfl ?_
    refine X_iload_n 141 dX12_sells_140 rfl rfl ?_
    refine X_imul 142 dX12_sells_141 rfl ?_
    refine X_iload_n 143 dX12_sells_142 rfl rfl ?_
    refine X_iadd 144 dX12_sells_143 rfl ?_
    refine Y_iald 145 (k := (tn (((8 : Int32) * p0) + p1))) (hL.ar (t := 0) (n := 16) (by decide) rfl) c3 rfl dX12_sells_144 rfl ?_
    refine X_imul 146 dX12_sells_145 rfl ?_
    refine X_iadd 147 dX12_sells_146 rfl ?_
    refine Y_mmin 150 l_X12_392 (by decide) (Nat.le_of_ble_eq_true rfl) dX12_sells_147 rfl ?_
    obtain ⟨c5, hw⟩ := hw
    refine Y_iast 151 (k := (tn p0)) (hL.ar (t := 0) (n := 2) (by decide) rfl) c5 rfl dX12_sells_150 rfl ?_
    refine X_nmM (fun M6 eM6 => ?_)
    have hw := hw M6 eM6
    refine X_aload_n 152 dX12_sells_151 rfl rfl ?_
    refine X_getR 155 f_X12_71 (hL.ob (c := 12) (by decide) rfl) rfl (hL.rr (by decide) rfl) dX12_sells_152 rfl ?_
    refine X_bipush 157 (v := 8) dX12_sells_155 rfl rfl ?_
    refine X_iload_n 158 dX12_sells_157 rfl rfl ?_
    refine X_imul 159 dX12_sells_158 rfl ?_
    refine X_iload_n 160 dX12_sells_159 rfl rfl ?_
    refine X_iadd 161 dX12_sells_160 rfl ?_
    refine X_iconst 162 (v := 0) dX12_sells_161 rfl rfl ?_
    refine Y_iast 163 (k := (tn (((8 : Int32) * p0) + p1))) (hL.ar (t := 0) (n := 16) (by decide) rfl) c3 rfl dX12_sells_162 rfl ?_
    refine X_nmM (fun M7 eM7 => ?_)
    have hw := hw M7 eM7
    exact X_retV rfl dX12_sells_163 ⟨_, rfl, rfl, hw⟩
  · have hw := hw.1 c4
    refine X_aload_n 27 dX12_sells_26 rfl rfl ?_
    refine X_getR 30 f_X12_80 (hL.ob (c := 12) (by decide) rfl) rfl (hL.rr (by decide) rfl) dX12_sells_27 rfl ?_
    refine X_bipush 32 (v := 96) dX12_sells_30 rfl rfl ?_
    refine X_iload_n 33 dX12_sells_32 rfl rfl ?_
    refine X_imul 34 dX12_sells_33 rfl ?_
    refine X_bipush 36 (v := 12) dX12_sells_34 rfl rfl ?_
    refine X_iload_n 37 dX12_sells_36 rfl rfl ?_
    refine X_imul 38 dX12_sells_37 rfl ?_
    refine X_iadd 39 dX12_sells_38 rfl ?_
    refine X_iload 41 dX12_sells_39 rfl rfl ?_
    refine X_iadd 42 dX12_sells_41 rfl ?_
    obtain ⟨c8, hw⟩ := hw
    refine Y_iald 43 (k := (tn ((((96 : Int32) * p0) + ((12 : Int32) * p1)) + v4))) (hL.ar (t := 0) (n := 192) (by decide) rfl) c8 rfl dX12_sells_42 rfl ?_
    refine X_nmI (fun x9 ex9 => ?_)
    have hw := hw x9 ex9
    refine X_istore 45 (ls' := [.ref 92, .int p0, .int p1, .int v3, .int v4, .int x9, junk]) dX12_sells_43 rfl (Nat.le_of_ble_eq_true rfl) rfl (Or.inr (Or.inr ⟨_, rfl, rfl⟩)) ?_
    refine X_aload_n 46 dX12_sells_45 rfl rfl ?_
    refine X_iload_n 47 dX12_sells_46 rfl rfl ?_
    refine X_aload_n 48 dX12_sells_47 rfl rfl ?_
    refine X_getR 51 f_X12_92 (hL.ob (c := 12) (by decide) rfl) rfl (hL.rr (by decide) rfl) dX12_sells_48 rfl ?_
    refine X_iload 53 dX12_sells_51 rfl rfl ?_
    obtain ⟨c10, hw⟩ := hw
    refine Y_iald 54 (k := (tn x9)) (hL.ar (t := 0) (n := 10) (by decide) rfl) c10 rfl dX12_sells_53 rfl ?_
    refine Y_cVI 57 (as := [.int p0, .int ((mi M 120 (tn x9)))]) m_X12_234 (s_X12_priceAt hL  hw) (hL.ob (c := 12) (by decide) rfl) rfl (by decide) (Nat.le_of_ble_eq_true rfl) dX12_sells_54 rfl rfl (fun x12 M11 hw => ?_)
    refine X_istore 59 (ls' := [.ref 92, .int p0, .int p1, .int v3, .int v4, .int x9, .int x12]) dX12_sells_57 rfl (Nat.le_of_ble_eq_true rfl) rfl (Or.inr (Or.inr ⟨_, rfl, rfl⟩)) ?_
    refine X_aload_n 60 dX12_sells_59 rfl rfl ?_
    refine X_getR 63 f_X12_61 (hL.ob (c := 12) (by decide) rfl) rfl (hL.rr (by decide) rfl) dX12_sells_60 rfl ?_
    refine X_bipush 65 (v := 10) dX12_sells_63 rfl rfl ?_
    refine X_iload_n 66 dX12_sells_65 rfl rfl ?_
    refine X_imul 67 dX12_sells_66 rfl ?_
    refine X_iload 69 dX12_sells_67 rfl rfl ?_
    refine X_iadd 70 dX12_sells_69 rfl ?_
    refine X_dup2 71 dX12_sells_70 rfl rfl rfl ?_
    obtain ⟨c13, hw⟩ := hw
    refine Y_iald 72 (k := (tn (((10 : Int32) * p0) + x9))) (hL.ar (t := 0) (n := 20) (by decide) rfl) c13 rfl dX12_sells_71 rfl ?_
    refine X_bipush 74 (v := 8) dX12_sells_72 rfl rfl ?_
    refine X_iload 76 dX12_sells_74 rfl rfl ?_
    refine X_iload 78 dX12_sells_76 rfl rfl ?_
    refine X_aload_n 79 dX12_sells_78 rfl rfl ?_
    refine X_getR 82 f_X12_104 (hL.ob (c := 12) (by decide) rfl) rfl (hL.rr (by decide) rfl) dX12_sells_79 rfl ?_
    refine X_iload 84 dX12_sells_82 rfl rfl ?_
    refine Y_iald 85 (k := (tn x9)) (hL.ar (t := 0) (n := 10) (by decide) rfl) c10 rfl dX12_sells_84 rfl ?_
    refine X_imul 86 dX12_sells_85 rfl ?_
    refine X_bipush 88 (v := 100) dX12_sells_86 rfl rfl ?_
    refine X_idiv 89 dX12_sells_88 rfl (by decide) ?_
    refine X_isub 90 dX12_sells_89 rfl ?_
    refine X_aload_n 91 dX12_sells_90 rfl rfl ?_
    refine X_getR 94 f_X12_43 (hL.ob (c := 12) (by decide) rfl) rfl (hL.rr (by decide) rfl) dX12_sells_91 rfl ?_
    refine X_iload_n 95 dX12_sells_94 rfl rfl ?_
    obtain ⟨c14, hw⟩ := hw
    refine Y_iald 96 (k := (tn p0)) (hL.ar (t := 0) (n := 2) (by decide) rfl) c14 rfl dX12_sells_95 rfl ?_
    refine X_isub 97 dX12_sells_96 rfl ?_
    refine X_aload_n 98 dX12_sells_97 rfl rfl ?_
    refine X_getR 101 f_X12_101 (hL.ob (c := 12) (by decide) rfl) rfl (hL.rr (by decide) rfl) dX12_sells_98 rfl ?_
    refine X_iload 103 dX12_sells_101 rfl rfl ?_
    refine Y_iald 104 (k := (tn x9)) (hL.ar (t := 0) (n := 10) (by decide) rfl) c10 rfl dX12_sells_103 rfl ?_
    refine X_isub 105 dX12_sells_104 rfl ?_
    refine X_imul 106 dX12_sells_105 rfl ?_
    refine X_iadd 107 dX12_sells_106 rfl ?_
    refine Y_iast 108 (k := (tn (((10 : Int32) * p0) + x9))) (hL.ar (t := 0) (n := 20) (by decide) rfl) c13 rfl dX12_sells_107 rfl ?_
    refine X_nmM (fun M15 eM15 => ?_)
    have hw := hw M15 eM15
    refine X_aload_n 109 dX12_sells_108 rfl rfl ?_
    refine X_getR 112 f_X12_46 (hL.ob (c := 12) (by decide) rfl) rfl (hL.rr (by decide) rfl) dX12_sells_109 rfl ?_
    refine X_iload_n 113 dX12_sells_112 rfl rfl ?_
    refine X_dup2 114 dX12_sells_113 rfl rfl rfl ?_
    refine Y_iald 115 (k := (tn p0)) (hL.ar (t := 0) (n := 2) (by decide) rfl) c14 rfl dX12_sells_114 rfl ?_
    refine X_iconst 116 (v := 1) dX12_sells_115 rfl rfl ?_
    refine X_iadd 117 dX12_sells_116 rfl ?_
    refine Y_iast 118 (k := (tn p0)) (hL.ar (t := 0) (n := 2) (by decide) rfl) c14 rfl dX12_sells_117 rfl ?_
    refine X_nmM (fun M16 eM16 => ?_)
    have hw := hw M16 eM16
    obtain ⟨x17, ex17⟩ : ∃ x17 : Int32, x17 = v4 + (1 : Int32) := ⟨_, rfl⟩
    have hw := hw x17 ex17
    refine X_iinc 121 (v := x17) (ls' := [.ref 92, .int p0, .int p1, .int v3, .int x17, .int x9, .int x12]) dX12_sells_118 rfl rfl (by rw [ex17]; rfl) rfl (Or.inr (Or.inr ⟨_, rfl, rfl⟩)) ?_
    refine X_goto 10 dX12_sells_121 rfl ?_
    refine X_weak (ls' := [.ref 92, .int p0, .int p1, .int v3, .int x17, junk, junk]) (WK.s (WK.s (WK.s (WK.s (WK.s (WK.j (WK.j WK.n))))))) (Nat.le_of_ble_eq_true rfl) ?_
    exact hK10 v3 x17 M16 hw
def w_X12_sells (L : Lay) (p0 : Int32) (p1 : Int32) (M : Mem) (Q : Mem → Prop) : Prop := vp_in p0 2 ∧ (∀ x2 : Int32, x2 = (mi M 96 (tn p0)) → (LP3 (fun K10 v3 v4 M => w_X12_sells_10 L p0 p1  K10 v3 v4 M Q) x2 (0 : Int32) M))
set_option maxRecDepth 20000 in
theorem s_X12_sells {L : Lay} (hL : LY L) {p0 : Int32} {p1 : Int32}  {M : Mem} {Q : Mem → Prop} (hw : w_X12_sells L p0 p1 M Q) : MX yX12_sells cX12_sells none 7 3 0 0 [.ref 92, .int p0, .int p1] (L, M) (QV L Q) := by
  unfold w_X12_sells at hw
  refine MX_of (by decide) [.ref 92, .int p0, .int p1, junk, junk, junk, junk] (by rfl) (by exact Nat.le_of_ble_eq_true rfl) ?_
  show X (FM (QV L Q)) RX12 cX12_sells none 7 "sells" 3 0 0 (L, M) 0 [.ref 92, .int p0, .int p1, junk, junk, junk, junk] []
  refine X_aload_n 1 dX12_sells_0 rfl rfl ?_
  refine X_getR 4 f_X12_19 (hL.ob (c := 12) (by decide) rfl) rfl (hL.rr (by decide) rfl) dX12_sells_1 rfl ?_
  refine X_iload_n 5 dX12_sells_4 rfl rfl ?_
  obtain ⟨c1, hw⟩ := hw
  refine Y_iald 6 (k := (tn p0)) (hL.ar (t := 0) (n := 2) (by decide) rfl) c1 rfl dX12_sells_5 rfl ?_
  refine X_nmI (fun x2 ex2 => ?_)
  have hw := hw x2 ex2
  refine X_istore_n 7 (ls' := [.ref 92, .int p0, .int p1, .int x2, junk, junk, junk]) dX12_sells_6 rfl rfl (Nat.le_of_ble_eq_true rfl) rfl (Or.inr (Or.inr ⟨_, rfl, rfl⟩)) ?_
  refine X_iconst 8 (v := 0) dX12_sells_7 rfl rfl ?_
  refine X_istore 10 (ls' := [.ref 92, .int p0, .int p1, .int x2, .int (0 : Int32), junk, junk]) dX12_sells_8 rfl (Nat.le_of_ble_eq_true rfl) rfl (Or.inr (Or.inr ⟨_, rfl, rfl⟩)) ?_
  exact LP3_s hw (G := fun v3 v4 M => X (FM (QV L Q)) RX12 cX12_sells none 7 "sells" 3 0 0 (L, M) 10 [.ref 92, .int p0, .int p1, .int v3, .int v4, junk, junk] []) (fun K10 v3 v4 M hb hK => t_X12_sells_10 hL  hb  hK)
def w_X12_sails_85 (L : Lay) (p0 : Int32) (p1 : Int32) (p2 : Int32) (p3 : Int32)  (v5 : Int32) (M : Mem) (Q : Mem → Prop) : Prop := vp_in v5 16 ∧ (∀ M15 : Mem, M15 = si M 112 (tn v5) ((mi M 112 (tn v5)) + (1 : Int32)) → (∀ M16 : Mem, M16 = si M15 114 (tn v5) (3 : Int32) → (Q M16)))
set_option maxRecDepth 20000 in
theorem t_X12_sails_85 {L : Lay} (hL : LY L) {p0 : Int32} {p1 : Int32} {p2 : Int32} {p3 : Int32}   {v5 : Int32}  {M : Mem} {Q : Mem → Prop} (hw : w_X12_sails_85 L p0 p1 p2 p3  v5 M Q)  : X (FM (QV L Q)) RX12 cX12_sails none 6 "sails" 4 0 0 (L, M) 85 [.ref 92, junk, junk, junk, junk, .int v5] [] := by
  unfold w_X12_sails_85 at hw
  refine X_aload_n 86 dX12_sails_85 rfl rfl ?_
  refine X_getR 89 f_X12_68 (hL.ob (c := 12) (by decide) rfl) rfl (hL.rr (by decide) rfl) dX12_sails_86 rfl ?_
  refine X_iload 91 dX12_sails_89 rfl rfl ?_
  refine X_dup2 92 dX12_sails_91 rfl rfl rfl ?_
  obtain ⟨c14, hw⟩ := hw
  refine Y_iald 93 (k := (tn v5)) (hL.ar (t := 0) (n := 16) (by decide) rfl) c14 rfl dX12_sails_92 rfl ?_
  refine X_iconst 94 (v := 1) dX12_sails_93 rfl rfl ?_
  refine X_iadd 95 dX12_sails_94 rfl ?_
  refine Y_iast 96 (k := (tn v5)) (hL.ar (t := 0) (n := 16) (by decide) rfl) c14 rfl dX12_sails_95 rfl ?_
  refine X_nmM (fun M15 eM15 => ?_)
  have hw := hw M15 eM15
  refine X_aload_n 97 dX12_sails_96 rfl rfl ?_
  refine X_getR 100 f_X12_74 (hL.ob (c := 12) (by decide) rfl) rfl (hL.rr (by decide) rfl) dX12_sails_97 rfl ?_
  refine X_iload 102 dX12_sails_100 rfl rfl ?_
  refine X_iconst 103 (v := 3) dX12_sails_102 rfl rfl ?_
  refine Y_iast 104 (k := (tn v5)) (hL.ar (t := 0) (n := 16) (by decide) rfl) c14 rfl dX12_sails_103 rfl ?_
  refine X_nmM (fun M16 eM16 => ?_)
  have hw := hw M16 eM16
  exact X_retV rfl dX12_sails_104 ⟨_, rfl, rfl, hw⟩
def w_X12_sails_139 (L : Lay) (p0 : Int32) (p1 : Int32) (p2 : Int32) (p3 : Int32)  (v5 : Int32) (M : Mem) (Q : Mem → Prop) : Prop := vp_in v5 16 ∧ (∀ M24 : Mem, M24 = si M 114 (tn v5) ((mi M 114 (tn v5)) - (1 : Int32)) → (((0 < (mi M24 114 (tn v5)) → (Q M24)) ∧ (¬ 0 < (mi M24 114 (tn v5)) → (∀ x26 : Int32, x26 = (if (mi M24 112 (tn v5)) = (1 : Int32) then (2 : Int32) else (0 : Int32)) → (∀ M27 : Mem, M27 = si M24 112 (tn v5) x26 → (∀ M28 : Mem, M28 = si M27 115 (tn v5) p2 → ((((mi M28 112 (tn v5)) = (2 : Int32) → (w_X12_sells L p0 p1 M28 (fun M30 => (Q M30)))) ∧ (¬ (mi M28 112 (tn v5)) = (2 : Int32) → (Q M28)))))))))))
set_option maxRecDepth 20000 in
theorem t_X12_sails_139 {L : Lay} (hL : LY L) {p0 : Int32} {p1 : Int32} {p2 : Int32} {p3 : Int32}   {v5 : Int32}  {M : Mem} {Q : Mem → Prop} (hw : w_X12_sails_139 L p0 p1 p2 p3  v5 M Q)  : X (FM (QV L Q)) RX12 cX12_sails none 6 "sails" 4 0 0 (L, M) 139 [.ref 92, .int p0, .int p1, .int p2, junk, .int v5] [] := by
  unfold w_X12_sails_139 at hw
  refine X_aload_n 140 dX12_sails_139 rfl rfl ?_
  refine X_getR 143 f_X12_74 (hL.ob (c := 12) (by decide) rfl) rfl (hL.rr (by decide) rfl) dX12_sails_140 rfl ?_
  refine X_iload 145 dX12_sails_143 rfl rfl ?_
  refine X_dup2 146 dX12_sails_145 rfl rfl rfl ?_
  obtain ⟨c23, hw⟩ := hw
  refine Y_iald 147 (k := (tn v5)) (hL.ar (t := 0) (n := 16) (by decide) rfl) c23 rfl dX12_sails_146 rfl ?_
  refine X_iconst 148 (v := 1) dX12_sails_147 rfl rfl ?_
  refine X_isub 149 dX12_sails_148 rfl ?_
  refine Y_iast 150 (k := (tn v5)) (hL.ar (t := 0) (n := 16) (by decide) rfl) c23 rfl dX12_sails_149 rfl ?_
  refine X_nmM (fun M24 eM24 => ?_)
  have hw := hw M24 eM24
  refine X_aload_n 151 dX12_sails_150 rfl rfl ?_
  refine X_getR 154 f_X12_74 (hL.ob (c := 12) (by decide) rfl) rfl (hL.rr (by decide) rfl) dX12_sails_151 rfl ?_
  refine X_iload 156 dX12_sails_154 rfl rfl ?_
  refine Y_iald 157 (k := (tn v5)) (hL.ar (t := 0) (n := 16) (by decide) rfl) c23 rfl dX12_sails_156 rfl ?_
  refine X_if_le 161 160 (y := 0) dX12_sails_157 rfl rfl (fun c25 => ?_) (fun c25 => ?_)
  · have hw := hw.2 c25
    refine X_aload_n 162 dX12_sails_161 rfl rfl ?_
    refine X_getR 165 f_X12_68 (hL.ob (c := 12) (by decide) rfl) rfl (hL.rr (by decide) rfl) dX12_sails_162 rfl ?_
    refine X_iload 167 dX12_sails_165 rfl rfl ?_
    refine X_aload_n 168 dX12_sails_167 rfl rfl ?_
    refine X_getR 171 f_X12_68 (hL.ob (c := 12) (by decide) rfl) rfl (hL.rr (by decide) rfl) dX12_sails_168 rfl ?_
    refine X_iload 173 dX12_sails_171 rfl rfl ?_
    refine Y_iald 174 (k := (tn v5)) (hL.ar (t := 0) (n := 16) (by decide) rfl) c23 rfl dX12_sails_173 rfl ?_
    refine X_iconst 175 (v := 1) dX12_sails_174 rfl rfl ?_
    obtain ⟨x26, ex26⟩ : ∃ x26 : Int32, x26 = (if (mi M24 112 (tn v5)) = (1 : Int32) then (2 : Int32) else (0 : Int32)) := ⟨_, rfl⟩
    have hw := hw x26 ex26
    have hJ : X (FM (QV L Q)) RX12 cX12_sails none 6 "sails" 4 0 0 (L, M24) 183 [.ref 92, .int p0, .int p1, .int p2, junk, .int v5] [.int x26, .int v5, .ref 112] := by
      refine Y_iast 184 (k := (tn v5)) (hL.ar (t := 0) (n := 16) (by decide) rfl) c23 rfl dX12_sails_183 rfl ?_
      refine X_nmM (fun M27 eM27 => ?_)
      have hw := hw M27 eM27
      refine X_aload_n 185 dX12_sails_184 rfl rfl ?_
      refine X_getR 188 f_X12_77 (hL.ob (c := 12) (by decide) rfl) rfl (hL.rr (by decide) rfl) dX12_sails_185 rfl ?_
      refine X_iload 190 dX12_sails_188 rfl rfl ?_
      refine X_iload_n 191 dX12_sails_190 rfl rfl ?_
      refine Y_iast 192 (k := (tn v5)) (hL.ar (t := 0) (n := 16) (by decide) rfl) c23 rfl dX12_sails_191 rfl ?_
      refine X_nmM (fun M28 eM28 => ?_)
      have hw := hw M28 eM28
      refine X_aload_n 193 dX12_sails_192 rfl rfl ?_
      refine X_getR 196 f_X12_68 (hL.ob (c := 12) (by decide) rfl) rfl (hL.rr (by decide) rfl) dX12_sails_193 rfl ?_
      refine X_iload 198 dX12_sails_196 rfl rfl ?_
      refine Y_iald 199 (k := (tn v5)) (hL.ar (t := 0) (n := 16) (by decide) rfl) c23 rfl dX12_sails_198 rfl ?_
      refine X_iconst 200 (v := 2) dX12_sails_199 rfl rfl ?_
      refine X_icmp_ne 209 203 dX12_sails_200 rfl rfl (fun c29 => ?_) (fun c29 => ?_)
      · have hw := hw.2 c29
        exact X_retV rfl dX12_sails_209 ⟨_, rfl, rfl, hw⟩
      · have hw := hw.1 c29
        refine X_aload_n 204 dX12_sails_203 rfl rfl ?_
        refine X_iload_n 205 dX12_sails_204 rfl rfl ?_
        refine X_iload_n 206 dX12_sails_205 rfl rfl ?_
        refine Y_cVV 209 (as := [.int p0, .int p1]) m_X12_414 (s_X12_sells hL  hw) (hL.ob (c := 12) (by decide) rfl) rfl (by decide) (Nat.le_of_ble_eq_true rfl) dX12_sails_206 rfl rfl (fun M30 hw => ?_)
        exact X_retV rfl dX12_sails_209 ⟨_, rfl, rfl, hw⟩
    refine X_icmp_ne 182 178 dX12_sails_175 rfl rfl (fun c31 => ?_) (fun c31 => ?_)
    · refine X_iconst 183 (v := 0) dX12_sails_182 rfl rfl ?_
      rw [if_neg c31] at ex26
      rw [ex26] at hJ
      exact hJ
    · refine X_iconst 179 (v := 2) dX12_sails_178 rfl rfl ?_
      refine X_goto 183 dX12_sails_179 rfl ?_
      rw [if_pos c31] at ex26
      rw [ex26] at hJ
      exact hJ
  · have hw := hw.1 c25
    exact X_retV rfl dX12_sails_160 ⟨_, rfl, rfl, hw⟩
def w_X12_sails_122 (L : Lay) (p0 : Int32) (p1 : Int32) (p2 : Int32) (p3 : Int32)  (v5 : Int32) (M : Mem) (Q : Mem → Prop) : Prop := vp_in v5 16 ∧ ((((mi M 112 (tn v5)) = (3 : Int32) → (((p3 = (2 : Int32) → (w_X12_sails_139 L p0 p1 p2 p3  v5 M Q)) ∧ (¬ p3 = (2 : Int32) → (Q M))))) ∧ (¬ (mi M 112 (tn v5)) = (3 : Int32) → (Q M))))
set_option maxRecDepth 20000 in
theorem t_X12_sails_122 {L : Lay} (hL : LY L) {p0 : Int32} {p1 : Int32} {p2 : Int32} {p3 : Int32}   {v5 : Int32}  {M : Mem} {Q : Mem → Prop} (hw : w_X12_sails_122 L p0 p1 p2 p3  v5 M Q)  : X (FM (QV L Q)) RX12 cX12_sails none 6 "sails" 4 0 0 (L, M) 122 [.ref 92, .int p0, .int p1, .int p2, .int p3, .int v5] [] := by
  unfold w_X12_sails_122 at hw
  refine X_aload_n 123 dX12_sails_122 rfl rfl ?_
  refine X_getR 126 f_X12_68 (hL.ob (c := 12) (by decide) rfl) rfl (hL.rr (by decide) rfl) dX12_sails_123 rfl ?_
  refine X_iload 128 dX12_sails_126 rfl rfl ?_
  obtain ⟨c20, hw⟩ := hw
  refine Y_iald 129 (k := (tn v5)) (hL.ar (t := 0) (n := 16) (by decide) rfl) c20 rfl dX12_sails_128 rfl ?_
  refine X_iconst 130 (v := 3) dX12_sails_129 rfl rfl ?_
  refine X_icmp_ne 209 133 dX12_sails_130 rfl rfl (fun c21 => ?_) (fun c21 => ?_)
  · have hw := hw.2 c21
    exact X_retV rfl dX12_sails_209 ⟨_, rfl, rfl, hw⟩
  · have hw := hw.1 c21
    refine X_iload 135 dX12_sails_133 rfl rfl ?_
    refine X_iconst 136 (v := 2) dX12_sails_135 rfl rfl ?_
    refine X_icmp_ne 209 139 dX12_sails_136 rfl rfl (fun c22 => ?_) (fun c22 => ?_)
    · have hw := hw.2 c22
      exact X_retV rfl dX12_sails_209 ⟨_, rfl, rfl, hw⟩
    · have hw := hw.1 c22
      refine X_weak (ls' := [.ref 92, .int p0, .int p1, .int p2, junk, .int v5]) (WK.s (WK.s (WK.s (WK.s (WK.j (WK.s WK.n)))))) (Nat.le_of_ble_eq_true rfl) ?_
      exact t_X12_sails_139 hL   hw 
def w_X12_sails_105 (L : Lay) (p0 : Int32) (p1 : Int32) (p2 : Int32) (p3 : Int32)  (v5 : Int32) (M : Mem) (Q : Mem → Prop) : Prop := vp_in v5 16 ∧ ((((mi M 112 (tn v5)) = (1 : Int32) → (((p3 = (1 : Int32) → (w_X12_sails_139 L p0 p1 p2 p3  v5 M Q)) ∧ (¬ p3 = (1 : Int32) → (w_X12_sails_122 L p0 p1 p2 p3  v5 M Q))))) ∧ (¬ (mi M 112 (tn v5)) = (1 : Int32) → (w_X12_sails_122 L p0 p1 p2 p3  v5 M Q))))
set_option maxRecDepth 20000 in
theorem t_X12_sails_105 {L : Lay} (hL : LY L) {p0 : Int32} {p1 : Int32} {p2 : Int32} {p3 : Int32}   {v5 : Int32}  {M : Mem} {Q : Mem → Prop} (hw : w_X12_sails_105 L p0 p1 p2 p3  v5 M Q)  : X (FM (QV L Q)) RX12 cX12_sails none 6 "sails" 4 0 0 (L, M) 105 [.ref 92, .int p0, .int p1, .int p2, .int p3, .int v5] [] := by
  unfold w_X12_sails_105 at hw
  refine X_aload_n 106 dX12_sails_105 rfl rfl ?_
  refine X_getR 109 f_X12_68 (hL.ob (c := 12) (by decide) rfl) rfl (hL.rr (by decide) rfl) dX12_sails_106 rfl ?_
  refine X_iload 111 dX12_sails_109 rfl rfl ?_
  obtain ⟨c17, hw⟩ := hw
  refine Y_iald 112 (k := (tn v5)) (hL.ar (t := 0) (n := 16) (by decide) rfl) c17 rfl dX12_sails_111 rfl ?_
  refine X_iconst 113 (v := 1) dX12_sails_112 rfl rfl ?_
  refine X_icmp_ne 122 116 dX12_sails_113 rfl rfl (fun c18 => ?_) (fun c18 => ?_)
  · have hw := hw.2 c18
    exact t_X12_sails_122 hL   hw 
  · have hw := hw.1 c18
    refine X_iload 118 dX12_sails_116 rfl rfl ?_
    refine X_iconst 119 (v := 1) dX12_sails_118 rfl rfl ?_
    refine X_icmp_eq 139 122 dX12_sails_119 rfl rfl (fun c19 => ?_) (fun c19 => ?_)
    · have hw := hw.1 c19
      refine X_weak (ls' := [.ref 92, .int p0, .int p1, .int p2, junk, .int v5]) (WK.s (WK.s (WK.s (WK.s (WK.j (WK.s WK.n)))))) (Nat.le_of_ble_eq_true rfl) ?_
      exact t_X12_sails_139 hL   hw 
    · have hw := hw.2 c19
      exact t_X12_sails_122 hL   hw 
def w_X12_sails_57 (L : Lay) (p0 : Int32) (p1 : Int32) (p2 : Int32) (p3 : Int32)  (v5 : Int32) (M : Mem) (Q : Mem → Prop) : Prop := vp_in v5 16 ∧ ((((mi M 112 (tn v5)) = (2 : Int32) → (((p3 = (2 : Int32) → ((((mi M 115 (tn v5)) = p2 → (w_X12_sails_105 L p0 p1 p2 p3  v5 M Q)) ∧ (¬ (mi M 115 (tn v5)) = p2 → (w_X12_sails_85 L p0 p1 p2 p3  v5 M Q))))) ∧ (¬ p3 = (2 : Int32) → (w_X12_sails_105 L p0 p1 p2 p3  v5 M Q))))) ∧ (¬ (mi M 112 (tn v5)) = (2 : Int32) → (w_X12_sails_105 L p0 p1 p2 p3  v5 M Q))))
set_option maxRecDepth 20000 in
theorem t_X12_sails_57 {L : Lay} (hL : LY L) {p0 : Int32} {p1 : Int32} {p2 : Int32} {p3 : Int32}   {v5 : Int32}  {M : Mem} {Q : Mem → Prop} (hw : w_X12_sails_57 L p0 p1 p2 p3  v5 M Q)  : X (FM (QV L Q)) RX12 cX12_sails none 6 "sails" 4 0 0 (L, M) 57 [.ref 92, .int p0, .int p1, .int p2, .int p3, .int v5] [] := by
  unfold w_X12_sails_57 at hw
  refine X_aload_n 58 dX12_sails_57 rfl rfl ?_
  refine X_getR 61 f_X12_68 (hL.ob (c := 12) (by decide) rfl) rfl (hL.rr (by decide) rfl) dX12_sails_58 rfl ?_
  refine X_iload 63 dX12_sails_61 rfl rfl ?_
  obtain ⟨c10, hw⟩ := hw
  refine Y_iald 64 (k := (tn v5)) (hL.ar (t := 0) (n := 16) (by decide) rfl) c10 rfl dX12_sails_63 rfl ?_
  refine X_iconst 65 (v := 2) dX12_sails_64 rfl rfl ?_
  refine X_icmp_ne 105 68 dX12_sails_65 rfl rfl (fun c11 => ?_) (fun c11 => ?_)
  · have hw := hw.2 c11
    exact t_X12_sails_105 hL   hw 
  · have hw := hw.1 c11
    refine X_iload 70 dX12_sails_68 rfl rfl ?_
    refine X_iconst 71 (v := 2) dX12_sails_70 rfl rfl ?_
    refine X_icmp_ne 105 74 dX12_sails_71 rfl rfl (fun c12 => ?_) (fun c12 => ?_)
    · have hw := hw.2 c12
      exact t_X12_sails_105 hL   hw 
    · have hw := hw.1 c12
      refine X_aload_n 75 dX12_sails_74 rfl rfl ?_
      refine X_getR 78 f_X12_77 (hL.ob (c := 12) (by decide) rfl) rfl (hL.rr (by decide) rfl) dX12_sails_75 rfl ?_
      refine X_iload 80 dX12_sails_78 rfl rfl ?_
      refine Y_iald 81 (k := (tn v5)) (hL.ar (t := 0) (n := 16) (by decide) rfl) c10 rfl dX12_sails_80 rfl ?_
      refine X_iload_n 82 dX12_sails_81 rfl rfl ?_
      refine X_icmp_eq 105 85 dX12_sails_82 rfl rfl (fun c13 => ?_) (fun c13 => ?_)
      · have hw := hw.1 c13
        exact t_X12_sails_105 hL   hw 
      · have hw := hw.2 c13
        refine X_weak (ls' := [.ref 92, junk, junk, junk, junk, .int v5]) (WK.s (WK.j (WK.j (WK.j (WK.j (WK.s WK.n)))))) (Nat.le_of_ble_eq_true rfl) ?_
        exact t_X12_sails_85 hL   hw 
def w_X12_sails (L : Lay) (p0 : Int32) (p1 : Int32) (p2 : Int32) (p3 : Int32) (M : Mem) (Q : Mem → Prop) : Prop := ∀ x1 : Int32, x1 = (((8 : Int32) * p0) + p1) → (vp_in x1 16 ∧ ((((mi M 112 (tn x1)) = 0 → (((p3 = (1 : Int32) → (w_X12_hasRoom L p0 p1 M (fun x6 M5 => (((x6 = 0 → (w_X12_sails_85 L p0 p1 p2 p3  x1 M5 Q)) ∧ (¬ x6 = 0 → (((0 < (mi M5 113 (tn x1)) → ((((p2 - (mi M5 115 (tn x1))) < (10 : Int32) → (w_X12_sails_57 L p0 p1 p2 p3  x1 M5 Q)) ∧ (¬ (p2 - (mi M5 115 (tn x1))) < (10 : Int32) → (w_X12_sails_85 L p0 p1 p2 p3  x1 M5 Q))))) ∧ (¬ 0 < (mi M5 113 (tn x1)) → (w_X12_sails_57 L p0 p1 p2 p3  x1 M5 Q)))))))))) ∧ (¬ p3 = (1 : Int32) → (w_X12_sails_57 L p0 p1 p2 p3  x1 M Q))))) ∧ (¬ (mi M 112 (tn x1)) = 0 → (w_X12_sails_57 L p0 p1 p2 p3  x1 M Q)))))
set_option maxRecDepth 20000 in
theorem s_X12_sails {L : Lay} (hL : LY L) {p0 : Int32} {p1 : Int32} {p2 : Int32} {p3 : Int32}  {M : Mem} {Q : Mem → Prop} (hw : w_X12_sails L p0 p1 p2 p3 M Q) : MX yX12_sails cX12_sails none 6 4 0 0 [.ref 92, .int p0, .int p1, .int p2, .int p3] (L, M) (QV L Q) := by
  unfold w_X12_sails at hw
  refine MX_of (by decide) [.ref 92, .int p0, .int p1, .int p2, .int p3, junk] (by rfl) (by exact Nat.le_of_ble_eq_true rfl) ?_
  show X (FM (QV L Q)) RX12 cX12_sails none 6 "sails" 4 0 0 (L, M) 0 [.ref 92, .int p0, .int p1, .int p2, .int p3, junk] []
  refine X_bipush 2 (v := 8) dX12_sails_0 rfl rfl ?_
  refine X_iload_n 3 dX12_sails_2 rfl rfl ?_
  refine X_imul 4 dX12_sails_3 rfl ?_
  refine X_iload_n 5 dX12_sails_4 rfl rfl ?_
  refine X_iadd 6 dX12_sails_5 rfl ?_
  refine X_nmI (fun x1 ex1 => ?_)
  have hw := hw x1 ex1
  refine X_istore 8 (ls' := [.ref 92, .int p0, .int p1, .int p2, .int p3, .int x1]) dX12_sails_6 rfl (Nat.le_of_ble_eq_true rfl) rfl (Or.inr (Or.inr ⟨_, rfl, rfl⟩)) ?_
  refine X_aload_n 9 dX12_sails_8 rfl rfl ?_
  refine X_getR 12 f_X12_68 (hL.ob (c := 12) (by decide) rfl) rfl (hL.rr (by decide) rfl) dX12_sails_9 rfl ?_
  refine X_iload 14 dX12_sails_12 rfl rfl ?_
  obtain ⟨c2, hw⟩ := hw
  refine Y_iald 15 (k := (tn x1)) (hL.ar (t := 0) (n := 16) (by decide) rfl) c2 rfl dX12_sails_14 rfl ?_
  refine X_if_ne 57 18 (y := 0) dX12_sails_15 rfl rfl (fun c3 => ?_) (fun c3 => ?_)
  · have hw := hw.2 c3
    exact t_X12_sails_57 hL   hw 
  · have hw := hw.1 c3
    refine X_iload 20 dX12_sails_18 rfl rfl ?_
    refine X_iconst 21 (v := 1) dX12_sails_20 rfl rfl ?_
    refine X_icmp_ne 57 24 dX12_sails_21 rfl rfl (fun c4 => ?_) (fun c4 => ?_)
    · have hw := hw.2 c4
      exact t_X12_sails_57 hL   hw 
    · have hw := hw.1 c4
      refine X_aload_n 25 dX12_sails_24 rfl rfl ?_
      refine X_iload_n 26 dX12_sails_25 rfl rfl ?_
      refine X_iload_n 27 dX12_sails_26 rfl rfl ?_
      refine Y_cVZ 30 (as := [.int p0, .int p1]) m_X12_408 (s_X12_hasRoom hL  hw) (hL.ob (c := 12) (by decide) rfl) rfl (by decide) (Nat.le_of_ble_eq_true rfl) dX12_sails_27 rfl rfl (fun x6 M5 bx6 hw => ?_)
      refine X_if_eq 85 33 (y := 0) dX12_sails_30 rfl rfl (fun c7 => ?_) (fun c7 => ?_)
      · have hw := hw.1 c7
        refine X_weak (ls' := [.ref 92, junk, junk, junk, junk, .int x1]) (WK.s (WK.j (WK.j (WK.j (WK.j (WK.s WK.n)))))) (Nat.le_of_ble_eq_true rfl) ?_
        exact t_X12_sails_85 hL   hw 
      · have hw := hw.2 c7
        refine X_aload_n 34 dX12_sails_33 rfl rfl ?_
        refine X_getR 37 f_X12_71 (hL.ob (c := 12) (by decide) rfl) rfl (hL.rr (by decide) rfl) dX12_sails_34 rfl ?_
        refine X_iload 39 dX12_sails_37 rfl rfl ?_
        refine Y_iald 40 (k := (tn x1)) (hL.ar (t := 0) (n := 16) (by decide) rfl) c2 rfl dX12_sails_39 rfl ?_
        refine X_if_le 57 43 (y := 0) dX12_sails_40 rfl rfl (fun c8 => ?_) (fun c8 => ?_)
        · have hw := hw.2 c8
          exact t_X12_sails_57 hL   hw 
        · have hw := hw.1 c8
          refine X_iload_n 44 dX12_sails_43 rfl rfl ?_
          refine X_aload_n 45 dX12_sails_44 rfl rfl ?_
          refine X_getR 48 f_X12_77 (hL.ob (c := 12) (by decide) rfl) rfl (hL.rr (by decide) rfl) dX12_sails_45 rfl ?_
          refine X_iload 50 dX12_sails_48 rfl rfl ?_
          refine Y_iald 51 (k := (tn x1)) (hL.ar (t := 0) (n := 16) (by decide) rfl) c2 rfl dX12_sails_50 rfl ?_
          refine X_isub 52 dX12_sails_51 rfl ?_
          refine X_bipush 54 (v := 10) dX12_sails_52 rfl rfl ?_
          refine X_icmp_ge 85 57 dX12_sails_54 rfl rfl (fun c9 => ?_) (fun c9 => ?_)
          · have hw := hw.2 c9
            refine X_weak (ls' := [.ref 92, junk, junk, junk, junk, .int x1]) (WK.s (WK.j (WK.j (WK.j (WK.j (WK.s WK.n)))))) (Nat.le_of_ble_eq_true rfl) ?_
            exact t_X12_sails_85 hL   hw 
          · have hw := hw.1 c9
            exact t_X12_sails_57 hL   hw 
def w_X12_day_335 (L : Lay) (p0 : Int32) (p1 : Int32) (p2 : Int32) (K335 : Int32 → Int32 → Mem → Prop) (v9 : Int32) (v10 : Int32) (M : Mem) (Q : Mem → Prop) : Prop := ((v10 < (mi M 92 28) → (vp_in (((10 : Int32) * p0) + v10) 20 ∧ (vp_in ((((240 : Int32) * p0) + ((10 : Int32) * v9)) + v10) 480 ∧ (∀ M52 : Mem, M52 = si M 117 (tn ((((240 : Int32) * p0) + ((10 : Int32) * v9)) + v10)) (mi M 108 (tn (((10 : Int32) * p0) + v10))) → (vp_in p0 2 ∧ ((((mi M52 99 (tn p0)) < 0 → (∀ M57 : Mem, M57 = si M52 118 (tn ((((240 : Int32) * p0) + ((10 : Int32) * v9)) + v10)) (-1 : Int32) → (∀ x58 : Int32, x58 = v10 + (1 : Int32) → (K335 v9 x58 M57)))) ∧ (¬ (mi M52 99 (tn p0)) < 0 → (∀ M55 : Mem, M55 = si M52 118 (tn ((((240 : Int32) * p0) + ((10 : Int32) * v9)) + v10)) (mi M52 109 (tn (((10 : Int32) * p0) + v10))) → (∀ x56 : Int32, x56 = v10 + (1 : Int32) → (K335 v9 x56 M55))))))))))) ∧ (¬ v10 < (mi M 92 28) → (((p0 = 0 → (vp_in v9 24 ∧ (∀ M49 : Mem, M49 = si M 128 (tn v9) (mi M 99 0) → (Q M49)))) ∧ (¬ p0 = 0 → (Q M))))))
set_option maxRecDepth 20000 in
theorem t_X12_day_335 {L : Lay} (hL : LY L) {p0 : Int32} {p1 : Int32} {p2 : Int32}  {K335 : Int32 → Int32 → Mem → Prop} {v9 : Int32} {v10 : Int32}  {M : Mem} {Q : Mem → Prop} (hw : w_X12_day_335 L p0 p1 p2 K335 v9 v10 M Q) (hK335 : ∀ (v9 : Int32) (v10 : Int32) (M : Mem), K335 v9 v10 M → X (FM (QV L Q)) RX12 cX12_day none 11 "day" 7 0 0 (L, M) 335 [.ref 92, .int p0, junk, junk, junk, junk, junk, junk, junk, .int v9, .int v10] []) : X (FM (QV L Q)) RX12 cX12_day none 11 "day" 7 0 0 (L, M) 335 [.ref 92, .int p0, junk, junk, junk, junk, junk, junk, junk, .int v9, .int v10] [] := by
  unfold w_X12_day_335 at hw
  refine X_iload 337 dX12_day_335 rfl rfl ?_
  refine X_aload_n 338 dX12_day_337 rfl rfl ?_
  refine X_getI 341 f_X12_210 (hL.ob (c := 12) (by decide) rfl) rfl dX12_day_338 rfl ?_
  refine X_icmp_ge 425 344 dX12_day_341 rfl rfl (fun c46 => ?_) (fun c46 => ?_)
  · have hw := hw.2 c46
    refine X_iload_n 426 dX12_day_425 rfl rfl ?_
    refine X_if_ne 442 429 (y := 0) dX12_day_426 rfl rfl (fun c47 => ?_) (fun c47 => ?_)
    · have hw := hw.2 c47
      exact X_retV rfl dX12_day_442 ⟨_, rfl, rfl, hw⟩
    · have hw := hw.1 c47
      refine X_aload_n 430 dX12_day_429 rfl rfl ?_
      refine X_getR 433 f_X12_116 (hL.ob (c := 12) (by decide) rfl) rfl (hL.rr (by decide) rfl) dX12_day_430 rfl ?_
      refine X_iload 435 dX12_day_433 rfl rfl ?_
      refine X_aload_n 436 dX12_day_435 rfl rfl ?_
      refine X_getR 439 f_X12_28 (hL.ob (c := 12) (by decide) rfl) rfl (hL.rr (by decide) rfl) dX12_day_436 rfl ?_
      refine X_iconst 440 (v := 0) dX12_day_439 rfl rfl ?_
      refine Y_iald 441 (k := 0) (hL.ar (t := 0) (n := 2) (by decide) rfl) (vlit (by decide)) (by decide) dX12_day_440 rfl ?_
      obtain ⟨c48, hw⟩ := hw
      refine Y_iast 442 (k := (tn v9)) (hL.ar (t := 0) (n := 24) (by decide) rfl) c48 rfl dX12_day_441 rfl ?_
      refine X_nmM (fun M49 eM49 => ?_)
      have hw := hw M49 eM49
      exact X_retV rfl dX12_day_442 ⟨_, rfl, rfl, hw⟩
  · have hw := hw.1 c46
    refine X_aload_n 345 dX12_day_344 rfl rfl ?_
    refine X_getR 348 f_X12_83 (hL.ob (c := 12) (by decide) rfl) rfl (hL.rr (by decide) rfl) dX12_day_345 rfl ?_
    refine X_sipush 351 (v := 240) dX12_day_348 rfl rfl ?_
    refine X_iload_n 352 dX12_day_351 rfl rfl ?_
    refine X_imul 353 dX12_day_352 rfl ?_
    refine X_bipush 355 (v := 10) dX12_day_353 rfl rfl ?_
    refine X_iload 357 dX12_day_355 rfl rfl ?_
    refine X_imul 358 dX12_day_357 rfl ?_
    refine X_iadd 359 dX12_day_358 rfl ?_
    refine X_iload 361 dX12_day_359 rfl rfl ?_
    refine X_iadd 362 dX12_day_361 rfl ?_
    refine X_aload_n 363 dX12_day_362 rfl rfl ?_
    refine X_getR 366 f_X12_55 (hL.ob (c := 12) (by decide) rfl) rfl (hL.rr (by decide) rfl) dX12_day_363 rfl ?_
    refine X_bipush 368 (v := 10) dX12_day_366 rfl rfl ?_
    refine X_iload_n 369 dX12_day_368 rfl rfl ?_
    refine X_imul 370 dX12_day_369 rfl ?_
    refine X_iload 372 dX12_day_370 rfl rfl ?_
    refine X_iadd 373 dX12_day_372 rfl ?_
    obtain ⟨c50, hw⟩ := hw
    refine Y_iald 374 (k := (tn (((10 : Int32) * p0) + v10))) (hL.ar (t := 0) (n := 20) (by decide) rfl) c50 rfl dX12_day_373 rfl ?_
    obtain ⟨c51, hw⟩ := hw
    refine Y_iast 375 (k := (tn ((((240 : Int32) * p0) + ((10 : Int32) * v9)) + v10))) (hL.ar (t := 0) (n := 480) (by decide) rfl) c51 rfl dX12_day_374 rfl ?_
    refine X_nmM (fun M52 eM52 => ?_)
    have hw := hw M52 eM52
    refine X_aload_n 376 dX12_day_375 rfl rfl ?_
    refine X_getR 379 f_X12_86 (hL.ob (c := 12) (by decide) rfl) rfl (hL.rr (by decide) rfl) dX12_day_376 rfl ?_
    refine X_sipush 382 (v := 240) dX12_day_379 rfl rfl ?_
    refine X_iload_n 383 dX12_day_382 rfl rfl ?_
    refine X_imul 384 dX12_day_383 rfl ?_
    refine X_bipush 386 (v := 10) dX12_day_384 rfl rfl ?_
    refine X_iload 388 dX12_day_386 rfl rfl ?_
    refine X_imul 389 dX12_day_388 rfl ?_
    refine X_iadd 390 dX12_day_389 rfl ?_
    refine X_iload 392 dX12_day_390 rfl rfl ?_
    refine X_iadd 393 dX12_day_392 rfl ?_
    refine X_aload_n 394 dX12_day_393 rfl rfl ?_
    refine X_getR 397 f_X12_28 (hL.ob (c := 12) (by decide) rfl) rfl (hL.rr (by decide) rfl) dX12_day_394 rfl ?_
    refine X_iload_n 398 dX12_day_397 rfl rfl ?_
    obtain ⟨c53, hw⟩ := hw
    refine Y_iald 399 (k := (tn p0)) (hL.ar (t := 0) (n := 2) (by decide) rfl) c53 rfl dX12_day_398 rfl ?_
    refine X_if_ge 406 402 (y := 0) dX12_day_399 rfl rfl (fun c54 => ?_) (fun c54 => ?_)
    · have hw := hw.2 c54
      refine X_aload_n 407 dX12_day_406 rfl rfl ?_
      refine X_getR 410 f_X12_58 (hL.ob (c := 12) (by decide) rfl) rfl (hL.rr (by decide) rfl) dX12_day_407 rfl ?_
      refine X_bipush 412 (v := 10) dX12_day_410 rfl rfl ?_
      refine X_iload_n 413 dX12_day_412 rfl rfl ?_
      refine X_imul 414 dX12_day_413 rfl ?_
      refine X_iload 416 dX12_day_414 rfl rfl ?_
      refine X_iadd 417 dX12_day_416 rfl ?_
      refine Y_iald 418 (k := (tn (((10 : Int32) * p0) + v10))) (hL.ar (t := 0) (n := 20) (by decide) rfl) c50 rfl dX12_day_417 rfl ?_
      refine Y_iast 419 (k := (tn ((((240 : Int32) * p0) + ((10 : Int32) * v9)) + v10))) (hL.ar (t := 0) (n := 480) (by decide) rfl) c51 rfl dX12_day_418 rfl ?_
      refine X_nmM (fun M55 eM55 => ?_)
      have hw := hw M55 eM55
      obtain ⟨x56, ex56⟩ : ∃ x56 : Int32, x56 = v10 + (1 : Int32) := ⟨_, rfl⟩
      have hw := hw x56 ex56
      refine X_iinc 422 (v := x56) (ls' := [.ref 92, .int p0, junk, junk, junk, junk, junk, junk, junk, .int v9, .int x56]) dX12_day_419 rfl rfl (by rw [ex56]; rfl) rfl (Or.inr (Or.inr ⟨_, rfl, rfl⟩)) ?_
      refine X_goto 335 dX12_day_422 rfl ?_
      exact hK335 v9 x56 M55 hw
    · have hw := hw.1 c54
      refine X_iconst 403 (v := -1) dX12_day_402 rfl rfl ?_
      refine X_goto 418 dX12_day_403 rfl ?_
      refine Y_iast 419 (k := (tn ((((240 : Int32) * p0) + ((10 : Int32) * v9)) + v10))) (hL.ar (t := 0) (n := 480) (by decide) rfl) c51 rfl dX12_day_418 rfl ?_
      refine X_nmM (fun M57 eM57 => ?_)
      have hw := hw M57 eM57
      obtain ⟨x58, ex58⟩ : ∃ x58 : Int32, x58 = v10 + (1 : Int32) := ⟨_, rfl⟩
      have hw := hw x58 ex58
      refine X_iinc 422 (v := x58) (ls' := [.ref 92, .int p0, junk, junk, junk, junk, junk, junk, junk, .int v9, .int x58]) dX12_day_419 rfl rfl (by rw [ex58]; rfl) rfl (Or.inr (Or.inr ⟨_, rfl, rfl⟩)) ?_
      refine X_goto 335 dX12_day_422 rfl ?_
      exact hK335 v9 x58 M57 hw
def w_X12_day_306 (L : Lay) (p0 : Int32) (p1 : Int32) (p2 : Int32)  (v4 : Int32) (M : Mem) (Q : Mem → Prop) : Prop := vp_in p0 2 ∧ (∀ M43 : Mem, M43 = si M 93 (tn p0) v4 → ((((jrem v4 (30 : Int32)) = 0 → (∀ x45 : Int32, x45 = ((v4 / (30 : Int32)) - (1 : Int32)) → (LP3 (fun K335 v9 v10 M => w_X12_day_335 L p0 p1 p2  K335 v9 v10 M Q) x45 (0 : Int32) M43))) ∧ (¬ (jrem v4 (30 : Int32)) = 0 → (Q M43)))))
set_option maxRecDepth 20000 in
theorem t_X12_day_306 {L : Lay} (hL : LY L) {p0 : Int32} {p1 : Int32} {p2 : Int32}   {v4 : Int32}  {M : Mem} {Q : Mem → Prop} (hw : w_X12_day_306 L p0 p1 p2  v4 M Q)  : X (FM (QV L Q)) RX12 cX12_day none 11 "day" 7 0 0 (L, M) 306 [.ref 92, .int p0, junk, junk, .int v4, junk, junk, junk, junk, junk, junk] [] := by
  unfold w_X12_day_306 at hw
  refine X_aload_n 307 dX12_day_306 rfl rfl ?_
  refine X_getR 310 f_X12_7 (hL.ob (c := 12) (by decide) rfl) rfl (hL.rr (by decide) rfl) dX12_day_307 rfl ?_
  refine X_iload_n 311 dX12_day_310 rfl rfl ?_
  refine X_iload 313 dX12_day_311 rfl rfl ?_
  obtain ⟨c42, hw⟩ := hw
  refine Y_iast 314 (k := (tn p0)) (hL.ar (t := 0) (n := 2) (by decide) rfl) c42 rfl dX12_day_313 rfl ?_
  refine X_nmM (fun M43 eM43 => ?_)
  have hw := hw M43 eM43
  refine X_iload 316 dX12_day_314 rfl rfl ?_
  refine X_bipush 318 (v := 30) dX12_day_316 rfl rfl ?_
  refine Y_irem 319 dX12_day_318 rfl (by decide) ?_
  refine X_if_eq 323 322 (y := 0) dX12_day_319 rfl rfl (fun c44 => ?_) (fun c44 => ?_)
  · have hw := hw.1 c44
    refine X_iload 325 dX12_day_323 rfl rfl ?_
    refine X_bipush 327 (v := 30) dX12_day_325 rfl rfl ?_
    refine X_idiv 328 dX12_day_327 rfl (by decide) ?_
    refine X_iconst 329 (v := 1) dX12_day_328 rfl rfl ?_
    refine X_isub 330 dX12_day_329 rfl ?_
    refine X_nmI (fun x45 ex45 => ?_)
    have hw := hw x45 ex45
    refine X_istore 332 (ls' := [.ref 92, .int p0, junk, junk, .int v4, junk, junk, junk, junk, .int x45, junk]) dX12_day_330 rfl (Nat.le_of_ble_eq_true rfl) rfl (Or.inr (Or.inl rfl)) ?_
    refine X_iconst 333 (v := 0) dX12_day_332 rfl rfl ?_
    refine X_istore 335 (ls' := [.ref 92, .int p0, junk, junk, .int v4, junk, junk, junk, junk, .int x45, .int (0 : Int32)]) dX12_day_333 rfl (Nat.le_of_ble_eq_true rfl) rfl (Or.inr (Or.inr ⟨_, rfl, rfl⟩)) ?_
    refine X_weak (ls' := [.ref 92, .int p0, junk, junk, junk, junk, junk, junk, junk, .int x45, .int (0 : Int32)]) (WK.s (WK.s (WK.s (WK.s (WK.j (WK.s (WK.s (WK.s (WK.s (WK.s (WK.s WK.n))))))))))) (Nat.le_of_ble_eq_true rfl) ?_
    exact LP3_s hw (G := fun v9 v10 M => X (FM (QV L Q)) RX12 cX12_day none 11 "day" 7 0 0 (L, M) 335 [.ref 92, .int p0, junk, junk, junk, junk, junk, junk, junk, .int v9, .int v10] []) (fun K335 v9 v10 M hb hK => t_X12_day_335 hL  hb  hK)
  · have hw := hw.2 c44
    exact X_retV rfl dX12_day_322 ⟨_, rfl, rfl, hw⟩
def w_X12_day_266 (L : Lay) (p0 : Int32) (p1 : Int32) (p2 : Int32)  (v4 : Int32) (v8 : Int32) (y0 : Int32) (y1 : Int32) (y2 : Int32) (M : Mem) (Q : Mem → Prop) : Prop := vp_in y2 2 ∧ (∀ M34 : Mem, M34 = si M 96 (tn y2) (y1 - y0) → (∀ x35 : Int32, x35 = (if v8 = 0 then (1 : Int32) else (0 : Int32)) → (vp_in (((721 : Int32) * p0) + v4) 1442 ∧ (∀ M37 : Mem, M37 = si M34 119 (tn (((721 : Int32) * p0) + v4)) (narZ x35) → (((v8 = 0 → (vp_in p0 2 ∧ (∀ M40 : Mem, M40 = si M37 106 (tn p0) ((mi M37 106 (tn p0)) + (1 : Int32)) → (w_X12_day_306 L p0 p1 p2  v4 M40 Q)))) ∧ (¬ v8 = 0 → (w_X12_day_306 L p0 p1 p2  v4 M37 Q))))))))
set_option maxRecDepth 20000 in
theorem t_X12_day_266 {L : Lay} (hL : LY L) {p0 : Int32} {p1 : Int32} {p2 : Int32}   {v4 : Int32} {v8 : Int32} {y0 : Int32} {y1 : Int32} {y2 : Int32}  {M : Mem} {Q : Mem → Prop} (hw : w_X12_day_266 L p0 p1 p2  v4 v8 y0 y1 y2 M Q)  : X (FM (QV L Q)) RX12 cX12_day none 11 "day" 7 0 0 (L, M) 266 [.ref 92, .int p0, junk, junk, .int v4, junk, junk, junk, .int v8, junk, junk] [.int y0, .int y1, .int y2, .ref 96] := by
  unfold w_X12_day_266 at hw
  refine X_isub 267 dX12_day_266 rfl ?_
  obtain ⟨c33, hw⟩ := hw
  refine Y_iast 268 (k := (tn y2)) (hL.ar (t := 0) (n := 2) (by decide) rfl) c33 rfl dX12_day_267 rfl ?_
  refine X_nmM (fun M34 eM34 => ?_)
  have hw := hw M34 eM34
  refine X_aload_n 269 dX12_day_268 rfl rfl ?_
  refine X_getR 272 f_X12_89 (hL.ob (c := 12) (by decide) rfl) rfl (hL.rr (by decide) rfl) dX12_day_269 rfl ?_
  refine X_sipush 275 (v := 721) dX12_day_272 rfl rfl ?_
  refine X_iload_n 276 dX12_day_275 rfl rfl ?_
  refine X_imul 277 dX12_day_276 rfl ?_
  refine X_iload 279 dX12_day_277 rfl rfl ?_
  refine X_iadd 280 dX12_day_279 rfl ?_
  refine X_iload 282 dX12_day_280 rfl rfl ?_
  obtain ⟨x35, ex35⟩ : ∃ x35 : Int32, x35 = (if v8 = 0 then (1 : Int32) else (0 : Int32)) := ⟨_, rfl⟩
  have hw := hw x35 ex35
  have bx35 : BZ x35 := by rw [ex35]; (repeat' split) <;> first | exact Or.inl rfl | exact Or.inr rfl
  have hJ : X (FM (QV L Q)) RX12 cX12_day none 11 "day" 7 0 0 (L, M34) 290 [.ref 92, .int p0, junk, junk, .int v4, junk, junk, junk, .int v8, junk, junk] [.int x35, .int ((((721 : Int32) * p0) + v4)), .ref 119] := by
    obtain ⟨c36, hw⟩ := hw
    refine Y_zast 291 (k := (tn (((721 : Int32) * p0) + v4))) (hL.ar (t := 1) (n := 1442) (by decide) rfl) c36 rfl dX12_day_290 rfl ?_
    refine X_nmM (fun M37 eM37 => ?_)
    have hw := hw M37 eM37
    refine X_iload 293 dX12_day_291 rfl rfl ?_
    refine X_if_ne 306 296 (y := 0) dX12_day_293 rfl rfl (fun c38 => ?_) (fun c38 => ?_)
    · have hw := hw.2 c38
      refine X_weak (ls' := [.ref 92, .int p0, junk, junk, .int v4, junk, junk, junk, junk, junk, junk]) (WK.s (WK.s (WK.s (WK.s (WK.s (WK.s (WK.s (WK.s (WK.j (WK.s (WK.s WK.n))))))))))) (Nat.le_of_ble_eq_true rfl) ?_
      exact t_X12_day_306 hL   hw 
    · have hw := hw.1 c38
      refine X_aload_n 297 dX12_day_296 rfl rfl ?_
      refine X_getR 300 f_X12_49 (hL.ob (c := 12) (by decide) rfl) rfl (hL.rr (by decide) rfl) dX12_day_297 rfl ?_
      refine X_iload_n 301 dX12_day_300 rfl rfl ?_
      refine X_dup2 302 dX12_day_301 rfl rfl rfl ?_
      obtain ⟨c39, hw⟩ := hw
      refine Y_iald 303 (k := (tn p0)) (hL.ar (t := 0) (n := 2) (by decide) rfl) c39 rfl dX12_day_302 rfl ?_
      refine X_iconst 304 (v := 1) dX12_day_303 rfl rfl ?_
      refine X_iadd 305 dX12_day_304 rfl ?_
      refine Y_iast 306 (k := (tn p0)) (hL.ar (t := 0) (n := 2) (by decide) rfl) c39 rfl dX12_day_305 rfl ?_
      refine X_nmM (fun M40 eM40 => ?_)
      have hw := hw M40 eM40
      refine X_weak (ls' := [.ref 92, .int p0, junk, junk, .int v4, junk, junk, junk, junk, junk, junk]) (WK.s (WK.s (WK.s (WK.s (WK.s (WK.s (WK.s (WK.s (WK.j (WK.s (WK.s WK.n))))))))))) (Nat.le_of_ble_eq_true rfl) ?_
      exact t_X12_day_306 hL   hw 
  refine X_if_ne 289 285 (y := 0) dX12_day_282 rfl rfl (fun c41 => ?_) (fun c41 => ?_)
  · refine X_iconst 290 (v := 0) dX12_day_289 rfl rfl ?_
    rw [if_neg c41] at ex35
    rw [ex35] at hJ
    exact hJ
  · refine X_iconst 286 (v := 1) dX12_day_285 rfl rfl ?_
    refine X_goto 290 dX12_day_286 rfl ?_
    rw [if_pos c41] at ex35
    rw [ex35] at hJ
    exact hJ
def w_X12_day_223 (L : Lay) (p0 : Int32) (p1 : Int32) (p2 : Int32)  (v4 : Int32) (y0 : Int32) (M : Mem) (Q : Mem → Prop) : Prop := vp_in p0 2 ∧ (∀ x30 : Int32, x30 = (if (mi M 96 (tn p0)) < y0 then (0 : Int32) else (1 : Int32)) → (((x30 = 0 → (w_X12_day_266 L p0 p1 p2  v4 x30 (mi M 96 (tn p0)) (mi M 96 (tn p0)) p0 M Q)) ∧ (¬ x30 = 0 → (w_X12_day_266 L p0 p1 p2  v4 x30 y0 (mi M 96 (tn p0)) p0 M Q)))))
set_option maxRecDepth 20000 in
theorem t_X12_day_223 {L : Lay} (hL : LY L) {p0 : Int32} {p1 : Int32} {p2 : Int32}   {v4 : Int32} {y0 : Int32}  {M : Mem} {Q : Mem → Prop} (hw : w_X12_day_223 L p0 p1 p2  v4 y0 M Q)  : X (FM (QV L Q)) RX12 cX12_day none 11 "day" 7 0 0 (L, M) 223 [.ref 92, .int p0, junk, junk, .int v4, junk, junk, junk, junk, junk, junk] [.int y0] := by
  unfold w_X12_day_223 at hw
  refine X_istore 225 (ls' := [.ref 92, .int p0, junk, junk, .int v4, junk, junk, .int y0, junk, junk, junk]) dX12_day_223 rfl (Nat.le_of_ble_eq_true rfl) rfl (Or.inr (Or.inl rfl)) ?_
  refine X_aload_n 226 dX12_day_225 rfl rfl ?_
  refine X_getR 229 f_X12_19 (hL.ob (c := 12) (by decide) rfl) rfl (hL.rr (by decide) rfl) dX12_day_226 rfl ?_
  refine X_iload_n 230 dX12_day_229 rfl rfl ?_
  obtain ⟨c29, hw⟩ := hw
  refine Y_iald 231 (k := (tn p0)) (hL.ar (t := 0) (n := 2) (by decide) rfl) c29 rfl dX12_day_230 rfl ?_
  refine X_iload 233 dX12_day_231 rfl rfl ?_
  obtain ⟨x30, ex30⟩ : ∃ x30 : Int32, x30 = (if (mi M 96 (tn p0)) < y0 then (0 : Int32) else (1 : Int32)) := ⟨_, rfl⟩
  have hw := hw x30 ex30
  have bx30 : BZ x30 := by rw [ex30]; (repeat' split) <;> first | exact Or.inl rfl | exact Or.inr rfl
  have hJ : X (FM (QV L Q)) RX12 cX12_day none 11 "day" 7 0 0 (L, M) 241 [.ref 92, .int p0, junk, junk, .int v4, junk, junk, .int y0, junk, junk, junk] [.int x30] := by
    refine X_istore 243 (ls' := [.ref 92, .int p0, junk, junk, .int v4, junk, junk, .int y0, .int x30, junk, junk]) dX12_day_241 rfl (Nat.le_of_ble_eq_true rfl) rfl (Or.inr (Or.inr ⟨_, rfl, rfl⟩)) ?_
    refine X_aload_n 244 dX12_day_243 rfl rfl ?_
    refine X_getR 247 f_X12_19 (hL.ob (c := 12) (by decide) rfl) rfl (hL.rr (by decide) rfl) dX12_day_244 rfl ?_
    refine X_iload_n 248 dX12_day_247 rfl rfl ?_
    refine X_dup2 249 dX12_day_248 rfl rfl rfl ?_
    refine Y_iald 250 (k := (tn p0)) (hL.ar (t := 0) (n := 2) (by decide) rfl) c29 rfl dX12_day_249 rfl ?_
    refine X_iload 252 dX12_day_250 rfl rfl ?_
    refine X_if_eq 260 255 (y := 0) dX12_day_252 rfl rfl (fun c31 => ?_) (fun c31 => ?_)
    · have hw := hw.1 c31
      refine X_aload_n 261 dX12_day_260 rfl rfl ?_
      refine X_getR 264 f_X12_19 (hL.ob (c := 12) (by decide) rfl) rfl (hL.rr (by decide) rfl) dX12_day_261 rfl ?_
      refine X_iload_n 265 dX12_day_264 rfl rfl ?_
      refine Y_iald 266 (k := (tn p0)) (hL.ar (t := 0) (n := 2) (by decide) rfl) c29 rfl dX12_day_265 rfl ?_
      refine X_weak (ls' := [.ref 92, .int p0, junk, junk, .int v4, junk, junk, junk, .int x30, junk, junk]) (WK.s (WK.s (WK.s (WK.s (WK.s (WK.s (WK.s (WK.j (WK.s (WK.s (WK.s WK.n))))))))))) (Nat.le_of_ble_eq_true rfl) ?_
      exact t_X12_day_266 hL   hw 
    · have hw := hw.2 c31
      refine X_iload 257 dX12_day_255 rfl rfl ?_
      refine X_goto 266 dX12_day_257 rfl ?_
      refine X_weak (ls' := [.ref 92, .int p0, junk, junk, .int v4, junk, junk, junk, .int x30, junk, junk]) (WK.s (WK.s (WK.s (WK.s (WK.s (WK.s (WK.s (WK.j (WK.s (WK.s (WK.s WK.n))))))))))) (Nat.le_of_ble_eq_true rfl) ?_
      exact t_X12_day_266 hL   hw 
  refine X_icmp_lt 240 236 dX12_day_233 rfl rfl (fun c32 => ?_) (fun c32 => ?_)
  · refine X_iconst 241 (v := 0) dX12_day_240 rfl rfl ?_
    rw [if_pos c32] at ex30
    rw [ex30] at hJ
    exact hJ
  · refine X_iconst 237 (v := 1) dX12_day_236 rfl rfl ?_
    refine X_goto 241 dX12_day_237 rfl ?_
    rw [if_neg c32] at ex30
    rw [ex30] at hJ
    exact hJ
def w_X12_day_174 (L : Lay) (p0 : Int32) (p1 : Int32) (p2 : Int32) (K174 : Int32 → Int32 → Int32 → Mem → Prop) (v4 : Int32) (v5 : Int32) (v7 : Int32) (M : Mem) (Q : Mem → Prop) : Prop := ((v7 < (mi M 92 34) → (w_X12_sails L p0 v7 v4 v5 M (fun M27 => (∀ x28 : Int32, x28 = v7 + (1 : Int32) → (K174 v4 v5 x28 M27))))) ∧ (¬ v7 < (mi M 92 34) → (((v5 = (3 : Int32) → (vp_in p0 2 ∧ (w_X12_day_223 L p0 p1 p2  v4 ((2 : Int32) * (mi M 97 (tn p0))) M Q))) ∧ (¬ v5 = (3 : Int32) → (vp_in p0 2 ∧ (w_X12_day_223 L p0 p1 p2  v4 (mi M 97 (tn p0)) M Q)))))))
set_option maxRecDepth 20000 in
theorem t_X12_day_174 {L : Lay} (hL : LY L) {p0 : Int32} {p1 : Int32} {p2 : Int32}  {K174 : Int32 → Int32 → Int32 → Mem → Prop} {v4 : Int32} {v5 : Int32} {v7 : Int32}  {M : Mem} {Q : Mem → Prop} (hw : w_X12_day_174 L p0 p1 p2 K174 v4 v5 v7 M Q) (hK174 : ∀ (v4 : Int32) (v5 : Int32) (v7 : Int32) (M : Mem), K174 v4 v5 v7 M → X (FM (QV L Q)) RX12 cX12_day none 11 "day" 7 0 0 (L, M) 174 [.ref 92, .int p0, junk, junk, .int v4, .int v5, junk, .int v7, junk, junk, junk] []) : X (FM (QV L Q)) RX12 cX12_day none 11 "day" 7 0 0 (L, M) 174 [.ref 92, .int p0, junk, junk, .int v4, .int v5, junk, .int v7, junk, junk, junk] [] := by
  unfold w_X12_day_174 at hw
  refine X_iload 176 dX12_day_174 rfl rfl ?_
  refine X_aload_n 177 dX12_day_176 rfl rfl ?_
  refine X_getI 180 f_X12_221 (hL.ob (c := 12) (by decide) rfl) rfl dX12_day_177 rfl ?_
  refine X_icmp_ge 200 183 dX12_day_180 rfl rfl (fun c23 => ?_) (fun c23 => ?_)
  · have hw := hw.2 c23
    refine X_iload 202 dX12_day_200 rfl rfl ?_
    refine X_iconst 203 (v := 3) dX12_day_202 rfl rfl ?_
    refine X_icmp_ne 217 206 dX12_day_203 rfl rfl (fun c24 => ?_) (fun c24 => ?_)
    · have hw := hw.2 c24
      refine X_aload_n 218 dX12_day_217 rfl rfl ?_
      refine X_getR 221 f_X12_22 (hL.ob (c := 12) (by decide) rfl) rfl (hL.rr (by decide) rfl) dX12_day_218 rfl ?_
      refine X_iload_n 222 dX12_day_221 rfl rfl ?_
      obtain ⟨c25, hw⟩ := hw
      refine Y_iald 223 (k := (tn p0)) (hL.ar (t := 0) (n := 2) (by decide) rfl) c25 rfl dX12_day_222 rfl ?_
      refine X_weak (ls' := [.ref 92, .int p0, junk, junk, .int v4, junk, junk, junk, junk, junk, junk]) (WK.s (WK.s (WK.s (WK.s (WK.s (WK.j (WK.s (WK.j (WK.s (WK.s (WK.s WK.n))))))))))) (Nat.le_of_ble_eq_true rfl) ?_
      exact t_X12_day_223 hL   hw 
    · have hw := hw.1 c24
      refine X_iconst 207 (v := 2) dX12_day_206 rfl rfl ?_
      refine X_aload_n 208 dX12_day_207 rfl rfl ?_
      refine X_getR 211 f_X12_22 (hL.ob (c := 12) (by decide) rfl) rfl (hL.rr (by decide) rfl) dX12_day_208 rfl ?_
      refine X_iload_n 212 dX12_day_211 rfl rfl ?_
      obtain ⟨c26, hw⟩ := hw
      refine Y_iald 213 (k := (tn p0)) (hL.ar (t := 0) (n := 2) (by decide) rfl) c26 rfl dX12_day_212 rfl ?_
      refine X_imul 214 dX12_day_213 rfl ?_
      refine X_goto 223 dX12_day_214 rfl ?_
      refine X_weak (ls' := [.ref 92, .int p0, junk, junk, .int v4, junk, junk, junk, junk, junk, junk]) (WK.s (WK.s (WK.s (WK.s (WK.s (WK.j (WK.s (WK.j (WK.s (WK.s (WK.s WK.n))))))))))) (Nat.le_of_ble_eq_true rfl) ?_
      exact t_X12_day_223 hL   hw 
  · have hw := hw.1 c23
    refine X_aload_n 184 dX12_day_183 rfl rfl ?_
    refine X_iload_n 185 dX12_day_184 rfl rfl ?_
    refine X_iload 187 dX12_day_185 rfl rfl ?_
    refine X_iload 189 dX12_day_187 rfl rfl ?_
    refine X_iload 191 dX12_day_189 rfl rfl ?_
    refine Y_cVV 194 (as := [.int p0, .int v7, .int v4, .int v5]) m_X12_422 (s_X12_sails hL  hw) (hL.ob (c := 12) (by decide) rfl) rfl (by decide) (Nat.le_of_ble_eq_true rfl) dX12_day_191 rfl rfl (fun M27 hw => ?_)
    obtain ⟨x28, ex28⟩ : ∃ x28 : Int32, x28 = v7 + (1 : Int32) := ⟨_, rfl⟩
    have hw := hw x28 ex28
    refine X_iinc 197 (v := x28) (ls' := [.ref 92, .int p0, junk, junk, .int v4, .int v5, junk, .int x28, junk, junk, junk]) dX12_day_194 rfl rfl (by rw [ex28]; rfl) rfl (Or.inr (Or.inl rfl)) ?_
    refine X_goto 174 dX12_day_197 rfl ?_
    exact hK174 v4 v5 x28 M27 hw
def w_X12_day_171 (L : Lay) (p0 : Int32) (p1 : Int32) (p2 : Int32)  (v4 : Int32) (v5 : Int32) (M : Mem) (Q : Mem → Prop) : Prop := LP4 (fun K174 v4 v5 v7 M => w_X12_day_174 L p0 p1 p2  K174 v4 v5 v7 M Q) v4 v5 (0 : Int32) M
set_option maxRecDepth 20000 in
theorem t_X12_day_171 {L : Lay} (hL : LY L) {p0 : Int32} {p1 : Int32} {p2 : Int32}   {v4 : Int32} {v5 : Int32}  {M : Mem} {Q : Mem → Prop} (hw : w_X12_day_171 L p0 p1 p2  v4 v5 M Q)  : X (FM (QV L Q)) RX12 cX12_day none 11 "day" 7 0 0 (L, M) 171 [.ref 92, .int p0, junk, junk, .int v4, .int v5, junk, junk, junk, junk, junk] [] := by
  unfold w_X12_day_171 at hw
  refine X_iconst 172 (v := 0) dX12_day_171 rfl rfl ?_
  refine X_istore 174 (ls' := [.ref 92, .int p0, junk, junk, .int v4, .int v5, junk, .int (0 : Int32), junk, junk, junk]) dX12_day_172 rfl (Nat.le_of_ble_eq_true rfl) rfl (Or.inr (Or.inl rfl)) ?_
  exact LP4_s hw (G := fun v4 v5 v7 M => X (FM (QV L Q)) RX12 cX12_day none 11 "day" 7 0 0 (L, M) 174 [.ref 92, .int p0, junk, junk, .int v4, .int v5, junk, .int v7, junk, junk, junk] []) (fun K174 v4 v5 v7 M hb hK => t_X12_day_174 hL  hb  hK)
def w_X12_day_142 (L : Lay) (p0 : Int32) (p1 : Int32) (p2 : Int32) (K142 : Int32 → Int32 → Int32 → Int32 → Mem → Prop) (v4 : Int32) (v5 : Int32) (v6 : Int32) (v7 : Int32) (M : Mem) (Q : Mem → Prop) : Prop := vp_in p0 2 ∧ (((v7 < (mi M 94 (tn p0)) → (((v6 = 0 → (w_X12_day_171 L p0 p1 p2  v4 v5 M Q)) ∧ (¬ v6 = 0 → (w_X12_loads L p0 M (fun x21 M20 => (∀ x22 : Int32, x22 = v7 + (1 : Int32) → (K142 v4 v5 x21 x22 M20)))))))) ∧ (¬ v7 < (mi M 94 (tn p0)) → (w_X12_day_171 L p0 p1 p2  v4 v5 M Q))))
set_option maxRecDepth 20000 in
theorem t_X12_day_142 {L : Lay} (hL : LY L) {p0 : Int32} {p1 : Int32} {p2 : Int32}  {K142 : Int32 → Int32 → Int32 → Int32 → Mem → Prop} {v4 : Int32} {v5 : Int32} {v6 : Int32} {v7 : Int32}  {M : Mem} {Q : Mem → Prop} (hw : w_X12_day_142 L p0 p1 p2 K142 v4 v5 v6 v7 M Q) (hK142 : ∀ (v4 : Int32) (v5 : Int32) (v6 : Int32) (v7 : Int32) (M : Mem), K142 v4 v5 v6 v7 M → X (FM (QV L Q)) RX12 cX12_day none 11 "day" 7 0 0 (L, M) 142 [.ref 92, .int p0, junk, junk, .int v4, .int v5, .int v6, .int v7, junk, junk, junk] []) : X (FM (QV L Q)) RX12 cX12_day none 11 "day" 7 0 0 (L, M) 142 [.ref 92, .int p0, junk, junk, .int v4, .int v5, .int v6, .int v7, junk, junk, junk] [] := by
  unfold w_X12_day_142 at hw
  refine X_iload 144 dX12_day_142 rfl rfl ?_
  refine X_aload_n 145 dX12_day_144 rfl rfl ?_
  refine X_getR 148 f_X12_13 (hL.ob (c := 12) (by decide) rfl) rfl (hL.rr (by decide) rfl) dX12_day_145 rfl ?_
  refine X_iload_n 149 dX12_day_148 rfl rfl ?_
  obtain ⟨c17, hw⟩ := hw
  refine Y_iald 150 (k := (tn p0)) (hL.ar (t := 0) (n := 2) (by decide) rfl) c17 rfl dX12_day_149 rfl ?_
  refine X_icmp_ge 171 153 dX12_day_150 rfl rfl (fun c18 => ?_) (fun c18 => ?_)
  · have hw := hw.2 c18
    refine X_weak (ls' := [.ref 92, .int p0, junk, junk, .int v4, .int v5, junk, junk, junk, junk, junk]) (WK.s (WK.s (WK.s (WK.s (WK.s (WK.s (WK.j (WK.j (WK.s (WK.s (WK.s WK.n))))))))))) (Nat.le_of_ble_eq_true rfl) ?_
    exact t_X12_day_171 hL   hw 
  · have hw := hw.1 c18
    refine X_iload 155 dX12_day_153 rfl rfl ?_
    refine X_if_eq 171 158 (y := 0) dX12_day_155 rfl rfl (fun c19 => ?_) (fun c19 => ?_)
    · have hw := hw.1 c19
      refine X_weak (ls' := [.ref 92, .int p0, junk, junk, .int v4, .int v5, junk, junk, junk, junk, junk]) (WK.s (WK.s (WK.s (WK.s (WK.s (WK.s (WK.j (WK.j (WK.s (WK.s (WK.s WK.n))))))))))) (Nat.le_of_ble_eq_true rfl) ?_
      exact t_X12_day_171 hL   hw 
    · have hw := hw.2 c19
      refine X_aload_n 159 dX12_day_158 rfl rfl ?_
      refine X_iload_n 160 dX12_day_159 rfl rfl ?_
      refine Y_cVZ 163 (as := [.int p0]) m_X12_420 (s_X12_loads hL  hw) (hL.ob (c := 12) (by decide) rfl) rfl (by decide) (Nat.le_of_ble_eq_true rfl) dX12_day_160 rfl rfl (fun x21 M20 bx21 hw => ?_)
      refine X_istore 165 (ls' := [.ref 92, .int p0, junk, junk, .int v4, .int v5, .int x21, .int v7, junk, junk, junk]) dX12_day_163 rfl (Nat.le_of_ble_eq_true rfl) rfl (Or.inr (Or.inr ⟨_, rfl, rfl⟩)) ?_
      obtain ⟨x22, ex22⟩ : ∃ x22 : Int32, x22 = v7 + (1 : Int32) := ⟨_, rfl⟩
      have hw := hw x22 ex22
      refine X_iinc 168 (v := x22) (ls' := [.ref 92, .int p0, junk, junk, .int v4, .int v5, .int x21, .int x22, junk, junk, junk]) dX12_day_165 rfl rfl (by rw [ex22]; rfl) rfl (Or.inr (Or.inr ⟨_, rfl, rfl⟩)) ?_
      refine X_goto 142 dX12_day_168 rfl ?_
      exact hK142 v4 v5 x21 x22 M20 hw
def w_X12_day_83 (L : Lay) (p0 : Int32) (p1 : Int32) (p2 : Int32) (K83 : Int32 → Int32 → Int32 → Mem → Prop) (v4 : Int32) (v5 : Int32) (v6 : Int32) (M : Mem) (Q : Mem → Prop) : Prop := ((v6 < (mi M 92 28) → (vp_in (((10 : Int32) * p0) + v6) 20 ∧ (vp_in v6 10 ∧ (∀ M15 : Mem, M15 = si M 107 (tn (((10 : Int32) * p0) + v6)) (jmin (9999 : Int32) ((mi M 107 (tn (((10 : Int32) * p0) + v6))) + (mi M 122 (tn v6)))) → (∀ x16 : Int32, x16 = v6 + (1 : Int32) → (K83 v4 v5 x16 M15)))))) ∧ (¬ v6 < (mi M 92 28) → (LP5 (fun K142 v4 v5 v6 v7 M => w_X12_day_142 L p0 p1 p2  K142 v4 v5 v6 v7 M Q) v4 v5 (1 : Int32) (0 : Int32) M)))
set_option maxRecDepth 20000 in
theorem t_X12_day_83 {L : Lay} (hL : LY L) {p0 : Int32} {p1 : Int32} {p2 : Int32}  {K83 : Int32 → Int32 → Int32 → Mem → Prop} {v4 : Int32} {v5 : Int32} {v6 : Int32}  {M : Mem} {Q : Mem → Prop} (hw : w_X12_day_83 L p0 p1 p2 K83 v4 v5 v6 M Q) (hK83 : ∀ (v4 : Int32) (v5 : Int32) (v6 : Int32) (M : Mem), K83 v4 v5 v6 M → X (FM (QV L Q)) RX12 cX12_day none 11 "day" 7 0 0 (L, M) 83 [.ref 92, .int p0, junk, junk, .int v4, .int v5, .int v6, junk, junk, junk, junk] []) : X (FM (QV L Q)) RX12 cX12_day none 11 "day" 7 0 0 (L, M) 83 [.ref 92, .int p0, junk, junk, .int v4, .int v5, .int v6, junk, junk, junk, junk] [] := by
  unfold w_X12_day_83 at hw
  refine X_iload 85 dX12_day_83 rfl rfl ?_
  refine X_aload_n 86 dX12_day_85 rfl rfl ?_
  refine X_getI 89 f_X12_210 (hL.ob (c := 12) (by decide) rfl) rfl dX12_day_86 rfl ?_
  refine X_icmp_ge 136 92 dX12_day_89 rfl rfl (fun c12 => ?_) (fun c12 => ?_)
  · have hw := hw.2 c12
    refine X_iconst 137 (v := 1) dX12_day_136 rfl rfl ?_
    refine X_istore 139 (ls' := [.ref 92, .int p0, junk, junk, .int v4, .int v5, .int (1 : Int32), junk, junk, junk, junk]) dX12_day_137 rfl (Nat.le_of_ble_eq_true rfl) rfl (Or.inr (Or.inr ⟨_, rfl, rfl⟩)) ?_
    refine X_iconst 140 (v := 0) dX12_day_139 rfl rfl ?_
    refine X_istore 142 (ls' := [.ref 92, .int p0, junk, junk, .int v4, .int v5, .int (1 : Int32), .int (0 : Int32), junk, junk, junk]) dX12_day_140 rfl (Nat.le_of_ble_eq_true rfl) rfl (Or.inr (Or.inr ⟨_, rfl, rfl⟩)) ?_
    exact LP5_s hw (G := fun v4 v5 v6 v7 M => X (FM (QV L Q)) RX12 cX12_day none 11 "day" 7 0 0 (L, M) 142 [.ref 92, .int p0, junk, junk, .int v4, .int v5, .int v6, .int v7, junk, junk, junk] []) (fun K142 v4 v5 v6 v7 M hb hK => t_X12_day_142 hL  hb  hK)
  · have hw := hw.1 c12
    refine X_aload_n 93 dX12_day_92 rfl rfl ?_
    refine X_getR 96 f_X12_52 (hL.ob (c := 12) (by decide) rfl) rfl (hL.rr (by decide) rfl) dX12_day_93 rfl ?_
    refine X_bipush 98 (v := 10) dX12_day_96 rfl rfl ?_
    refine X_iload_n 99 dX12_day_98 rfl rfl ?_
    refine X_imul 100 dX12_day_99 rfl ?_
    refine X_iload 102 dX12_day_100 rfl rfl ?_
    refine X_iadd 103 dX12_day_102 rfl ?_
    refine X_sipush 106 (v := 9999) dX12_day_103 rfl rfl ?_
    refine X_aload_n 107 dX12_day_106 rfl rfl ?_
    refine X_getR 110 f_X12_52 (hL.ob (c := 12) (by decide) rfl) rfl (hL.rr (by decide) rfl) dX12_day_107 rfl ?_
    refine X_bipush 112 (v := 10) dX12_day_110 rfl rfl ?_
    refine X_iload_n 113 dX12_day_112 rfl rfl ?_
    refine X_imul 114 dX12_day_113 rfl ?_
    refine X_iload 116 dX12_day_114 rfl rfl ?_
    refine X_iadd 117 dX12_day_116 rfl ?_
    obtain ⟨c13, hw⟩ := hw
    refine Y_iald 118 (k := (tn (((10 : Int32) * p0) + v6))) (hL.ar (t := 0) (n := 20) (by decide) rfl) c13 rfl dX12_day_117 rfl ?_
    refine X_aload_n 119 dX12_day_118 rfl rfl ?_
    refine X_getR 122 f_X12_98 (hL.ob (c := 12) (by decide) rfl) rfl (hL.rr (by decide) rfl) dX12_day_119 rfl ?_
    refine X_iload 124 dX12_day_122 rfl rfl ?_
    obtain ⟨c14, hw⟩ := hw
    refine Y_iald 125 (k := (tn v6)) (hL.ar (t := 0) (n := 10) (by decide) rfl) c14 rfl dX12_day_124 rfl ?_
    refine X_iadd 126 dX12_day_125 rfl ?_
    refine Y_mmin 129 l_X12_392 (by decide) (Nat.le_of_ble_eq_true rfl) dX12_day_126 rfl ?_
    refine Y_iast 130 (k := (tn (((10 : Int32) * p0) + v6))) (hL.ar (t := 0) (n := 20) (by decide) rfl) c13 rfl dX12_day_129 rfl ?_
    refine X_nmM (fun M15 eM15 => ?_)
    have hw := hw M15 eM15
    obtain ⟨x16, ex16⟩ : ∃ x16 : Int32, x16 = v6 + (1 : Int32) := ⟨_, rfl⟩
    have hw := hw x16 ex16
    refine X_iinc 133 (v := x16) (ls' := [.ref 92, .int p0, junk, junk, .int v4, .int v5, .int x16, junk, junk, junk, junk]) dX12_day_130 rfl rfl (by rw [ex16]; rfl) rfl (Or.inr (Or.inr ⟨_, rfl, rfl⟩)) ?_
    refine X_goto 83 dX12_day_133 rfl ?_
    exact hK83 v4 v5 x16 M15 hw
def w_X12_day_80 (L : Lay) (p0 : Int32) (p1 : Int32) (p2 : Int32)  (v4 : Int32) (v5 : Int32) (M : Mem) (Q : Mem → Prop) : Prop := LP4 (fun K83 v4 v5 v6 M => w_X12_day_83 L p0 p1 p2  K83 v4 v5 v6 M Q) v4 v5 (0 : Int32) M
set_option maxRecDepth 20000 in
theorem t_X12_day_80 {L : Lay} (hL : LY L) {p0 : Int32} {p1 : Int32} {p2 : Int32}   {v4 : Int32} {v5 : Int32}  {M : Mem} {Q : Mem → Prop} (hw : w_X12_day_80 L p0 p1 p2  v4 v5 M Q)  : X (FM (QV L Q)) RX12 cX12_day none 11 "day" 7 0 0 (L, M) 80 [.ref 92, .int p0, junk, junk, .int v4, .int v5, junk, junk, junk, junk, junk] [] := by
  unfold w_X12_day_80 at hw
  refine X_iconst 81 (v := 0) dX12_day_80 rfl rfl ?_
  refine X_istore 83 (ls' := [.ref 92, .int p0, junk, junk, .int v4, .int v5, .int (0 : Int32), junk, junk, junk, junk]) dX12_day_81 rfl (Nat.le_of_ble_eq_true rfl) rfl (Or.inr (Or.inr ⟨_, rfl, rfl⟩)) ?_
  exact LP4_s hw (G := fun v4 v5 v6 M => X (FM (QV L Q)) RX12 cX12_day none 11 "day" 7 0 0 (L, M) 83 [.ref 92, .int p0, junk, junk, .int v4, .int v5, .int v6, junk, junk, junk, junk] []) (fun K83 v4 v5 v6 M hb hK => t_X12_day_83 hL  hb  hK)
def w_X12_day_64 (L : Lay) (p0 : Int32) (p1 : Int32) (p2 : Int32)  (v4 : Int32) (v5 : Int32) (M : Mem) (Q : Mem → Prop) : Prop := (((jrem (v4 - (1 : Int32)) (30 : Int32)) = 0 → (w_X12_begins L p0 p2 M (fun M11 => (w_X12_day_80 L p0 p1 p2  v4 v5 M11 Q)))) ∧ (¬ (jrem (v4 - (1 : Int32)) (30 : Int32)) = 0 → (w_X12_day_80 L p0 p1 p2  v4 v5 M Q)))
set_option maxRecDepth 20000 in
theorem t_X12_day_64 {L : Lay} (hL : LY L) {p0 : Int32} {p1 : Int32} {p2 : Int32}   {v4 : Int32} {v5 : Int32}  {M : Mem} {Q : Mem → Prop} (hw : w_X12_day_64 L p0 p1 p2  v4 v5 M Q)  : X (FM (QV L Q)) RX12 cX12_day none 11 "day" 7 0 0 (L, M) 64 [.ref 92, .int p0, junk, .int p2, .int v4, .int v5, junk, junk, junk, junk, junk] [] := by
  unfold w_X12_day_64 at hw
  refine X_iload 66 dX12_day_64 rfl rfl ?_
  refine X_iconst 67 (v := 1) dX12_day_66 rfl rfl ?_
  refine X_isub 68 dX12_day_67 rfl ?_
  refine X_bipush 70 (v := 30) dX12_day_68 rfl rfl ?_
  refine Y_irem 71 dX12_day_70 rfl (by decide) ?_
  refine X_if_ne 80 74 (y := 0) dX12_day_71 rfl rfl (fun c10 => ?_) (fun c10 => ?_)
  · have hw := hw.2 c10
    refine X_weak (ls' := [.ref 92, .int p0, junk, junk, .int v4, .int v5, junk, junk, junk, junk, junk]) (WK.s (WK.s (WK.s (WK.j (WK.s (WK.s (WK.s (WK.s (WK.s (WK.s (WK.s WK.n))))))))))) (Nat.le_of_ble_eq_true rfl) ?_
    exact t_X12_day_80 hL   hw 
  · have hw := hw.1 c10
    refine X_aload_n 75 dX12_day_74 rfl rfl ?_
    refine X_iload_n 76 dX12_day_75 rfl rfl ?_
    refine X_iload_n 77 dX12_day_76 rfl rfl ?_
    refine Y_cVV 80 (as := [.int p0, .int p2]) m_X12_417 (s_X12_begins hL  hw) (hL.ob (c := 12) (by decide) rfl) rfl (by decide) (Nat.le_of_ble_eq_true rfl) dX12_day_77 rfl rfl (fun M11 hw => ?_)
    refine X_weak (ls' := [.ref 92, .int p0, junk, junk, .int v4, .int v5, junk, junk, junk, junk, junk]) (WK.s (WK.s (WK.s (WK.j (WK.s (WK.s (WK.s (WK.s (WK.s (WK.s (WK.s WK.n))))))))))) (Nat.le_of_ble_eq_true rfl) ?_
    exact t_X12_day_80 hL   hw 
def w_X12_day_25 (L : Lay) (p0 : Int32) (p1 : Int32) (p2 : Int32)  (v4 : Int32) (y0 : Int32) (M : Mem) (Q : Mem → Prop) : Prop := vp_in p0 2 ∧ ((((mi M 102 (tn p0)) = (1 : Int32) → (∀ M7 : Mem, M7 = si M 102 (tn p0) (0 : Int32) → (∀ M8 : Mem, M8 = si M7 103 (tn p0) (mi M7 92 40) → (∀ M9 : Mem, M9 = si M8 104 (tn p0) (mi M8 92 41) → (w_X12_day_64 L p0 p1 p2  v4 y0 M9 Q))))) ∧ (¬ (mi M 102 (tn p0)) = (1 : Int32) → (w_X12_day_64 L p0 p1 p2  v4 y0 M Q))))
set_option maxRecDepth 20000 in
theorem t_X12_day_25 {L : Lay} (hL : LY L) {p0 : Int32} {p1 : Int32} {p2 : Int32}   {v4 : Int32} {y0 : Int32}  {M : Mem} {Q : Mem → Prop} (hw : w_X12_day_25 L p0 p1 p2  v4 y0 M Q)  : X (FM (QV L Q)) RX12 cX12_day none 11 "day" 7 0 0 (L, M) 25 [.ref 92, .int p0, junk, .int p2, .int v4, junk, junk, junk, junk, junk, junk] [.int y0] := by
  unfold w_X12_day_25 at hw
  refine X_istore 27 (ls' := [.ref 92, .int p0, junk, .int p2, .int v4, .int y0, junk, junk, junk, junk, junk]) dX12_day_25 rfl (Nat.le_of_ble_eq_true rfl) rfl (Or.inr (Or.inr ⟨_, rfl, rfl⟩)) ?_
  refine X_aload_n 28 dX12_day_27 rfl rfl ?_
  refine X_getR 31 f_X12_37 (hL.ob (c := 12) (by decide) rfl) rfl (hL.rr (by decide) rfl) dX12_day_28 rfl ?_
  refine X_iload_n 32 dX12_day_31 rfl rfl ?_
  obtain ⟨c5, hw⟩ := hw
  refine Y_iald 33 (k := (tn p0)) (hL.ar (t := 0) (n := 2) (by decide) rfl) c5 rfl dX12_day_32 rfl ?_
  refine X_iconst 34 (v := 1) dX12_day_33 rfl rfl ?_
  refine X_icmp_ne 64 37 dX12_day_34 rfl rfl (fun c6 => ?_) (fun c6 => ?_)
  · have hw := hw.2 c6
    exact t_X12_day_64 hL   hw 
  · have hw := hw.1 c6
    refine X_aload_n 38 dX12_day_37 rfl rfl ?_
    refine X_getR 41 f_X12_37 (hL.ob (c := 12) (by decide) rfl) rfl (hL.rr (by decide) rfl) dX12_day_38 rfl ?_
    refine X_iload_n 42 dX12_day_41 rfl rfl ?_
    refine X_iconst 43 (v := 0) dX12_day_42 rfl rfl ?_
    refine Y_iast 44 (k := (tn p0)) (hL.ar (t := 0) (n := 2) (by decide) rfl) c5 rfl dX12_day_43 rfl ?_
    refine X_nmM (fun M7 eM7 => ?_)
    have hw := hw M7 eM7
    refine X_aload_n 45 dX12_day_44 rfl rfl ?_
    refine X_getR 48 f_X12_40 (hL.ob (c := 12) (by decide) rfl) rfl (hL.rr (by decide) rfl) dX12_day_45 rfl ?_
    refine X_iload_n 49 dX12_day_48 rfl rfl ?_
    refine X_aload_n 50 dX12_day_49 rfl rfl ?_
    refine X_getI 53 f_X12_364 (hL.ob (c := 12) (by decide) rfl) rfl dX12_day_50 rfl ?_
    refine Y_iast 54 (k := (tn p0)) (hL.ar (t := 0) (n := 2) (by decide) rfl) c5 rfl dX12_day_53 rfl ?_
    refine X_nmM (fun M8 eM8 => ?_)
    have hw := hw M8 eM8
    refine X_aload_n 55 dX12_day_54 rfl rfl ?_
    refine X_getR 58 f_X12_43 (hL.ob (c := 12) (by decide) rfl) rfl (hL.rr (by decide) rfl) dX12_day_55 rfl ?_
    refine X_iload_n 59 dX12_day_58 rfl rfl ?_
    refine X_aload_n 60 dX12_day_59 rfl rfl ?_
    refine X_getI 63 f_X12_367 (hL.ob (c := 12) (by decide) rfl) rfl dX12_day_60 rfl ?_
    refine Y_iast 64 (k := (tn p0)) (hL.ar (t := 0) (n := 2) (by decide) rfl) c5 rfl dX12_day_63 rfl ?_
    refine X_nmM (fun M9 eM9 => ?_)
    have hw := hw M9 eM9
    exact t_X12_day_64 hL   hw 
def w_X12_day (L : Lay) (p0 : Int32) (p1 : Int32) (p2 : Int32) (M : Mem) (Q : Mem → Prop) : Prop := vp_in p0 2 ∧ (∀ x2 : Int32, x2 = ((mi M 93 (tn p0)) + (1 : Int32)) → (((p1 = 0 → (vp_in x2 721 ∧ (w_X12_day_25 L p0 p1 p2  x2 (mi M 127 (tn x2)) M Q))) ∧ (¬ p1 = 0 → (w_X12_day_25 L p0 p1 p2  x2 (3 : Int32) M Q)))))
set_option maxRecDepth 20000 in
theorem s_X12_day {L : Lay} (hL : LY L) {p0 : Int32} {p1 : Int32} {p2 : Int32}  {M : Mem} {Q : Mem → Prop} (hw : w_X12_day L p0 p1 p2 M Q) : MX yX12_day cX12_day none 11 7 0 0 [.ref 92, .int p0, .int p1, .int p2] (L, M) (QV L Q) := by
  unfold w_X12_day at hw
  refine MX_of (by decide) [.ref 92, .int p0, .int p1, .int p2, junk, junk, junk, junk, junk, junk, junk] (by rfl) (by exact Nat.le_of_ble_eq_true rfl) ?_
  show X (FM (QV L Q)) RX12 cX12_day none 11 "day" 7 0 0 (L, M) 0 [.ref 92, .int p0, .int p1, .int p2, junk, junk, junk, junk, junk, junk, junk] []
  refine X_aload_n 1 dX12_day_0 rfl rfl ?_
  refine X_getR 4 f_X12_7 (hL.ob (c := 12) (by decide) rfl) rfl (hL.rr (by decide) rfl) dX12_day_1 rfl ?_
  refine X_iload_n 5 dX12_day_4 rfl rfl ?_
  obtain ⟨c1, hw⟩ := hw
  refine Y_iald 6 (k := (tn p0)) (hL.ar (t := 0) (n := 2) (by decide) rfl) c1 rfl dX12_day_5 rfl ?_
  refine X_iconst 7 (v := 1) dX12_day_6 rfl rfl ?_
  refine X_iadd 8 dX12_day_7 rfl ?_
  refine X_nmI (fun x2 ex2 => ?_)
  have hw := hw x2 ex2
  refine X_istore 10 (ls' := [.ref 92, .int p0, .int p1, .int p2, .int x2, junk, junk, junk, junk, junk, junk]) dX12_day_8 rfl (Nat.le_of_ble_eq_true rfl) rfl (Or.inr (Or.inr ⟨_, rfl, rfl⟩)) ?_
  refine X_iload_n 11 dX12_day_10 rfl rfl ?_
  refine X_if_eq 18 14 (y := 0) dX12_day_11 rfl rfl (fun c3 => ?_) (fun c3 => ?_)
  · have hw := hw.1 c3
    refine X_aload_n 19 dX12_day_18 rfl rfl ?_
    refine X_getR 22 f_X12_113 (hL.ob (c := 12) (by decide) rfl) rfl (hL.rr (by decide) rfl) dX12_day_19 rfl ?_
    refine X_iload 24 dX12_day_22 rfl rfl ?_
    obtain ⟨c4, hw⟩ := hw
    refine Y_iald 25 (k := (tn x2)) (hL.ar (t := 0) (n := 721) (by decide) rfl) c4 rfl dX12_day_24 rfl ?_
    refine X_weak (ls' := [.ref 92, .int p0, junk, .int p2, .int x2, junk, junk, junk, junk, junk, junk]) (WK.s (WK.s (WK.j (WK.s (WK.s (WK.s (WK.s (WK.s (WK.s (WK.s (WK.s WK.n))))))))))) (Nat.le_of_ble_eq_true rfl) ?_
    exact t_X12_day_25 hL   hw 
  · have hw := hw.2 c3
    refine X_iconst 15 (v := 3) dX12_day_14 rfl rfl ?_
    refine X_goto 25 dX12_day_15 rfl ?_
    refine X_weak (ls' := [.ref 92, .int p0, junk, .int p2, .int x2, junk, junk, junk, junk, junk, junk]) (WK.s (WK.s (WK.j (WK.s (WK.s (WK.s (WK.s (WK.s (WK.s (WK.s (WK.s WK.n))))))))))) (Nat.le_of_ble_eq_true rfl) ?_
    exact t_X12_day_25 hL   hw 
def w_X12_days_33 (L : Lay) (p0 : Int32) (K33 : Int32 → Mem → Prop) (v2 : Int32) (M : Mem) (Q : Int32 → Mem → Prop) : Prop := ((v2 < p0 → (w_X12_day L (0 : Int32) (0 : Int32) (-1 : Int32) M (fun M7 => (∀ x8 : Int32, x8 = v2 + (1 : Int32) → (K33 x8 M7))))) ∧ (¬ v2 < p0 → (Q (mi M 93 0) M)))
set_option maxRecDepth 20000 in
theorem t_X12_days_33 {L : Lay} (hL : LY L) {p0 : Int32}  {K33 : Int32 → Mem → Prop} {v2 : Int32}  {M : Mem} {Q : Int32 → Mem → Prop} (hw : w_X12_days_33 L p0 K33 v2 M Q) (hK33 : ∀ (v2 : Int32) (M : Mem), K33 v2 M → X (FM (QI L Q)) RX12 cX12_days (some .int) 3 "days" 8 0 0 (L, M) 33 [.ref 92, .int p0, .int v2] []) : X (FM (QI L Q)) RX12 cX12_days (some .int) 3 "days" 8 0 0 (L, M) 33 [.ref 92, .int p0, .int v2] [] := by
  unfold w_X12_days_33 at hw
  refine X_iload_n 34 dX12_days_33 rfl rfl ?_
  refine X_iload_n 35 dX12_days_34 rfl rfl ?_
  refine X_icmp_ge 51 38 dX12_days_35 rfl rfl (fun c6 => ?_) (fun c6 => ?_)
  · have hw := hw.2 c6
    refine X_aload_n 52 dX12_days_51 rfl rfl ?_
    refine X_getR 55 f_X12_7 (hL.ob (c := 12) (by decide) rfl) rfl (hL.rr (by decide) rfl) dX12_days_52 rfl ?_
    refine X_iconst 56 (v := 0) dX12_days_55 rfl rfl ?_
    refine Y_iald 57 (k := 0) (hL.ar (t := 0) (n := 2) (by decide) rfl) (vlit (by decide)) (by decide) dX12_days_56 rfl ?_
    exact X_ret rfl rfl dX12_days_57 ⟨_, _, rfl, rfl, hw⟩
  · have hw := hw.1 c6
    refine X_aload_n 39 dX12_days_38 rfl rfl ?_
    refine X_iconst 40 (v := 0) dX12_days_39 rfl rfl ?_
    refine X_iconst 41 (v := 0) dX12_days_40 rfl rfl ?_
    refine X_iconst 42 (v := -1) dX12_days_41 rfl rfl ?_
    refine Y_cVV 45 (as := [.int (0 : Int32), .int (0 : Int32), .int (-1 : Int32)]) m_X12_426 (s_X12_day hL  hw) (hL.ob (c := 12) (by decide) rfl) rfl (by decide) (Nat.le_of_ble_eq_true rfl) dX12_days_42 rfl rfl (fun M7 hw => ?_)
    obtain ⟨x8, ex8⟩ : ∃ x8 : Int32, x8 = v2 + (1 : Int32) := ⟨_, rfl⟩
    have hw := hw x8 ex8
    refine X_iinc 48 (v := x8) (ls' := [.ref 92, .int p0, .int x8]) dX12_days_45 rfl rfl (by rw [ex8]; rfl) rfl (Or.inr (Or.inr ⟨_, rfl, rfl⟩)) ?_
    refine X_goto 33 dX12_days_48 rfl ?_
    exact hK33 x8 M7 hw
def w_X12_days (L : Lay) (p0 : Int32) (M : Mem) (Q : Int32 → Mem → Prop) : Prop := ∀ M1 : Mem, M1 = si M 92 0 (0 : Int32) → (w_X12_within L p0 (0 : Int32) (60 : Int32) M1 (fun x3 M2 => (((x3 = 0 → (Q (-1 : Int32) M2)) ∧ (¬ x3 = 0 → ((((720 : Int32) < ((mi M2 93 0) + p0) → (Q (-1 : Int32) M2)) ∧ (¬ (720 : Int32) < ((mi M2 93 0) + p0) → (LP2 (fun K33 v2 M => w_X12_days_33 L p0  K33 v2 M Q) (0 : Int32) M2)))))))))
set_option maxRecDepth 20000 in
theorem s_X12_days {L : Lay} (hL : LY L) {p0 : Int32}  {M : Mem} {Q : Int32 → Mem → Prop} (hw : w_X12_days L p0 M Q) : MX yX12_days cX12_days (some .int) 3 8 0 0 [.ref 92, .int p0] (L, M) (QI L Q) := by
  unfold w_X12_days at hw
  refine MX_of (by decide) [.ref 92, .int p0, junk] (by rfl) (by exact Nat.le_of_ble_eq_true rfl) ?_
  show X (FM (QI L Q)) RX12 cX12_days (some .int) 3 "days" 8 0 0 (L, M) 0 [.ref 92, .int p0, junk] []
  refine X_aload_n 1 dX12_days_0 rfl rfl ?_
  refine X_iconst 2 (v := 0) dX12_days_1 rfl rfl ?_
  refine X_putI 5 f_X12_206 (Or.inl rfl) (hL.ob (c := 12) (by decide) rfl) rfl dX12_days_2 rfl ?_
  refine X_nmM (fun M1 eM1 => ?_)
  have hw := hw M1 eM1
  refine X_iload_n 6 dX12_days_5 rfl rfl ?_
  refine X_iconst 7 (v := 0) dX12_days_6 rfl rfl ?_
  refine X_bipush 9 (v := 60) dX12_days_7 rfl rfl ?_
  refine Y_cSZ 12 (as := [.int p0, .int (0 : Int32), .int (60 : Int32)]) m_X12_213 (s_X12_within hL  hw) rfl (by decide) (Nat.le_of_ble_eq_true rfl) dX12_days_9 rfl rfl (fun x3 M2 bx3 hw => ?_)
  refine X_if_eq 29 15 (y := 0) dX12_days_12 rfl rfl (fun c4 => ?_) (fun c4 => ?_)
  · have hw := hw.1 c4
    refine X_iconst 30 (v := -1) dX12_days_29 rfl rfl ?_
    exact X_ret rfl rfl dX12_days_30 ⟨_, _, rfl, rfl, hw⟩
  · have hw := hw.2 c4
    refine X_aload_n 16 dX12_days_15 rfl rfl ?_
    refine X_getR 19 f_X12_7 (hL.ob (c := 12) (by decide) rfl) rfl (hL.rr (by decide) rfl) dX12_days_16 rfl ?_
    refine X_iconst 20 (v := 0) dX12_days_19 rfl rfl ?_
    refine Y_iald 21 (k := 0) (hL.ar (t := 0) (n := 2) (by decide) rfl) (vlit (by decide)) (by decide) dX12_days_20 rfl ?_
    refine X_iload_n 22 dX12_days_21 rfl rfl ?_
    refine X_iadd 23 dX12_days_22 rfl ?_
    refine X_sipush 26 (v := 720) dX12_days_23 rfl rfl ?_
    refine X_icmp_le 31 29 dX12_days_26 rfl rfl (fun c5 => ?_) (fun c5 => ?_)
    · have hw := hw.2 c5
      refine X_iconst 32 (v := 0) dX12_days_31 rfl rfl ?_
      refine X_istore_n 33 (ls' := [.ref 92, .int p0, .int (0 : Int32)]) dX12_days_32 rfl rfl (Nat.le_of_ble_eq_true rfl) rfl (Or.inr (Or.inr ⟨_, rfl, rfl⟩)) ?_
      exact LP2_s hw (G := fun v2 M => X (FM (QI L Q)) RX12 cX12_days (some .int) 3 "days" 8 0 0 (L, M) 33 [.ref 92, .int p0, .int v2] []) (fun K33 v2 M hb hK => t_X12_days_33 hL  hb  hK)
    · have hw := hw.1 c5
      refine X_iconst 30 (v := -1) dX12_days_29 rfl rfl ?_
      exact X_ret rfl rfl dX12_days_30 ⟨_, _, rfl, rfl, hw⟩
def w_X12_isOver (L : Lay) (p0 : Int32) (p1 : Int32) (M : Mem) (Q : Int32 → Mem → Prop) : Prop := w_X12_isOwner L p0 M (fun x2 M1 => (((x2 = 0 → (Q (0 : Int32) M1)) ∧ (¬ x2 = 0 → (w_X12_within L p1 (0 : Int32) (23 : Int32) M1 (fun x5 M4 => (∀ x6 : Int32, x6 = (if x5 = 0 then (0 : Int32) else (if (mi M4 93 0) < (((30 : Int32) * p1) + (30 : Int32)) then (0 : Int32) else (1 : Int32))) → (Q x6 M4))))))))
set_option maxRecDepth 20000 in
theorem s_X12_isOver {L : Lay} (hL : LY L) {p0 : Int32} {p1 : Int32}  {M : Mem} {Q : Int32 → Mem → Prop} (hw : w_X12_isOver L p0 p1 M Q) : MX yX12_isOver cX12_isOver (some .boolean) 3 3 0 0 [.ref 92, .int p0, .int p1] (L, M) (QZ L Q) := by
  unfold w_X12_isOver at hw
  refine MX_of (by decide) [.ref 92, .int p0, .int p1] (by rfl) (by exact Nat.le_of_ble_eq_true rfl) ?_
  show X (FM (QZ L Q)) RX12 cX12_isOver (some .boolean) 3 "isOver" 3 0 0 (L, M) 0 [.ref 92, .int p0, .int p1] []
  refine X_aload_n 1 dX12_isOver_0 rfl rfl ?_
  refine X_iload_n 2 dX12_isOver_1 rfl rfl ?_
  refine Y_cVZ 5 (as := [.int p0]) m_X12_217 (s_X12_isOwner hL  hw) (hL.ob (c := 12) (by decide) rfl) rfl (by decide) (Nat.le_of_ble_eq_true rfl) dX12_isOver_2 rfl rfl (fun x2 M1 bx2 hw => ?_)
  refine X_if_eq 38 8 (y := 0) dX12_isOver_5 rfl rfl (fun c3 => ?_) (fun c3 => ?_)
  · have hw := hw.1 c3
    refine X_iconst 39 (v := 0) dX12_isOver_38 rfl rfl ?_
    exact X_ret rfl (nar_bool (Or.inl rfl)) dX12_isOver_39 ⟨_, _, rfl, Or.inl rfl, rfl, hw⟩
  · have hw := hw.2 c3
    refine X_iload_n 9 dX12_isOver_8 rfl rfl ?_
    refine X_iconst 10 (v := 0) dX12_isOver_9 rfl rfl ?_
    refine X_bipush 12 (v := 23) dX12_isOver_10 rfl rfl ?_
    refine Y_cSZ 15 (as := [.int p1, .int (0 : Int32), .int (23 : Int32)]) m_X12_213 (s_X12_within hL  hw) rfl (by decide) (Nat.le_of_ble_eq_true rfl) dX12_isOver_12 rfl rfl (fun x5 M4 bx5 hw => ?_)
    obtain ⟨x6, ex6⟩ : ∃ x6 : Int32, x6 = (if x5 = 0 then (0 : Int32) else (if (mi M4 93 0) < (((30 : Int32) * p1) + (30 : Int32)) then (0 : Int32) else (1 : Int32))) := ⟨_, rfl⟩
    have hw := hw x6 ex6
    have bx6 : BZ x6 := by rw [ex6]; (repeat' split) <;> first | exact Or.inl rfl | exact Or.inr rfl
    have hJ : X (FM (QZ L Q)) RX12 cX12_isOver (some .boolean) 3 "isOver" 3 0 0 (L, M4) 39 [.ref 92, .int p0, .int p1] [.int x6] := by
      exact X_ret rfl (nar_bool (bx6)) dX12_isOver_39 ⟨_, _, rfl, bx6, rfl, hw⟩
    refine X_if_eq 38 18 (y := 0) dX12_isOver_15 rfl rfl (fun c7 => ?_) (fun c7 => ?_)
    · refine X_iconst 39 (v := 0) dX12_isOver_38 rfl rfl ?_
      rw [if_pos c7] at ex6
      rw [ex6] at hJ
      exact hJ
    · refine X_aload_n 19 dX12_isOver_18 rfl rfl ?_
      refine X_getR 22 f_X12_7 (hL.ob (c := 12) (by decide) rfl) rfl (hL.rr (by decide) rfl) dX12_isOver_19 rfl ?_
      refine X_iconst 23 (v := 0) dX12_isOver_22 rfl rfl ?_
      refine Y_iald 24 (k := 0) (hL.ar (t := 0) (n := 2) (by decide) rfl) (vlit (by decide)) (by decide) dX12_isOver_23 rfl ?_
      refine X_bipush 26 (v := 30) dX12_isOver_24 rfl rfl ?_
      refine X_iload_n 27 dX12_isOver_26 rfl rfl ?_
      refine X_imul 28 dX12_isOver_27 rfl ?_
      refine X_bipush 30 (v := 30) dX12_isOver_28 rfl rfl ?_
      refine X_iadd 31 dX12_isOver_30 rfl ?_
      refine X_icmp_lt 38 34 dX12_isOver_31 rfl rfl (fun c8 => ?_) (fun c8 => ?_)
      · refine X_iconst 39 (v := 0) dX12_isOver_38 rfl rfl ?_
        rw [if_neg c7, if_pos c8] at ex6
        rw [ex6] at hJ
        exact hJ
      · refine X_iconst 35 (v := 1) dX12_isOver_34 rfl rfl ?_
        refine X_goto 39 dX12_isOver_35 rfl ?_
        rw [if_neg c7, if_neg c8] at ex6
        rw [ex6] at hJ
        exact hJ
def w_X12_report_150 (L : Lay) (p0 : Int32) (p1 : Int32) (p2 : Int32) (p3 : Int32)  (y0 : Int32) (y1 : Int32) (M : Mem) (Q : Int32 → Mem → Prop) : Prop := vp_in y1 200 ∧ (∀ M23 : Mem, M23 = si M 152 (tn y1) y0 → (vp_in (mi M23 92 73) 200 ∧ (∀ M25 : Mem, M25 = si M23 153 (tn (mi M23 92 73)) (mi M23 93 0) → (∀ M26 : Mem, M26 = si M25 92 73 ((mi M25 92 73) + (1 : Int32)) → (Q ((mi M26 92 73) - (1 : Int32)) M26)))))
set_option maxRecDepth 20000 in
theorem t_X12_report_150 {L : Lay} (hL : LY L) {p0 : Int32} {p1 : Int32} {p2 : Int32} {p3 : Int32}   {y0 : Int32} {y1 : Int32}  {M : Mem} {Q : Int32 → Mem → Prop} (hw : w_X12_report_150 L p0 p1 p2 p3  y0 y1 M Q)  : X (FM (QI L Q)) RX12 cX12_report (some .int) 5 "report" 4 0 0 (L, M) 150 [.ref 92, junk, junk, junk, junk] [.int y0, .int y1, .ref 152] := by
  unfold w_X12_report_150 at hw
  obtain ⟨c22, hw⟩ := hw
  refine Y_iast 151 (k := (tn y1)) (hL.ar (t := 0) (n := 200) (by decide) rfl) c22 rfl dX12_report_150 rfl ?_
  refine X_nmM (fun M23 eM23 => ?_)
  have hw := hw M23 eM23
  refine X_aload_n 152 dX12_report_151 rfl rfl ?_
  refine X_getR 155 f_X12_191 (hL.ob (c := 12) (by decide) rfl) rfl (hL.rr (by decide) rfl) dX12_report_152 rfl ?_
  refine X_aload_n 156 dX12_report_155 rfl rfl ?_
  refine X_getI 159 f_X12_433 (hL.ob (c := 12) (by decide) rfl) rfl dX12_report_156 rfl ?_
  refine X_aload_n 160 dX12_report_159 rfl rfl ?_
  refine X_getR 163 f_X12_7 (hL.ob (c := 12) (by decide) rfl) rfl (hL.rr (by decide) rfl) dX12_report_160 rfl ?_
  refine X_iconst 164 (v := 0) dX12_report_163 rfl rfl ?_
  refine Y_iald 165 (k := 0) (hL.ar (t := 0) (n := 2) (by decide) rfl) (vlit (by decide)) (by decide) dX12_report_164 rfl ?_
  obtain ⟨c24, hw⟩ := hw
  refine Y_iast 166 (k := (tn (mi M23 92 73))) (hL.ar (t := 0) (n := 200) (by decide) rfl) c24 rfl dX12_report_165 rfl ?_
  refine X_nmM (fun M25 eM25 => ?_)
  have hw := hw M25 eM25
  refine X_aload_n 167 dX12_report_166 rfl rfl ?_
  refine X_dup 168 dX12_report_167 rfl rfl ?_
  refine X_getI 171 f_X12_433 (hL.ob (c := 12) (by decide) rfl) rfl dX12_report_168 rfl ?_
  refine X_iconst 172 (v := 1) dX12_report_171 rfl rfl ?_
  refine X_iadd 173 dX12_report_172 rfl ?_
  refine X_putI 176 f_X12_433 (Or.inl rfl) (hL.ob (c := 12) (by decide) rfl) rfl dX12_report_173 rfl ?_
  refine X_nmM (fun M26 eM26 => ?_)
  have hw := hw M26 eM26
  refine X_aload_n 177 dX12_report_176 rfl rfl ?_
  refine X_getI 180 f_X12_433 (hL.ob (c := 12) (by decide) rfl) rfl dX12_report_177 rfl ?_
  refine X_iconst 181 (v := 1) dX12_report_180 rfl rfl ?_
  refine X_isub 182 dX12_report_181 rfl ?_
  exact X_ret rfl rfl dX12_report_182 ⟨_, _, rfl, rfl, hw⟩
def w_X12_report_107 (L : Lay) (p0 : Int32) (p1 : Int32) (p2 : Int32) (p3 : Int32)  (y0 : Int32) (y1 : Int32) (M : Mem) (Q : Int32 → Mem → Prop) : Prop := vp_in y1 200 ∧ (∀ M19 : Mem, M19 = si M 151 (tn y1) y0 → (((p2 = 0 → (w_X12_report_150 L p0 p1 p2 p3  ((9 : Int32) * p3) (mi M19 92 73) M19 Q)) ∧ (¬ p2 = 0 → (((p2 = (1 : Int32) → (w_X12_report_150 L p0 p1 p2 p3  (p3 + (p3 / (50 : Int32))) (mi M19 92 73) M19 Q)) ∧ (¬ p2 = (1 : Int32) → (w_X12_report_150 L p0 p1 p2 p3  ((p3 + (2 : Int32)) / (3 : Int32)) (mi M19 92 73) M19 Q))))))))
set_option maxRecDepth 20000 in
theorem t_X12_report_107 {L : Lay} (hL : LY L) {p0 : Int32} {p1 : Int32} {p2 : Int32} {p3 : Int32}   {y0 : Int32} {y1 : Int32}  {M : Mem} {Q : Int32 → Mem → Prop} (hw : w_X12_report_107 L p0 p1 p2 p3  y0 y1 M Q)  : X (FM (QI L Q)) RX12 cX12_report (some .int) 5 "report" 4 0 0 (L, M) 107 [.ref 92, junk, junk, .int p2, .int p3] [.int y0, .int y1, .ref 151] := by
  unfold w_X12_report_107 at hw
  obtain ⟨c18, hw⟩ := hw
  refine Y_iast 108 (k := (tn y1)) (hL.ar (t := 0) (n := 200) (by decide) rfl) c18 rfl dX12_report_107 rfl ?_
  refine X_nmM (fun M19 eM19 => ?_)
  have hw := hw M19 eM19
  refine X_aload_n 109 dX12_report_108 rfl rfl ?_
  refine X_getR 112 f_X12_188 (hL.ob (c := 12) (by decide) rfl) rfl (hL.rr (by decide) rfl) dX12_report_109 rfl ?_
  refine X_aload_n 113 dX12_report_112 rfl rfl ?_
  refine X_getI 116 f_X12_433 (hL.ob (c := 12) (by decide) rfl) rfl dX12_report_113 rfl ?_
  refine X_iload_n 117 dX12_report_116 rfl rfl ?_
  refine X_if_ne 128 120 (y := 0) dX12_report_117 rfl rfl (fun c20 => ?_) (fun c20 => ?_)
  · have hw := hw.2 c20
    refine X_iload_n 129 dX12_report_128 rfl rfl ?_
    refine X_iconst 130 (v := 1) dX12_report_129 rfl rfl ?_
    refine X_icmp_ne 144 133 dX12_report_130 rfl rfl (fun c21 => ?_) (fun c21 => ?_)
    · have hw := hw.2 c21
      refine X_iload 146 dX12_report_144 rfl rfl ?_
      refine X_iconst 147 (v := 2) dX12_report_146 rfl rfl ?_
      refine X_iadd 148 dX12_report_147 rfl ?_
      refine X_iconst 149 (v := 3) dX12_report_148 rfl rfl ?_
      refine X_idiv 150 dX12_report_149 rfl (by decide) ?_
      refine X_weak (ls' := [.ref 92, junk, junk, junk, junk]) (WK.s (WK.s (WK.s (WK.j (WK.j WK.n))))) (Nat.le_of_ble_eq_true rfl) ?_
      exact t_X12_report_150 hL   hw 
    · have hw := hw.1 c21
      refine X_iload 135 dX12_report_133 rfl rfl ?_
      refine X_iload 137 dX12_report_135 rfl rfl ?_
      refine X_bipush 139 (v := 50) dX12_report_137 rfl rfl ?_
      refine X_idiv 140 dX12_report_139 rfl (by decide) ?_
      refine X_iadd 141 dX12_report_140 rfl ?_
      refine X_goto 150 dX12_report_141 rfl ?_
      refine X_weak (ls' := [.ref 92, junk, junk, junk, junk]) (WK.s (WK.s (WK.s (WK.j (WK.j WK.n))))) (Nat.le_of_ble_eq_true rfl) ?_
      exact t_X12_report_150 hL   hw 
  · have hw := hw.1 c20
    refine X_bipush 122 (v := 9) dX12_report_120 rfl rfl ?_
    refine X_iload 124 dX12_report_122 rfl rfl ?_
    refine X_imul 125 dX12_report_124 rfl ?_
    refine X_goto 150 dX12_report_125 rfl ?_
    refine X_weak (ls' := [.ref 92, junk, junk, junk, junk]) (WK.s (WK.s (WK.s (WK.j (WK.j WK.n))))) (Nat.le_of_ble_eq_true rfl) ?_
    exact t_X12_report_150 hL   hw 
def w_X12_report (L : Lay) (p0 : Int32) (p1 : Int32) (p2 : Int32) (p3 : Int32) (M : Mem) (Q : Int32 → Mem → Prop) : Prop := ∀ M1 : Mem, M1 = si M 92 0 (0 : Int32) → (w_X12_isOver L p0 p1 M1 (fun x3 M2 => (((x3 = 0 → (Q (-1 : Int32) M2)) ∧ (¬ x3 = 0 → (w_X12_within L p2 (0 : Int32) (2 : Int32) M2 (fun x6 M5 => (((x6 = 0 → (Q (-1 : Int32) M5)) ∧ (¬ x6 = 0 → (w_X12_within L p3 (0 : Int32) (9999 : Int32) M5 (fun x9 M8 => (((x9 = 0 → (Q (-1 : Int32) M8)) ∧ (¬ x9 = 0 → ((((mi M8 92 73) = (200 : Int32) → (Q (-1 : Int32) M8)) ∧ (¬ (mi M8 92 73) = (200 : Int32) → (vp_in (mi M8 92 73) 200 ∧ (∀ M13 : Mem, M13 = si M8 149 (tn (mi M8 92 73)) p0 → (vp_in (mi M13 92 73) 200 ∧ (∀ M15 : Mem, M15 = si M13 150 (tn (mi M13 92 73)) p1 → (((p2 = 0 → (w_X12_report_107 L p0 p1 p2 p3  ((7 : Int32) * p3) (mi M15 92 73) M15 Q)) ∧ (¬ p2 = 0 → (((p2 = (1 : Int32) → (w_X12_report_107 L p0 p1 p2 p3  (p3 - (p3 / (50 : Int32))) (mi M15 92 73) M15 Q)) ∧ (¬ p2 = (1 : Int32) → (w_X12_report_107 L p0 p1 p2 p3  (p3 / (4 : Int32)) (mi M15 92 73) M15 Q)))))))))))))))))))))))))))))
set_option maxRecDepth 20000 in
theorem s_X12_report {L : Lay} (hL : LY L) {p0 : Int32} {p1 : Int32} {p2 : Int32} {p3 : Int32}  {M : Mem} {Q : Int32 → Mem → Prop} (hw : w_X12_report L p0 p1 p2 p3 M Q) : MX yX12_report cX12_report (some .int) 5 4 0 0 [.ref 92, .int p0, .int p1, .int p2, .int p3] (L, M) (QI L Q) := by
  unfold w_X12_report at hw
  refine MX_of (by decide) [.ref 92, .int p0, .int p1, .int p2, .int p3] (by rfl) (by exact Nat.le_of_ble_eq_true rfl) ?_
  show X (FM (QI L Q)) RX12 cX12_report (some .int) 5 "report" 4 0 0 (L, M) 0 [.ref 92, .int p0, .int p1, .int p2, .int p3] []
  refine X_aload_n 1 dX12_report_0 rfl rfl ?_
  refine X_iconst 2 (v := 0) dX12_report_1 rfl rfl ?_
  refine X_putI 5 f_X12_206 (Or.inl rfl) (hL.ob (c := 12) (by decide) rfl) rfl dX12_report_2 rfl ?_
  refine X_nmM (fun M1 eM1 => ?_)
  have hw := hw M1 eM1
  refine X_aload_n 6 dX12_report_5 rfl rfl ?_
  refine X_iload_n 7 dX12_report_6 rfl rfl ?_
  refine X_iload_n 8 dX12_report_7 rfl rfl ?_
  refine Y_cVZ 11 (as := [.int p0, .int p1]) m_X12_430 (s_X12_isOver hL  hw) (hL.ob (c := 12) (by decide) rfl) rfl (by decide) (Nat.le_of_ble_eq_true rfl) dX12_report_8 rfl rfl (fun x3 M2 bx3 hw => ?_)
  refine X_if_eq 45 14 (y := 0) dX12_report_11 rfl rfl (fun c4 => ?_) (fun c4 => ?_)
  · have hw := hw.1 c4
    refine X_iconst 46 (v := -1) dX12_report_45 rfl rfl ?_
    exact X_ret rfl rfl dX12_report_46 ⟨_, _, rfl, rfl, hw⟩
  · have hw := hw.2 c4
    refine X_iload_n 15 dX12_report_14 rfl rfl ?_
    refine X_iconst 16 (v := 0) dX12_report_15 rfl rfl ?_
    refine X_iconst 17 (v := 2) dX12_report_16 rfl rfl ?_
    refine Y_cSZ 20 (as := [.int p2, .int (0 : Int32), .int (2 : Int32)]) m_X12_213 (s_X12_within hL  hw) rfl (by decide) (Nat.le_of_ble_eq_true rfl) dX12_report_17 rfl rfl (fun x6 M5 bx6 hw => ?_)
    refine X_if_eq 45 23 (y := 0) dX12_report_20 rfl rfl (fun c7 => ?_) (fun c7 => ?_)
    · have hw := hw.1 c7
      refine X_iconst 46 (v := -1) dX12_report_45 rfl rfl ?_
      exact X_ret rfl rfl dX12_report_46 ⟨_, _, rfl, rfl, hw⟩
    · have hw := hw.2 c7
      refine X_iload 25 dX12_report_23 rfl rfl ?_
      refine X_iconst 26 (v := 0) dX12_report_25 rfl rfl ?_
      refine X_sipush 29 (v := 9999) dX12_report_26 rfl rfl ?_
      refine Y_cSZ 32 (as := [.int p3, .int (0 : Int32), .int (9999 : Int32)]) m_X12_213 (s_X12_within hL  hw) rfl (by decide) (Nat.le_of_ble_eq_true rfl) dX12_report_29 rfl rfl (fun x9 M8 bx9 hw => ?_)
      refine X_if_eq 45 35 (y := 0) dX12_report_32 rfl rfl (fun c10 => ?_) (fun c10 => ?_)
      · have hw := hw.1 c10
        refine X_iconst 46 (v := -1) dX12_report_45 rfl rfl ?_
        exact X_ret rfl rfl dX12_report_46 ⟨_, _, rfl, rfl, hw⟩
      · have hw := hw.2 c10
        refine X_aload_n 36 dX12_report_35 rfl rfl ?_
        refine X_getI 39 f_X12_433 (hL.ob (c := 12) (by decide) rfl) rfl dX12_report_36 rfl ?_
        refine X_sipush 42 (v := 200) dX12_report_39 rfl rfl ?_
        refine X_icmp_ne 47 45 dX12_report_42 rfl rfl (fun c11 => ?_) (fun c11 => ?_)
        · have hw := hw.2 c11
          refine X_aload_n 48 dX12_report_47 rfl rfl ?_
          refine X_getR 51 f_X12_179 (hL.ob (c := 12) (by decide) rfl) rfl (hL.rr (by decide) rfl) dX12_report_48 rfl ?_
          refine X_aload_n 52 dX12_report_51 rfl rfl ?_
          refine X_getI 55 f_X12_433 (hL.ob (c := 12) (by decide) rfl) rfl dX12_report_52 rfl ?_
          refine X_iload_n 56 dX12_report_55 rfl rfl ?_
          obtain ⟨c12, hw⟩ := hw
          refine Y_iast 57 (k := (tn (mi M8 92 73))) (hL.ar (t := 0) (n := 200) (by decide) rfl) c12 rfl dX12_report_56 rfl ?_
          refine X_nmM (fun M13 eM13 => ?_)
          have hw := hw M13 eM13
          refine X_aload_n 58 dX12_report_57 rfl rfl ?_
          refine X_getR 61 f_X12_182 (hL.ob (c := 12) (by decide) rfl) rfl (hL.rr (by decide) rfl) dX12_report_58 rfl ?_
          refine X_aload_n 62 dX12_report_61 rfl rfl ?_
          refine X_getI 65 f_X12_433 (hL.ob (c := 12) (by decide) rfl) rfl dX12_report_62 rfl ?_
          refine X_iload_n 66 dX12_report_65 rfl rfl ?_
          obtain ⟨c14, hw⟩ := hw
          refine Y_iast 67 (k := (tn (mi M13 92 73))) (hL.ar (t := 0) (n := 200) (by decide) rfl) c14 rfl dX12_report_66 rfl ?_
          refine X_nmM (fun M15 eM15 => ?_)
          have hw := hw M15 eM15
          refine X_aload_n 68 dX12_report_67 rfl rfl ?_
          refine X_getR 71 f_X12_185 (hL.ob (c := 12) (by decide) rfl) rfl (hL.rr (by decide) rfl) dX12_report_68 rfl ?_
          refine X_aload_n 72 dX12_report_71 rfl rfl ?_
          refine X_getI 75 f_X12_433 (hL.ob (c := 12) (by decide) rfl) rfl dX12_report_72 rfl ?_
          refine X_iload_n 76 dX12_report_75 rfl rfl ?_
          refine X_if_ne 87 79 (y := 0) dX12_report_76 rfl rfl (fun c16 => ?_) (fun c16 => ?_)
          · have hw := hw.2 c16
            refine X_iload_n 88 dX12_report_87 rfl rfl ?_
            refine X_iconst 89 (v := 1) dX12_report_88 rfl rfl ?_
            refine X_icmp_ne 103 92 dX12_report_89 rfl rfl (fun c17 => ?_) (fun c17 => ?_)
            · have hw := hw.2 c17
              refine X_iload 105 dX12_report_103 rfl rfl ?_
              refine X_iconst 106 (v := 4) dX12_report_105 rfl rfl ?_
              refine X_idiv 107 dX12_report_106 rfl (by decide) ?_
              refine X_weak (ls' := [.ref 92, junk, junk, .int p2, .int p3]) (WK.s (WK.j (WK.j (WK.s (WK.s WK.n))))) (Nat.le_of_ble_eq_true rfl) ?_
              exact t_X12_report_107 hL   hw 
            · have hw := hw.1 c17
              refine X_iload 94 dX12_report_92 rfl rfl ?_
              refine X_iload 96 dX12_report_94 rfl rfl ?_
              refine X_bipush 98 (v := 50) dX12_report_96 rfl rfl ?_
              refine X_idiv 99 dX12_report_98 rfl (by decide) ?_
              refine X_isub 100 dX12_report_99 rfl ?_
              refine X_goto 107 dX12_report_100 rfl ?_
              refine X_weak (ls' := [.ref 92, junk, junk, .int p2, .int p3]) (WK.s (WK.j (WK.j (WK.s (WK.s WK.n))))) (Nat.le_of_ble_eq_true rfl) ?_
              exact t_X12_report_107 hL   hw 
          · have hw := hw.1 c16
            refine X_bipush 81 (v := 7) dX12_report_79 rfl rfl ?_
            refine X_iload 83 dX12_report_81 rfl rfl ?_
            refine X_imul 84 dX12_report_83 rfl ?_
            refine X_goto 107 dX12_report_84 rfl ?_
            refine X_weak (ls' := [.ref 92, junk, junk, .int p2, .int p3]) (WK.s (WK.j (WK.j (WK.s (WK.s WK.n))))) (Nat.le_of_ble_eq_true rfl) ?_
            exact t_X12_report_107 hL   hw 
        · have hw := hw.1 c11
          refine X_iconst 46 (v := -1) dX12_report_45 rfl rfl ?_
          exact X_ret rfl rfl dX12_report_46 ⟨_, _, rfl, rfl, hw⟩
def w_X12_knownLow_6 (L : Lay) (p0 : Int32) (p1 : Int32) (p2 : Int32) (K6 : Int32 → Int32 → Mem → Prop) (v4 : Int32) (v5 : Int32) (M : Mem) (Q : Int32 → Mem → Prop) : Prop := ((v5 < (mi M 92 73) → (vp_in v5 200 ∧ ((((mi M 149 (tn v5)) = p0 → ((((mi M 150 (tn v5)) = p1 → (((p2 < (mi M 153 (tn v5)) → (∀ x8 : Int32, x8 = v5 + (1 : Int32) → (K6 v4 x8 M))) ∧ (¬ p2 < (mi M 153 (tn v5)) → (((v4 < (mi M 151 (tn v5)) → (∀ x11 : Int32, x11 = (mi M 151 (tn v5)) → (∀ x12 : Int32, x12 = v5 + (1 : Int32) → (K6 x11 x12 M)))) ∧ (¬ v4 < (mi M 151 (tn v5)) → (∀ x10 : Int32, x10 = v5 + (1 : Int32) → (K6 v4 x10 M))))))))) ∧ (¬ (mi M 150 (tn v5)) = p1 → (∀ x6 : Int32, x6 = v5 + (1 : Int32) → (K6 v4 x6 M)))))) ∧ (¬ (mi M 149 (tn v5)) = p0 → (∀ x4 : Int32, x4 = v5 + (1 : Int32) → (K6 v4 x4 M))))))) ∧ (¬ v5 < (mi M 92 73) → (Q v4 M)))
set_option maxRecDepth 20000 in
theorem t_X12_knownLow_6 {L : Lay} (hL : LY L) {p0 : Int32} {p1 : Int32} {p2 : Int32}  {K6 : Int32 → Int32 → Mem → Prop} {v4 : Int32} {v5 : Int32}  {M : Mem} {Q : Int32 → Mem → Prop} (hw : w_X12_knownLow_6 L p0 p1 p2 K6 v4 v5 M Q) (hK6 : ∀ (v4 : Int32) (v5 : Int32) (M : Mem), K6 v4 v5 M → X (FM (QI L Q)) RX12 cX12_knownLow (some .int) 6 "knownLow" 1 0 0 (L, M) 6 [.ref 92, .int p0, .int p1, .int p2, .int v4, .int v5] []) : X (FM (QI L Q)) RX12 cX12_knownLow (some .int) 6 "knownLow" 1 0 0 (L, M) 6 [.ref 92, .int p0, .int p1, .int p2, .int v4, .int v5] [] := by
  unfold w_X12_knownLow_6 at hw
  refine X_iload 8 dX12_knownLow_6 rfl rfl ?_
  refine X_aload_n 9 dX12_knownLow_8 rfl rfl ?_
  refine X_getI 12 f_X12_433 (hL.ob (c := 12) (by decide) rfl) rfl dX12_knownLow_9 rfl ?_
  refine X_icmp_ge 75 15 dX12_knownLow_12 rfl rfl (fun c1 => ?_) (fun c1 => ?_)
  · have hw := hw.2 c1
    refine X_iload 77 dX12_knownLow_75 rfl rfl ?_
    exact X_ret rfl rfl dX12_knownLow_77 ⟨_, _, rfl, rfl, hw⟩
  · have hw := hw.1 c1
    refine X_aload_n 16 dX12_knownLow_15 rfl rfl ?_
    refine X_getR 19 f_X12_179 (hL.ob (c := 12) (by decide) rfl) rfl (hL.rr (by decide) rfl) dX12_knownLow_16 rfl ?_
    refine X_iload 21 dX12_knownLow_19 rfl rfl ?_
    obtain ⟨c2, hw⟩ := hw
    refine Y_iald 22 (k := (tn v5)) (hL.ar (t := 0) (n := 200) (by decide) rfl) c2 rfl dX12_knownLow_21 rfl ?_
    refine X_iload_n 23 dX12_knownLow_22 rfl rfl ?_
    refine X_icmp_ne 69 26 dX12_knownLow_23 rfl rfl (fun c3 => ?_) (fun c3 => ?_)
    · have hw := hw.2 c3
      obtain ⟨x4, ex4⟩ : ∃ x4 : Int32, x4 = v5 + (1 : Int32) := ⟨_, rfl⟩
      have hw := hw x4 ex4
      refine X_iinc 72 (v := x4) (ls' := [.ref 92, .int p0, .int p1, .int p2, .int v4, .int x4]) dX12_knownLow_69 rfl rfl (by rw [ex4]; rfl) rfl (Or.inr (Or.inr ⟨_, rfl, rfl⟩)) ?_
      refine X_goto 6 dX12_knownLow_72 rfl ?_
      exact hK6 v4 x4 M hw
    · have hw := hw.1 c3
      refine X_aload_n 27 dX12_knownLow_26 rfl rfl ?_
      refine X_getR 30 f_X12_182 (hL.ob (c := 12) (by decide) rfl) rfl (hL.rr (by decide) rfl) dX12_knownLow_27 rfl ?_
      refine X_iload 32 dX12_knownLow_30 rfl rfl ?_
      refine Y_iald 33 (k := (tn v5)) (hL.ar (t := 0) (n := 200) (by decide) rfl) c2 rfl dX12_knownLow_32 rfl ?_
      refine X_iload_n 34 dX12_knownLow_33 rfl rfl ?_
      refine X_icmp_ne 69 37 dX12_knownLow_34 rfl rfl (fun c5 => ?_) (fun c5 => ?_)
      · have hw := hw.2 c5
        obtain ⟨x6, ex6⟩ : ∃ x6 : Int32, x6 = v5 + (1 : Int32) := ⟨_, rfl⟩
        have hw := hw x6 ex6
        refine X_iinc 72 (v := x6) (ls' := [.ref 92, .int p0, .int p1, .int p2, .int v4, .int x6]) dX12_knownLow_69 rfl rfl (by rw [ex6]; rfl) rfl (Or.inr (Or.inr ⟨_, rfl, rfl⟩)) ?_
        refine X_goto 6 dX12_knownLow_72 rfl ?_
        exact hK6 v4 x6 M hw
      · have hw := hw.1 c5
        refine X_aload_n 38 dX12_knownLow_37 rfl rfl ?_
        refine X_getR 41 f_X12_191 (hL.ob (c := 12) (by decide) rfl) rfl (hL.rr (by decide) rfl) dX12_knownLow_38 rfl ?_
        refine X_iload 43 dX12_knownLow_41 rfl rfl ?_
        refine Y_iald 44 (k := (tn v5)) (hL.ar (t := 0) (n := 200) (by decide) rfl) c2 rfl dX12_knownLow_43 rfl ?_
        refine X_iload_n 45 dX12_knownLow_44 rfl rfl ?_
        refine X_icmp_gt 69 48 dX12_knownLow_45 rfl rfl (fun c7 => ?_) (fun c7 => ?_)
        · have hw := hw.1 c7
          obtain ⟨x8, ex8⟩ : ∃ x8 : Int32, x8 = v5 + (1 : Int32) := ⟨_, rfl⟩
          have hw := hw x8 ex8
          refine X_iinc 72 (v := x8) (ls' := [.ref 92, .int p0, .int p1, .int p2, .int v4, .int x8]) dX12_knownLow_69 rfl rfl (by rw [ex8]; rfl) rfl (Or.inr (Or.inr ⟨_, rfl, rfl⟩)) ?_
          refine X_goto 6 dX12_knownLow_72 rfl ?_
          exact hK6 v4 x8 M hw
        · have hw := hw.2 c7
          refine X_aload_n 49 dX12_knownLow_48 rfl rfl ?_
          refine X_getR 52 f_X12_185 (hL.ob (c := 12) (by decide) rfl) rfl (hL.rr (by decide) rfl) dX12_knownLow_49 rfl ?_
          refine X_iload 54 dX12_knownLow_52 rfl rfl ?_
          refine Y_iald 55 (k := (tn v5)) (hL.ar (t := 0) (n := 200) (by decide) rfl) c2 rfl dX12_knownLow_54 rfl ?_
          refine X_iload 57 dX12_knownLow_55 rfl rfl ?_
          refine X_icmp_le 69 60 dX12_knownLow_57 rfl rfl (fun c9 => ?_) (fun c9 => ?_)
          · have hw := hw.2 c9
            obtain ⟨x10, ex10⟩ : ∃ x10 : Int32, x10 = v5 + (1 : Int32) := ⟨_, rfl⟩
            have hw := hw x10 ex10
            refine X_iinc 72 (v := x10) (ls' := [.ref 92, .int p0, .int p1, .int p2, .int v4, .int x10]) dX12_knownLow_69 rfl rfl (by rw [ex10]; rfl) rfl (Or.inr (Or.inr ⟨_, rfl, rfl⟩)) ?_
            refine X_goto 6 dX12_knownLow_72 rfl ?_
            exact hK6 v4 x10 M hw
          · have hw := hw.1 c9
            refine X_aload_n 61 dX12_knownLow_60 rfl rfl ?_
            refine X_getR 64 f_X12_185 (hL.ob (c := 12) (by decide) rfl) rfl (hL.rr (by decide) rfl) dX12_knownLow_61 rfl ?_
            refine X_iload 66 dX12_knownLow_64 rfl rfl ?_
            refine Y_iald 67 (k := (tn v5)) (hL.ar (t := 0) (n := 200) (by decide) rfl) c2 rfl dX12_knownLow_66 rfl ?_
            refine X_nmI (fun x11 ex11 => ?_)
            have hw := hw x11 ex11
            refine X_istore 69 (ls' := [.ref 92, .int p0, .int p1, .int p2, .int x11, .int v5]) dX12_knownLow_67 rfl (Nat.le_of_ble_eq_true rfl) rfl (Or.inr (Or.inr ⟨_, rfl, rfl⟩)) ?_
            obtain ⟨x12, ex12⟩ : ∃ x12 : Int32, x12 = v5 + (1 : Int32) := ⟨_, rfl⟩
            have hw := hw x12 ex12
            refine X_iinc 72 (v := x12) (ls' := [.ref 92, .int p0, .int p1, .int p2, .int x11, .int x12]) dX12_knownLow_69 rfl rfl (by rw [ex12]; rfl) rfl (Or.inr (Or.inr ⟨_, rfl, rfl⟩)) ?_
            refine X_goto 6 dX12_knownLow_72 rfl ?_
            exact hK6 x11 x12 M hw
def w_X12_knownLow (L : Lay) (p0 : Int32) (p1 : Int32) (p2 : Int32) (M : Mem) (Q : Int32 → Mem → Prop) : Prop := LP3 (fun K6 v4 v5 M => w_X12_knownLow_6 L p0 p1 p2  K6 v4 v5 M Q) (0 : Int32) (0 : Int32) M
set_option maxRecDepth 20000 in
theorem s_X12_knownLow {L : Lay} (hL : LY L) {p0 : Int32} {p1 : Int32} {p2 : Int32}  {M : Mem} {Q : Int32 → Mem → Prop} (hw : w_X12_knownLow L p0 p1 p2 M Q) : MX yX12_knownLow cX12_knownLow (some .int) 6 1 0 0 [.ref 92, .int p0, .int p1, .int p2] (L, M) (QI L Q) := by
  unfold w_X12_knownLow at hw
  refine MX_of (by decide) [.ref 92, .int p0, .int p1, .int p2, junk, junk] (by rfl) (by exact Nat.le_of_ble_eq_true rfl) ?_
  show X (FM (QI L Q)) RX12 cX12_knownLow (some .int) 6 "knownLow" 1 0 0 (L, M) 0 [.ref 92, .int p0, .int p1, .int p2, junk, junk] []
  refine X_iconst 1 (v := 0) dX12_knownLow_0 rfl rfl ?_
  refine X_istore 3 (ls' := [.ref 92, .int p0, .int p1, .int p2, .int (0 : Int32), junk]) dX12_knownLow_1 rfl (Nat.le_of_ble_eq_true rfl) rfl (Or.inr (Or.inr ⟨_, rfl, rfl⟩)) ?_
  refine X_iconst 4 (v := 0) dX12_knownLow_3 rfl rfl ?_
  refine X_istore 6 (ls' := [.ref 92, .int p0, .int p1, .int p2, .int (0 : Int32), .int (0 : Int32)]) dX12_knownLow_4 rfl (Nat.le_of_ble_eq_true rfl) rfl (Or.inr (Or.inr ⟨_, rfl, rfl⟩)) ?_
  exact LP3_s hw (G := fun v4 v5 M => X (FM (QI L Q)) RX12 cX12_knownLow (some .int) 6 "knownLow" 1 0 0 (L, M) 6 [.ref 92, .int p0, .int p1, .int p2, .int v4, .int v5] []) (fun K6 v4 v5 M hb hK => t_X12_knownLow_6 hL  hb  hK)
def w_X12_knownHigh_65 (L : Lay) (p0 : Int32) (p1 : Int32) (p2 : Int32) (K6 : Int32 → Int32 → Mem → Prop) (v5 : Int32) (M : Mem) (Q : Int32 → Mem → Prop) : Prop := vp_in v5 200 ∧ (∀ x15 : Int32, x15 = (mi M 152 (tn v5)) → (∀ x16 : Int32, x16 = v5 + (1 : Int32) → (K6 x15 x16 M)))
set_option maxRecDepth 20000 in
theorem t_X12_knownHigh_65 {L : Lay} (hL : LY L) {p0 : Int32} {p1 : Int32} {p2 : Int32}  {K6 : Int32 → Int32 → Mem → Prop} {v5 : Int32}  {M : Mem} {Q : Int32 → Mem → Prop} (hw : w_X12_knownHigh_65 L p0 p1 p2 K6 v5 M Q) (hK6 : ∀ (v4 : Int32) (v5 : Int32) (M : Mem), K6 v4 v5 M → X (FM (QI L Q)) RX12 cX12_knownHigh (some .int) 6 "knownHigh" 1 0 0 (L, M) 6 [.ref 92, .int p0, .int p1, .int p2, .int v4, .int v5] []) : X (FM (QI L Q)) RX12 cX12_knownHigh (some .int) 6 "knownHigh" 1 0 0 (L, M) 65 [.ref 92, .int p0, .int p1, .int p2, junk, .int v5] [] := by
  unfold w_X12_knownHigh_65 at hw
  refine X_aload_n 66 dX12_knownHigh_65 rfl rfl ?_
  refine X_getR 69 f_X12_188 (hL.ob (c := 12) (by decide) rfl) rfl (hL.rr (by decide) rfl) dX12_knownHigh_66 rfl ?_
  refine X_iload 71 dX12_knownHigh_69 rfl rfl ?_
  obtain ⟨c14, hw⟩ := hw
  refine Y_iald 72 (k := (tn v5)) (hL.ar (t := 0) (n := 200) (by decide) rfl) c14 rfl dX12_knownHigh_71 rfl ?_
  refine X_nmI (fun x15 ex15 => ?_)
  have hw := hw x15 ex15
  refine X_istore 74 (ls' := [.ref 92, .int p0, .int p1, .int p2, .int x15, .int v5]) dX12_knownHigh_72 rfl (Nat.le_of_ble_eq_true rfl) rfl (Or.inr (Or.inr ⟨_, rfl, rfl⟩)) ?_
  obtain ⟨x16, ex16⟩ : ∃ x16 : Int32, x16 = v5 + (1 : Int32) := ⟨_, rfl⟩
  have hw := hw x16 ex16
  refine X_iinc 77 (v := x16) (ls' := [.ref 92, .int p0, .int p1, .int p2, .int x15, .int x16]) dX12_knownHigh_74 rfl rfl (by rw [ex16]; rfl) rfl (Or.inr (Or.inr ⟨_, rfl, rfl⟩)) ?_
  refine X_goto 6 dX12_knownHigh_77 rfl ?_
  exact hK6 x15 x16 M hw
def w_X12_knownHigh_6 (L : Lay) (p0 : Int32) (p1 : Int32) (p2 : Int32) (K6 : Int32 → Int32 → Mem → Prop) (v4 : Int32) (v5 : Int32) (M : Mem) (Q : Int32 → Mem → Prop) : Prop := ((v5 < (mi M 92 73) → (vp_in v5 200 ∧ ((((mi M 149 (tn v5)) = p0 → ((((mi M 150 (tn v5)) = p1 → (((p2 < (mi M 153 (tn v5)) → (∀ x10 : Int32, x10 = v5 + (1 : Int32) → (K6 v4 x10 M))) ∧ (¬ p2 < (mi M 153 (tn v5)) → (((v4 < 0 → (w_X12_knownHigh_65 L p0 p1 p2 K6 v5 M Q)) ∧ (¬ v4 < 0 → ((((mi M 152 (tn v5)) < v4 → (w_X12_knownHigh_65 L p0 p1 p2 K6 v5 M Q)) ∧ (¬ (mi M 152 (tn v5)) < v4 → (∀ x13 : Int32, x13 = v5 + (1 : Int32) → (K6 v4 x13 M)))))))))))) ∧ (¬ (mi M 150 (tn v5)) = p1 → (∀ x8 : Int32, x8 = v5 + (1 : Int32) → (K6 v4 x8 M)))))) ∧ (¬ (mi M 149 (tn v5)) = p0 → (∀ x6 : Int32, x6 = v5 + (1 : Int32) → (K6 v4 x6 M))))))) ∧ (¬ v5 < (mi M 92 73) → (∀ x2 : Int32, x2 = (if v4 < 0 then (9999 : Int32) else v4) → (Q x2 M))))
set_option maxRecDepth 20000 in
theorem t_X12_knownHigh_6 {L : Lay} (hL : LY L) {p0 : Int32} {p1 : Int32} {p2 : Int32}  {K6 : Int32 → Int32 → Mem → Prop} {v4 : Int32} {v5 : Int32}  {M : Mem} {Q : Int32 → Mem → Prop} (hw : w_X12_knownHigh_6 L p0 p1 p2 K6 v4 v5 M Q) (hK6 : ∀ (v4 : Int32) (v5 : Int32) (M : Mem), K6 v4 v5 M → X (FM (QI L Q)) RX12 cX12_knownHigh (some .int) 6 "knownHigh" 1 0 0 (L, M) 6 [.ref 92, .int p0, .int p1, .int p2, .int v4, .int v5] []) : X (FM (QI L Q)) RX12 cX12_knownHigh (some .int) 6 "knownHigh" 1 0 0 (L, M) 6 [.ref 92, .int p0, .int p1, .int p2, .int v4, .int v5] [] := by
  unfold w_X12_knownHigh_6 at hw
  refine X_iload 8 dX12_knownHigh_6 rfl rfl ?_
  refine X_aload_n 9 dX12_knownHigh_8 rfl rfl ?_
  refine X_getI 12 f_X12_433 (hL.ob (c := 12) (by decide) rfl) rfl dX12_knownHigh_9 rfl ?_
  refine X_icmp_ge 80 15 dX12_knownHigh_12 rfl rfl (fun c1 => ?_) (fun c1 => ?_)
  · have hw := hw.2 c1
    refine X_iload 82 dX12_knownHigh_80 rfl rfl ?_
    obtain ⟨x2, ex2⟩ : ∃ x2 : Int32, x2 = (if v4 < 0 then (9999 : Int32) else v4) := ⟨_, rfl⟩
    have hw := hw x2 ex2
    have hJ : X (FM (QI L Q)) RX12 cX12_knownHigh (some .int) 6 "knownHigh" 1 0 0 (L, M) 93 [.ref 92, .int p0, .int p1, .int p2, .int v4, .int v5] [.int x2] := by
      exact X_ret rfl rfl dX12_knownHigh_93 ⟨_, _, rfl, rfl, hw⟩
    refine X_if_ge 91 85 (y := 0) dX12_knownHigh_82 rfl rfl (fun c3 => ?_) (fun c3 => ?_)
    · refine X_iload 93 dX12_knownHigh_91 rfl rfl ?_
      rw [if_neg c3] at ex2
      rw [ex2] at hJ
      exact hJ
    · refine X_sipush 88 (v := 9999) dX12_knownHigh_85 rfl rfl ?_
      refine X_goto 93 dX12_knownHigh_88 rfl ?_
      rw [if_pos c3] at ex2
      rw [ex2] at hJ
      exact hJ
  · have hw := hw.1 c1
    refine X_aload_n 16 dX12_knownHigh_15 rfl rfl ?_
    refine X_getR 19 f_X12_179 (hL.ob (c := 12) (by decide) rfl) rfl (hL.rr (by decide) rfl) dX12_knownHigh_16 rfl ?_
    refine X_iload 21 dX12_knownHigh_19 rfl rfl ?_
    obtain ⟨c4, hw⟩ := hw
    refine Y_iald 22 (k := (tn v5)) (hL.ar (t := 0) (n := 200) (by decide) rfl) c4 rfl dX12_knownHigh_21 rfl ?_
    refine X_iload_n 23 dX12_knownHigh_22 rfl rfl ?_
    refine X_icmp_ne 74 26 dX12_knownHigh_23 rfl rfl (fun c5 => ?_) (fun c5 => ?_)
    · have hw := hw.2 c5
      obtain ⟨x6, ex6⟩ : ∃ x6 : Int32, x6 = v5 + (1 : Int32) := ⟨_, rfl⟩
      have hw := hw x6 ex6
      refine X_iinc 77 (v := x6) (ls' := [.ref 92, .int p0, .int p1, .int p2, .int v4, .int x6]) dX12_knownHigh_74 rfl rfl (by rw [ex6]; rfl) rfl (Or.inr (Or.inr ⟨_, rfl, rfl⟩)) ?_
      refine X_goto 6 dX12_knownHigh_77 rfl ?_
      exact hK6 v4 x6 M hw
    · have hw := hw.1 c5
      refine X_aload_n 27 dX12_knownHigh_26 rfl rfl ?_
      refine X_getR 30 f_X12_182 (hL.ob (c := 12) (by decide) rfl) rfl (hL.rr (by decide) rfl) dX12_knownHigh_27 rfl ?_
      refine X_iload 32 dX12_knownHigh_30 rfl rfl ?_
      refine Y_iald 33 (k := (tn v5)) (hL.ar (t := 0) (n := 200) (by decide) rfl) c4 rfl dX12_knownHigh_32 rfl ?_
      refine X_iload_n 34 dX12_knownHigh_33 rfl rfl ?_
      refine X_icmp_ne 74 37 dX12_knownHigh_34 rfl rfl (fun c7 => ?_) (fun c7 => ?_)
      · have hw := hw.2 c7
        obtain ⟨x8, ex8⟩ : ∃ x8 : Int32, x8 = v5 + (1 : Int32) := ⟨_, rfl⟩
        have hw := hw x8 ex8
        refine X_iinc 77 (v := x8) (ls' := [.ref 92, .int p0, .int p1, .int p2, .int v4, .int x8]) dX12_knownHigh_74 rfl rfl (by rw [ex8]; rfl) rfl (Or.inr (Or.inr ⟨_, rfl, rfl⟩)) ?_
        refine X_goto 6 dX12_knownHigh_77 rfl ?_
        exact hK6 v4 x8 M hw
      · have hw := hw.1 c7
        refine X_aload_n 38 dX12_knownHigh_37 rfl rfl ?_
        refine X_getR 41 f_X12_191 (hL.ob (c := 12) (by decide) rfl) rfl (hL.rr (by decide) rfl) dX12_knownHigh_38 rfl ?_
        refine X_iload 43 dX12_knownHigh_41 rfl rfl ?_
        refine Y_iald 44 (k := (tn v5)) (hL.ar (t := 0) (n := 200) (by decide) rfl) c4 rfl dX12_knownHigh_43 rfl ?_
        refine X_iload_n 45 dX12_knownHigh_44 rfl rfl ?_
        refine X_icmp_gt 74 48 dX12_knownHigh_45 rfl rfl (fun c9 => ?_) (fun c9 => ?_)
        · have hw := hw.1 c9
          obtain ⟨x10, ex10⟩ : ∃ x10 : Int32, x10 = v5 + (1 : Int32) := ⟨_, rfl⟩
          have hw := hw x10 ex10
          refine X_iinc 77 (v := x10) (ls' := [.ref 92, .int p0, .int p1, .int p2, .int v4, .int x10]) dX12_knownHigh_74 rfl rfl (by rw [ex10]; rfl) rfl (Or.inr (Or.inr ⟨_, rfl, rfl⟩)) ?_
          refine X_goto 6 dX12_knownHigh_77 rfl ?_
          exact hK6 v4 x10 M hw
        · have hw := hw.2 c9
          refine X_iload 50 dX12_knownHigh_48 rfl rfl ?_
          refine X_if_lt 65 53 (y := 0) dX12_knownHigh_50 rfl rfl (fun c11 => ?_) (fun c11 => ?_)
          · have hw := hw.1 c11
            refine X_weak (ls' := [.ref 92, .int p0, .int p1, .int p2, junk, .int v5]) (WK.s (WK.s (WK.s (WK.s (WK.j (WK.s WK.n)))))) (Nat.le_of_ble_eq_true rfl) ?_
            exact t_X12_knownHigh_65 hL   hw hK6
          · have hw := hw.2 c11
            refine X_aload_n 54 dX12_knownHigh_53 rfl rfl ?_
            refine X_getR 57 f_X12_188 (hL.ob (c := 12) (by decide) rfl) rfl (hL.rr (by decide) rfl) dX12_knownHigh_54 rfl ?_
            refine X_iload 59 dX12_knownHigh_57 rfl rfl ?_
            refine Y_iald 60 (k := (tn v5)) (hL.ar (t := 0) (n := 200) (by decide) rfl) c4 rfl dX12_knownHigh_59 rfl ?_
            refine X_iload 62 dX12_knownHigh_60 rfl rfl ?_
            refine X_icmp_ge 74 65 dX12_knownHigh_62 rfl rfl (fun c12 => ?_) (fun c12 => ?_)
            · have hw := hw.2 c12
              obtain ⟨x13, ex13⟩ : ∃ x13 : Int32, x13 = v5 + (1 : Int32) := ⟨_, rfl⟩
              have hw := hw x13 ex13
              refine X_iinc 77 (v := x13) (ls' := [.ref 92, .int p0, .int p1, .int p2, .int v4, .int x13]) dX12_knownHigh_74 rfl rfl (by rw [ex13]; rfl) rfl (Or.inr (Or.inr ⟨_, rfl, rfl⟩)) ?_
              refine X_goto 6 dX12_knownHigh_77 rfl ?_
              exact hK6 v4 x13 M hw
            · have hw := hw.1 c12
              refine X_weak (ls' := [.ref 92, .int p0, .int p1, .int p2, junk, .int v5]) (WK.s (WK.s (WK.s (WK.s (WK.j (WK.s WK.n)))))) (Nat.le_of_ble_eq_true rfl) ?_
              exact t_X12_knownHigh_65 hL   hw hK6
def w_X12_knownHigh (L : Lay) (p0 : Int32) (p1 : Int32) (p2 : Int32) (M : Mem) (Q : Int32 → Mem → Prop) : Prop := LP3 (fun K6 v4 v5 M => w_X12_knownHigh_6 L p0 p1 p2  K6 v4 v5 M Q) (-1 : Int32) (0 : Int32) M
set_option maxRecDepth 20000 in
theorem s_X12_knownHigh {L : Lay} (hL : LY L) {p0 : Int32} {p1 : Int32} {p2 : Int32}  {M : Mem} {Q : Int32 → Mem → Prop} (hw : w_X12_knownHigh L p0 p1 p2 M Q) : MX yX12_knownHigh cX12_knownHigh (some .int) 6 1 0 0 [.ref 92, .int p0, .int p1, .int p2] (L, M) (QI L Q) := by
  unfold w_X12_knownHigh at hw
  refine MX_of (by decide) [.ref 92, .int p0, .int p1, .int p2, junk, junk] (by rfl) (by exact Nat.le_of_ble_eq_true rfl) ?_
  show X (FM (QI L Q)) RX12 cX12_knownHigh (some .int) 6 "knownHigh" 1 0 0 (L, M) 0 [.ref 92, .int p0, .int p1, .int p2, junk, junk] []
  refine X_iconst 1 (v := -1) dX12_knownHigh_0 rfl rfl ?_
  refine X_istore 3 (ls' := [.ref 92, .int p0, .int p1, .int p2, .int (-1 : Int32), junk]) dX12_knownHigh_1 rfl (Nat.le_of_ble_eq_true rfl) rfl (Or.inr (Or.inr ⟨_, rfl, rfl⟩)) ?_
  refine X_iconst 4 (v := 0) dX12_knownHigh_3 rfl rfl ?_
  refine X_istore 6 (ls' := [.ref 92, .int p0, .int p1, .int p2, .int (-1 : Int32), .int (0 : Int32)]) dX12_knownHigh_4 rfl (Nat.le_of_ble_eq_true rfl) rfl (Or.inr (Or.inr ⟨_, rfl, rfl⟩)) ?_
  exact LP3_s hw (G := fun v4 v5 M => X (FM (QI L Q)) RX12 cX12_knownHigh (some .int) 6 "knownHigh" 1 0 0 (L, M) 6 [.ref 92, .int p0, .int p1, .int p2, .int v4, .int v5] []) (fun K6 v4 v5 M hb hK => t_X12_knownHigh_6 hL  hb  hK)
def w_X12_known (L : Lay) (p0 : Int32) (p1 : Int32) (p2 : Int32) (p3 : Int32) (M : Mem) (Q : Int32 → Mem → Prop) : Prop := ∀ M1 : Mem, M1 = si M 92 0 (0 : Int32) → (w_X12_isOver L p0 p1 M1 (fun x3 M2 => (((x3 = 0 → (Q (-1 : Int32) M2)) ∧ (¬ x3 = 0 → (w_X12_within L p2 (0 : Int32) (mi M2 93 0) M2 (fun x6 M5 => (((x6 = 0 → (Q (-1 : Int32) M5)) ∧ (¬ x6 = 0 → (w_X12_within L p3 (0 : Int32) (2 : Int32) M5 (fun x9 M8 => (((x9 = 0 → (Q (-1 : Int32) M8)) ∧ (¬ x9 = 0 → (w_X12_knownLow L p0 p1 p2 M8 (fun x12 M11 => (w_X12_knownHigh L p0 p1 p2 M11 (fun x14 M13 => (∀ x15 : Int32, x15 = (if p3 = 0 then x12 else (if p3 = (1 : Int32) then x14 else (if x14 < x12 then (1 : Int32) else (0 : Int32)))) → (Q x15 M13)))))))))))))))))))))
set_option maxRecDepth 20000 in
theorem s_X12_known {L : Lay} (hL : LY L) {p0 : Int32} {p1 : Int32} {p2 : Int32} {p3 : Int32}  {M : Mem} {Q : Int32 → Mem → Prop} (hw : w_X12_known L p0 p1 p2 p3 M Q) : MX yX12_known cX12_known (some .int) 7 4 0 0 [.ref 92, .int p0, .int p1, .int p2, .int p3] (L, M) (QI L Q) := by
  unfold w_X12_known at hw
  refine MX_of (by decide) [.ref 92, .int p0, .int p1, .int p2, .int p3, junk, junk] (by rfl) (by exact Nat.le_of_ble_eq_true rfl) ?_
  show X (FM (QI L Q)) RX12 cX12_known (some .int) 7 "known" 4 0 0 (L, M) 0 [.ref 92, .int p0, .int p1, .int p2, .int p3, junk, junk] []
  refine X_aload_n 1 dX12_known_0 rfl rfl ?_
  refine X_iconst 2 (v := 0) dX12_known_1 rfl rfl ?_
  refine X_putI 5 f_X12_206 (Or.inl rfl) (hL.ob (c := 12) (by decide) rfl) rfl dX12_known_2 rfl ?_
  refine X_nmM (fun M1 eM1 => ?_)
  have hw := hw M1 eM1
  refine X_aload_n 6 dX12_known_5 rfl rfl ?_
  refine X_iload_n 7 dX12_known_6 rfl rfl ?_
  refine X_iload_n 8 dX12_known_7 rfl rfl ?_
  refine Y_cVZ 11 (as := [.int p0, .int p1]) m_X12_430 (s_X12_isOver hL  hw) (hL.ob (c := 12) (by decide) rfl) rfl (by decide) (Nat.le_of_ble_eq_true rfl) dX12_known_8 rfl rfl (fun x3 M2 bx3 hw => ?_)
  refine X_if_eq 38 14 (y := 0) dX12_known_11 rfl rfl (fun c4 => ?_) (fun c4 => ?_)
  · have hw := hw.1 c4
    refine X_iconst 39 (v := -1) dX12_known_38 rfl rfl ?_
    exact X_ret rfl rfl dX12_known_39 ⟨_, _, rfl, rfl, hw⟩
  · have hw := hw.2 c4
    refine X_iload_n 15 dX12_known_14 rfl rfl ?_
    refine X_iconst 16 (v := 0) dX12_known_15 rfl rfl ?_
    refine X_aload_n 17 dX12_known_16 rfl rfl ?_
    refine X_getR 20 f_X12_7 (hL.ob (c := 12) (by decide) rfl) rfl (hL.rr (by decide) rfl) dX12_known_17 rfl ?_
    refine X_iconst 21 (v := 0) dX12_known_20 rfl rfl ?_
    refine Y_iald 22 (k := 0) (hL.ar (t := 0) (n := 2) (by decide) rfl) (vlit (by decide)) (by decide) dX12_known_21 rfl ?_
    refine Y_cSZ 25 (as := [.int p2, .int (0 : Int32), .int ((mi M2 93 0))]) m_X12_213 (s_X12_within hL  hw) rfl (by decide) (Nat.le_of_ble_eq_true rfl) dX12_known_22 rfl rfl (fun x6 M5 bx6 hw => ?_)
    refine X_if_eq 38 28 (y := 0) dX12_known_25 rfl rfl (fun c7 => ?_) (fun c7 => ?_)
    · have hw := hw.1 c7
      refine X_iconst 39 (v := -1) dX12_known_38 rfl rfl ?_
      exact X_ret rfl rfl dX12_known_39 ⟨_, _, rfl, rfl, hw⟩
    · have hw := hw.2 c7
      refine X_iload 30 dX12_known_28 rfl rfl ?_
      refine X_iconst 31 (v := 0) dX12_known_30 rfl rfl ?_
      refine X_iconst 32 (v := 2) dX12_known_31 rfl rfl ?_
      refine Y_cSZ 35 (as := [.int p3, .int (0 : Int32), .int (2 : Int32)]) m_X12_213 (s_X12_within hL  hw) rfl (by decide) (Nat.le_of_ble_eq_true rfl) dX12_known_32 rfl rfl (fun x9 M8 bx9 hw => ?_)
      refine X_if_ne 40 38 (y := 0) dX12_known_35 rfl rfl (fun c10 => ?_) (fun c10 => ?_)
      · have hw := hw.2 c10
        refine X_aload_n 41 dX12_known_40 rfl rfl ?_
        refine X_iload_n 42 dX12_known_41 rfl rfl ?_
        refine X_iload_n 43 dX12_known_42 rfl rfl ?_
        refine X_iload_n 44 dX12_known_43 rfl rfl ?_
        refine Y_cVI 47 (as := [.int p0, .int p1, .int p2]) m_X12_436 (s_X12_knownLow hL  hw) (hL.ob (c := 12) (by decide) rfl) rfl (by decide) (Nat.le_of_ble_eq_true rfl) dX12_known_44 rfl rfl (fun x12 M11 hw => ?_)
        refine X_istore 49 (ls' := [.ref 92, .int p0, .int p1, .int p2, .int p3, .int x12, junk]) dX12_known_47 rfl (Nat.le_of_ble_eq_true rfl) rfl (Or.inr (Or.inr ⟨_, rfl, rfl⟩)) ?_
        refine X_aload_n 50 dX12_known_49 rfl rfl ?_
        refine X_iload_n 51 dX12_known_50 rfl rfl ?_
        refine X_iload_n 52 dX12_known_51 rfl rfl ?_
        refine X_iload_n 53 dX12_known_52 rfl rfl ?_
        refine Y_cVI 56 (as := [.int p0, .int p1, .int p2]) m_X12_439 (s_X12_knownHigh hL  hw) (hL.ob (c := 12) (by decide) rfl) rfl (by decide) (Nat.le_of_ble_eq_true rfl) dX12_known_53 rfl rfl (fun x14 M13 hw => ?_)
        refine X_istore 58 (ls' := [.ref 92, .int p0, .int p1, .int p2, .int p3, .int x12, .int x14]) dX12_known_56 rfl (Nat.le_of_ble_eq_true rfl) rfl (Or.inr (Or.inr ⟨_, rfl, rfl⟩)) ?_
        refine X_iload 60 dX12_known_58 rfl rfl ?_
        obtain ⟨x15, ex15⟩ : ∃ x15 : Int32, x15 = (if p3 = 0 then x12 else (if p3 = (1 : Int32) then x14 else (if x14 < x12 then (1 : Int32) else (0 : Int32)))) := ⟨_, rfl⟩
        have hw := hw x15 ex15
        have hJ : X (FM (QI L Q)) RX12 cX12_known (some .int) 7 "known" 4 0 0 (L, M13) 91 [.ref 92, .int p0, .int p1, .int p2, .int p3, .int x12, .int x14] [.int x15] := by
          exact X_ret rfl rfl dX12_known_91 ⟨_, _, rfl, rfl, hw⟩
        refine X_if_ne 68 63 (y := 0) dX12_known_60 rfl rfl (fun c16 => ?_) (fun c16 => ?_)
        · refine X_iload 70 dX12_known_68 rfl rfl ?_
          refine X_iconst 71 (v := 1) dX12_known_70 rfl rfl ?_
          refine X_icmp_ne 79 74 dX12_known_71 rfl rfl (fun c17 => ?_) (fun c17 => ?_)
          · refine X_iload 81 dX12_known_79 rfl rfl ?_
            refine X_iload 83 dX12_known_81 rfl rfl ?_
            refine X_icmp_le 90 86 dX12_known_83 rfl rfl (fun c18 => ?_) (fun c18 => ?_)
            · refine X_iconst 91 (v := 0) dX12_known_90 rfl rfl ?_
              rw [if_neg c16, if_neg c17, if_neg c18] at ex15
              rw [ex15] at hJ
              exact hJ
            · refine X_iconst 87 (v := 1) dX12_known_86 rfl rfl ?_
              refine X_goto 91 dX12_known_87 rfl ?_
              rw [if_neg c16, if_neg c17, if_pos c18] at ex15
              rw [ex15] at hJ
              exact hJ
          · refine X_iload 76 dX12_known_74 rfl rfl ?_
            refine X_goto 91 dX12_known_76 rfl ?_
            rw [if_neg c16, if_pos c17] at ex15
            rw [ex15] at hJ
            exact hJ
        · refine X_iload 65 dX12_known_63 rfl rfl ?_
          refine X_goto 91 dX12_known_65 rfl ?_
          rw [if_pos c16] at ex15
          rw [ex15] at hJ
          exact hJ
      · have hw := hw.1 c10
        refine X_iconst 39 (v := -1) dX12_known_38 rfl rfl ?_
        exact X_ret rfl rfl dX12_known_39 ⟨_, _, rfl, rfl, hw⟩
def w_X12_provedOn (L : Lay) (p0 : Int32) (p1 : Int32) (p2 : Int32) (M : Mem) (Q : Int32 → Mem → Prop) : Prop := w_X12_knownLow L p0 p1 p2 M (fun x2 M1 => (w_X12_knownHigh L p0 p1 p2 M1 (fun x4 M3 => (((x4 < x2 → (Q (0 : Int32) M3)) ∧ (¬ x4 < x2 → (vp_in p1 24 ∧ ((((mi M3 128 (tn p1)) < 0 → (Q (0 : Int32) M3)) ∧ (¬ (mi M3 128 (tn p1)) < 0 → (vp_in (((10 : Int32) * p1) + p0) 480 ∧ (Q (jmax (0 : Int32) (x2 - (jmax (0 : Int32) (mi M3 118 (tn (((10 : Int32) * p1) + p0)))))) M3))))))))))))
set_option maxRecDepth 20000 in
theorem s_X12_provedOn {L : Lay} (hL : LY L) {p0 : Int32} {p1 : Int32} {p2 : Int32}  {M : Mem} {Q : Int32 → Mem → Prop} (hw : w_X12_provedOn L p0 p1 p2 M Q) : MX yX12_provedOn cX12_provedOn (some .int) 5 2 0 0 [.ref 92, .int p0, .int p1, .int p2] (L, M) (QI L Q) := by
  unfold w_X12_provedOn at hw
  refine MX_of (by decide) [.ref 92, .int p0, .int p1, .int p2, junk] (by rfl) (by exact Nat.le_of_ble_eq_true rfl) ?_
  show X (FM (QI L Q)) RX12 cX12_provedOn (some .int) 5 "provedOn" 2 0 0 (L, M) 0 [.ref 92, .int p0, .int p1, .int p2, junk] []
  refine X_aload_n 1 dX12_provedOn_0 rfl rfl ?_
  refine X_iload_n 2 dX12_provedOn_1 rfl rfl ?_
  refine X_iload_n 3 dX12_provedOn_2 rfl rfl ?_
  refine X_iload_n 4 dX12_provedOn_3 rfl rfl ?_
  refine Y_cVI 7 (as := [.int p0, .int p1, .int p2]) m_X12_436 (s_X12_knownLow hL  hw) (hL.ob (c := 12) (by decide) rfl) rfl (by decide) (Nat.le_of_ble_eq_true rfl) dX12_provedOn_4 rfl rfl (fun x2 M1 hw => ?_)
  refine X_istore 9 (ls' := [.ref 92, .int p0, .int p1, .int p2, .int x2]) dX12_provedOn_7 rfl (Nat.le_of_ble_eq_true rfl) rfl (Or.inr (Or.inr ⟨_, rfl, rfl⟩)) ?_
  refine X_iload 11 dX12_provedOn_9 rfl rfl ?_
  refine X_aload_n 12 dX12_provedOn_11 rfl rfl ?_
  refine X_iload_n 13 dX12_provedOn_12 rfl rfl ?_
  refine X_iload_n 14 dX12_provedOn_13 rfl rfl ?_
  refine X_iload_n 15 dX12_provedOn_14 rfl rfl ?_
  refine Y_cVI 18 (as := [.int p0, .int p1, .int p2]) m_X12_439 (s_X12_knownHigh hL  hw) (hL.ob (c := 12) (by decide) rfl) rfl (by decide) (Nat.le_of_ble_eq_true rfl) dX12_provedOn_15 rfl rfl (fun x4 M3 hw => ?_)
  refine X_icmp_gt 30 21 dX12_provedOn_18 rfl rfl (fun c5 => ?_) (fun c5 => ?_)
  · have hw := hw.1 c5
    refine X_iconst 31 (v := 0) dX12_provedOn_30 rfl rfl ?_
    exact X_ret rfl rfl dX12_provedOn_31 ⟨_, _, rfl, rfl, hw⟩
  · have hw := hw.2 c5
    refine X_aload_n 22 dX12_provedOn_21 rfl rfl ?_
    refine X_getR 25 f_X12_116 (hL.ob (c := 12) (by decide) rfl) rfl (hL.rr (by decide) rfl) dX12_provedOn_22 rfl ?_
    refine X_iload_n 26 dX12_provedOn_25 rfl rfl ?_
    obtain ⟨c6, hw⟩ := hw
    refine Y_iald 27 (k := (tn p1)) (hL.ar (t := 0) (n := 24) (by decide) rfl) c6 rfl dX12_provedOn_26 rfl ?_
    refine X_if_ge 32 30 (y := 0) dX12_provedOn_27 rfl rfl (fun c7 => ?_) (fun c7 => ?_)
    · have hw := hw.2 c7
      refine X_iconst 33 (v := 0) dX12_provedOn_32 rfl rfl ?_
      refine X_iload 35 dX12_provedOn_33 rfl rfl ?_
      refine X_iconst 36 (v := 0) dX12_provedOn_35 rfl rfl ?_
      refine X_aload_n 37 dX12_provedOn_36 rfl rfl ?_
      refine X_getR 40 f_X12_86 (hL.ob (c := 12) (by decide) rfl) rfl (hL.rr (by decide) rfl) dX12_provedOn_37 rfl ?_
      refine X_bipush 42 (v := 10) dX12_provedOn_40 rfl rfl ?_
      refine X_iload_n 43 dX12_provedOn_42 rfl rfl ?_
      refine X_imul 44 dX12_provedOn_43 rfl ?_
      refine X_iload_n 45 dX12_provedOn_44 rfl rfl ?_
      refine X_iadd 46 dX12_provedOn_45 rfl ?_
      obtain ⟨c8, hw⟩ := hw
      refine Y_iald 47 (k := (tn (((10 : Int32) * p1) + p0))) (hL.ar (t := 0) (n := 480) (by decide) rfl) c8 rfl dX12_provedOn_46 rfl ?_
      refine Y_mmax 50 l_X12_228 (by decide) (Nat.le_of_ble_eq_true rfl) dX12_provedOn_47 rfl ?_
      refine X_isub 51 dX12_provedOn_50 rfl ?_
      refine Y_mmax 54 l_X12_228 (by decide) (Nat.le_of_ble_eq_true rfl) dX12_provedOn_51 rfl ?_
      exact X_ret rfl rfl dX12_provedOn_54 ⟨_, _, rfl, rfl, hw⟩
    · have hw := hw.1 c7
      refine X_iconst 31 (v := 0) dX12_provedOn_30 rfl rfl ?_
      exact X_ret rfl rfl dX12_provedOn_31 ⟨_, _, rfl, rfl, hw⟩
def w_X12_proved (L : Lay) (p0 : Int32) (p1 : Int32) (p2 : Int32) (M : Mem) (Q : Int32 → Mem → Prop) : Prop := ∀ M1 : Mem, M1 = si M 92 0 (0 : Int32) → (w_X12_isOver L p0 p1 M1 (fun x3 M2 => (((x3 = 0 → (Q (-1 : Int32) M2)) ∧ (¬ x3 = 0 → (w_X12_within L p2 (0 : Int32) (mi M2 93 0) M2 (fun x6 M5 => (((x6 = 0 → (Q (-1 : Int32) M5)) ∧ (¬ x6 = 0 → (w_X12_provedOn L p0 p1 p2 M5 (fun x9 M8 => (Q x9 M8)))))))))))))
set_option maxRecDepth 20000 in
theorem s_X12_proved {L : Lay} (hL : LY L) {p0 : Int32} {p1 : Int32} {p2 : Int32}  {M : Mem} {Q : Int32 → Mem → Prop} (hw : w_X12_proved L p0 p1 p2 M Q) : MX yX12_proved cX12_proved (some .int) 4 4 0 0 [.ref 92, .int p0, .int p1, .int p2] (L, M) (QI L Q) := by
  unfold w_X12_proved at hw
  refine MX_of (by decide) [.ref 92, .int p0, .int p1, .int p2] (by rfl) (by exact Nat.le_of_ble_eq_true rfl) ?_
  show X (FM (QI L Q)) RX12 cX12_proved (some .int) 4 "proved" 4 0 0 (L, M) 0 [.ref 92, .int p0, .int p1, .int p2] []
  refine X_aload_n 1 dX12_proved_0 rfl rfl ?_
  refine X_iconst 2 (v := 0) dX12_proved_1 rfl rfl ?_
  refine X_putI 5 f_X12_206 (Or.inl rfl) (hL.ob (c := 12) (by decide) rfl) rfl dX12_proved_2 rfl ?_
  refine X_nmM (fun M1 eM1 => ?_)
  have hw := hw M1 eM1
  refine X_aload_n 6 dX12_proved_5 rfl rfl ?_
  refine X_iload_n 7 dX12_proved_6 rfl rfl ?_
  refine X_iload_n 8 dX12_proved_7 rfl rfl ?_
  refine Y_cVZ 11 (as := [.int p0, .int p1]) m_X12_430 (s_X12_isOver hL  hw) (hL.ob (c := 12) (by decide) rfl) rfl (by decide) (Nat.le_of_ble_eq_true rfl) dX12_proved_8 rfl rfl (fun x3 M2 bx3 hw => ?_)
  refine X_if_eq 38 14 (y := 0) dX12_proved_11 rfl rfl (fun c4 => ?_) (fun c4 => ?_)
  · have hw := hw.1 c4
    refine X_iconst 39 (v := -1) dX12_proved_38 rfl rfl ?_
    exact X_ret rfl rfl dX12_proved_39 ⟨_, _, rfl, rfl, hw⟩
  · have hw := hw.2 c4
    refine X_iload_n 15 dX12_proved_14 rfl rfl ?_
    refine X_iconst 16 (v := 0) dX12_proved_15 rfl rfl ?_
    refine X_aload_n 17 dX12_proved_16 rfl rfl ?_
    refine X_getR 20 f_X12_7 (hL.ob (c := 12) (by decide) rfl) rfl (hL.rr (by decide) rfl) dX12_proved_17 rfl ?_
    refine X_iconst 21 (v := 0) dX12_proved_20 rfl rfl ?_
    refine Y_iald 22 (k := 0) (hL.ar (t := 0) (n := 2) (by decide) rfl) (vlit (by decide)) (by decide) dX12_proved_21 rfl ?_
    refine Y_cSZ 25 (as := [.int p2, .int (0 : Int32), .int ((mi M2 93 0))]) m_X12_213 (s_X12_within hL  hw) rfl (by decide) (Nat.le_of_ble_eq_true rfl) dX12_proved_22 rfl rfl (fun x6 M5 bx6 hw => ?_)
    refine X_if_eq 38 28 (y := 0) dX12_proved_25 rfl rfl (fun c7 => ?_) (fun c7 => ?_)
    · have hw := hw.1 c7
      refine X_iconst 39 (v := -1) dX12_proved_38 rfl rfl ?_
      exact X_ret rfl rfl dX12_proved_39 ⟨_, _, rfl, rfl, hw⟩
    · have hw := hw.2 c7
      refine X_aload_n 29 dX12_proved_28 rfl rfl ?_
      refine X_iload_n 30 dX12_proved_29 rfl rfl ?_
      refine X_iload_n 31 dX12_proved_30 rfl rfl ?_
      refine X_iload_n 32 dX12_proved_31 rfl rfl ?_
      refine Y_cVI 35 (as := [.int p0, .int p1, .int p2]) m_X12_442 (s_X12_provedOn hL  hw) (hL.ob (c := 12) (by decide) rfl) rfl (by decide) (Nat.le_of_ble_eq_true rfl) dX12_proved_32 rfl rfl (fun x9 M8 hw => ?_)
      refine X_goto 39 dX12_proved_35 rfl ?_
      exact X_ret rfl rfl dX12_proved_39 ⟨_, _, rfl, rfl, hw⟩
def w_X12_fine_118 (L : Lay) (p0 : Int32) (p1 : Int32)  (v4 : Int32) (M : Mem) (Q : Int32 → Mem → Prop) : Prop := vp_in p0 20 ∧ (∀ M20 : Mem, M20 = si M 110 (tn p0) ((mi M 110 (tn p0)) - v4) → (Q v4 M20))
set_option maxRecDepth 20000 in
theorem t_X12_fine_118 {L : Lay} (hL : LY L) {p0 : Int32} {p1 : Int32}   {v4 : Int32}  {M : Mem} {Q : Int32 → Mem → Prop} (hw : w_X12_fine_118 L p0 p1  v4 M Q)  : X (FM (QI L Q)) RX12 cX12_fine (some .int) 5 "fine" 6 0 0 (L, M) 118 [.ref 92, .int p0, junk, junk, .int v4] [] := by
  unfold w_X12_fine_118 at hw
  refine X_aload_n 119 dX12_fine_118 rfl rfl ?_
  refine X_getR 122 f_X12_61 (hL.ob (c := 12) (by decide) rfl) rfl (hL.rr (by decide) rfl) dX12_fine_119 rfl ?_
  refine X_iload_n 123 dX12_fine_122 rfl rfl ?_
  refine X_dup2 124 dX12_fine_123 rfl rfl rfl ?_
  obtain ⟨c19, hw⟩ := hw
  refine Y_iald 125 (k := (tn p0)) (hL.ar (t := 0) (n := 20) (by decide) rfl) c19 rfl dX12_fine_124 rfl ?_
  refine X_iload 127 dX12_fine_125 rfl rfl ?_
  refine X_isub 128 dX12_fine_127 rfl ?_
  refine Y_iast 129 (k := (tn p0)) (hL.ar (t := 0) (n := 20) (by decide) rfl) c19 rfl dX12_fine_128 rfl ?_
  refine X_nmM (fun M20 eM20 => ?_)
  have hw := hw M20 eM20
  refine X_iload 131 dX12_fine_129 rfl rfl ?_
  exact X_ret rfl rfl dX12_fine_131 ⟨_, _, rfl, rfl, hw⟩
def w_X12_fine (L : Lay) (p0 : Int32) (p1 : Int32) (M : Mem) (Q : Int32 → Mem → Prop) : Prop := ∀ M1 : Mem, M1 = si M 92 0 (0 : Int32) → (w_X12_isOver L p0 p1 M1 (fun x3 M2 => (((x3 = 0 → (Q (-1 : Int32) M2)) ∧ (¬ x3 = 0 → (vp_in (((10 : Int32) * p1) + p0) 240 ∧ ((((mi M2 154 (tn (((10 : Int32) * p1) + p0))) = 0 → (w_X12_provedOn L p0 p1 (mi M2 93 0) M2 (fun x8 M7 => (((x8 = 0 → (Q (-1 : Int32) M7)) ∧ (¬ x8 = 0 → (∀ M10 : Mem, M10 = si M7 154 (tn (((10 : Int32) * p1) + p0)) (narZ (1 : Int32)) → (vp_in p1 24 ∧ (vp_in (((11 : Int32) * (mi M10 128 (tn p1))) + (2 : Int32)) 286 ∧ ((((mi M10 130 (tn (((11 : Int32) * (mi M10 128 (tn p1))) + (2 : Int32)))) < 0 → (w_X12_fine_118 L p0 p1  (0 : Int32) M10 Q)) ∧ (¬ (mi M10 130 (tn (((11 : Int32) * (mi M10 128 (tn p1))) + (2 : Int32)))) < 0 → (((((mi M10 103 0) &&& (4 : Int32)) = 0 → (∀ M15 : Mem, M15 = si M10 92 68 p0 → (∀ M16 : Mem, M16 = si M15 92 69 x8 → (w_X12_worthWithin L (0 : Int32) (mi M16 128 (tn p1)) (2 : Int32) M16 (fun x18 M17 => (w_X12_fine_118 L p0 p1  x18 M17 Q)))))) ∧ (¬ ((mi M10 103 0) &&& (4 : Int32)) = 0 → (w_X12_fine_118 L p0 p1  (0 : Int32) M10 Q)))))))))))))))) ∧ (¬ (mi M2 154 (tn (((10 : Int32) * p1) + p0))) = 0 → (Q (-1 : Int32) M2))))))))))
set_option maxRecDepth 20000 in
theorem s_X12_fine {L : Lay} (hL : LY L) {p0 : Int32} {p1 : Int32}  {M : Mem} {Q : Int32 → Mem → Prop} (hw : w_X12_fine L p0 p1 M Q) : MX yX12_fine cX12_fine (some .int) 5 6 0 0 [.ref 92, .int p0, .int p1] (L, M) (QI L Q) := by
  unfold w_X12_fine at hw
  refine MX_of (by decide) [.ref 92, .int p0, .int p1, junk, junk] (by rfl) (by exact Nat.le_of_ble_eq_true rfl) ?_
  show X (FM (QI L Q)) RX12 cX12_fine (some .int) 5 "fine" 6 0 0 (L, M) 0 [.ref 92, .int p0, .int p1, junk, junk] []
  refine X_aload_n 1 dX12_fine_0 rfl rfl ?_
  refine X_iconst 2 (v := 0) dX12_fine_1 rfl rfl ?_
  refine X_putI 5 f_X12_206 (Or.inl rfl) (hL.ob (c := 12) (by decide) rfl) rfl dX12_fine_2 rfl ?_
  refine X_nmM (fun M1 eM1 => ?_)
  have hw := hw M1 eM1
  refine X_aload_n 6 dX12_fine_5 rfl rfl ?_
  refine X_iload_n 7 dX12_fine_6 rfl rfl ?_
  refine X_iload_n 8 dX12_fine_7 rfl rfl ?_
  refine Y_cVZ 11 (as := [.int p0, .int p1]) m_X12_430 (s_X12_isOver hL  hw) (hL.ob (c := 12) (by decide) rfl) rfl (by decide) (Nat.le_of_ble_eq_true rfl) dX12_fine_8 rfl rfl (fun x3 M2 bx3 hw => ?_)
  refine X_if_eq 28 14 (y := 0) dX12_fine_11 rfl rfl (fun c4 => ?_) (fun c4 => ?_)
  · have hw := hw.1 c4
    refine X_iconst 29 (v := -1) dX12_fine_28 rfl rfl ?_
    exact X_ret rfl rfl dX12_fine_29 ⟨_, _, rfl, rfl, hw⟩
  · have hw := hw.2 c4
    refine X_aload_n 15 dX12_fine_14 rfl rfl ?_
    refine X_getR 18 f_X12_194 (hL.ob (c := 12) (by decide) rfl) rfl (hL.rr (by decide) rfl) dX12_fine_15 rfl ?_
    refine X_bipush 20 (v := 10) dX12_fine_18 rfl rfl ?_
    refine X_iload_n 21 dX12_fine_20 rfl rfl ?_
    refine X_imul 22 dX12_fine_21 rfl ?_
    refine X_iload_n 23 dX12_fine_22 rfl rfl ?_
    refine X_iadd 24 dX12_fine_23 rfl ?_
    obtain ⟨c5, hw⟩ := hw
    refine Y_zald 25 (k := (tn (((10 : Int32) * p1) + p0))) (hL.ar (t := 1) (n := 240) (by decide) rfl) c5 rfl dX12_fine_24 rfl ?_
    refine X_if_eq 30 28 (y := 0) dX12_fine_25 rfl rfl (fun c6 => ?_) (fun c6 => ?_)
    · have hw := hw.1 c6
      refine X_aload_n 31 dX12_fine_30 rfl rfl ?_
      refine X_iload_n 32 dX12_fine_31 rfl rfl ?_
      refine X_iload_n 33 dX12_fine_32 rfl rfl ?_
      refine X_aload_n 34 dX12_fine_33 rfl rfl ?_
      refine X_getR 37 f_X12_7 (hL.ob (c := 12) (by decide) rfl) rfl (hL.rr (by decide) rfl) dX12_fine_34 rfl ?_
      refine X_iconst 38 (v := 0) dX12_fine_37 rfl rfl ?_
      refine Y_iald 39 (k := 0) (hL.ar (t := 0) (n := 2) (by decide) rfl) (vlit (by decide)) (by decide) dX12_fine_38 rfl ?_
      refine Y_cVI 42 (as := [.int p0, .int p1, .int ((mi M2 93 0))]) m_X12_442 (s_X12_provedOn hL  hw) (hL.ob (c := 12) (by decide) rfl) rfl (by decide) (Nat.le_of_ble_eq_true rfl) dX12_fine_39 rfl rfl (fun x8 M7 hw => ?_)
      refine X_istore_n 43 (ls' := [.ref 92, .int p0, .int p1, .int x8, junk]) dX12_fine_42 rfl rfl (Nat.le_of_ble_eq_true rfl) rfl (Or.inr (Or.inr ⟨_, rfl, rfl⟩)) ?_
      refine X_iload_n 44 dX12_fine_43 rfl rfl ?_
      refine X_if_ne 49 47 (y := 0) dX12_fine_44 rfl rfl (fun c9 => ?_) (fun c9 => ?_)
      · have hw := hw.2 c9
        refine X_aload_n 50 dX12_fine_49 rfl rfl ?_
        refine X_getR 53 f_X12_194 (hL.ob (c := 12) (by decide) rfl) rfl (hL.rr (by decide) rfl) dX12_fine_50 rfl ?_
        refine X_bipush 55 (v := 10) dX12_fine_53 rfl rfl ?_
        refine X_iload_n 56 dX12_fine_55 rfl rfl ?_
        refine X_imul 57 dX12_fine_56 rfl ?_
        refine X_iload_n 58 dX12_fine_57 rfl rfl ?_
        refine X_iadd 59 dX12_fine_58 rfl ?_
        refine X_iconst 60 (v := 1) dX12_fine_59 rfl rfl ?_
        refine Y_zast 61 (k := (tn (((10 : Int32) * p1) + p0))) (hL.ar (t := 1) (n := 240) (by decide) rfl) c5 rfl dX12_fine_60 rfl ?_
        refine X_nmM (fun M10 eM10 => ?_)
        have hw := hw M10 eM10
        refine X_iconst 62 (v := 0) dX12_fine_61 rfl rfl ?_
        refine X_istore 64 (ls' := [.ref 92, .int p0, .int p1, .int x8, .int (0 : Int32)]) dX12_fine_62 rfl (Nat.le_of_ble_eq_true rfl) rfl (Or.inr (Or.inr ⟨_, rfl, rfl⟩)) ?_
        refine X_aload_n 65 dX12_fine_64 rfl rfl ?_
        refine X_getR 68 f_X12_122 (hL.ob (c := 12) (by decide) rfl) rfl (hL.rr (by decide) rfl) dX12_fine_65 rfl ?_
        refine X_bipush 70 (v := 11) dX12_fine_68 rfl rfl ?_
        refine X_aload_n 71 dX12_fine_70 rfl rfl ?_
        refine X_getR 74 f_X12_116 (hL.ob (c := 12) (by decide) rfl) rfl (hL.rr (by decide) rfl) dX12_fine_71 rfl ?_
        refine X_iload_n 75 dX12_fine_74 rfl rfl ?_
        obtain ⟨c11, hw⟩ := hw
        refine Y_iald 76 (k := (tn p1)) (hL.ar (t := 0) (n := 24) (by decide) rfl) c11 rfl dX12_fine_75 rfl ?_
        refine X_imul 77 dX12_fine_76 rfl ?_
        refine X_iconst 78 (v := 2) dX12_fine_77 rfl rfl ?_
        refine X_iadd 79 dX12_fine_78 rfl ?_
        obtain ⟨c12, hw⟩ := hw
        refine Y_iald 80 (k := (tn (((11 : Int32) * (mi M10 128 (tn p1))) + (2 : Int32)))) (hL.ar (t := 0) (n := 286) (by decide) rfl) c12 rfl dX12_fine_79 rfl ?_
        refine X_if_lt 118 83 (y := 0) dX12_fine_80 rfl rfl (fun c13 => ?_) (fun c13 => ?_)
        · have hw := hw.1 c13
          refine X_weak (ls' := [.ref 92, .int p0, junk, junk, .int (0 : Int32)]) (WK.s (WK.s (WK.j (WK.j (WK.s WK.n))))) (Nat.le_of_ble_eq_true rfl) ?_
          exact t_X12_fine_118 hL   hw 
        · have hw := hw.2 c13
          refine X_aload_n 84 dX12_fine_83 rfl rfl ?_
          refine X_getR 87 f_X12_40 (hL.ob (c := 12) (by decide) rfl) rfl (hL.rr (by decide) rfl) dX12_fine_84 rfl ?_
          refine X_iconst 88 (v := 0) dX12_fine_87 rfl rfl ?_
          refine Y_iald 89 (k := 0) (hL.ar (t := 0) (n := 2) (by decide) rfl) (vlit (by decide)) (by decide) dX12_fine_88 rfl ?_
          refine X_iconst 90 (v := 4) dX12_fine_89 rfl rfl ?_
          refine X_iand 91 dX12_fine_90 rfl ?_
          refine X_if_ne 118 94 (y := 0) dX12_fine_91 rfl rfl (fun c14 => ?_) (fun c14 => ?_)
          · have hw := hw.2 c14
            refine X_weak (ls' := [.ref 92, .int p0, junk, junk, .int (0 : Int32)]) (WK.s (WK.s (WK.j (WK.j (WK.s WK.n))))) (Nat.le_of_ble_eq_true rfl) ?_
            exact t_X12_fine_118 hL   hw 
          · have hw := hw.1 c14
            refine X_aload_n 95 dX12_fine_94 rfl rfl ?_
            refine X_iload_n 96 dX12_fine_95 rfl rfl ?_
            refine X_putI 99 f_X12_373 (Or.inl rfl) (hL.ob (c := 12) (by decide) rfl) rfl dX12_fine_96 rfl ?_
            refine X_nmM (fun M15 eM15 => ?_)
            have hw := hw M15 eM15
            refine X_aload_n 100 dX12_fine_99 rfl rfl ?_
            refine X_iload_n 101 dX12_fine_100 rfl rfl ?_
            refine X_putI 104 f_X12_376 (Or.inl rfl) (hL.ob (c := 12) (by decide) rfl) rfl dX12_fine_101 rfl ?_
            refine X_nmM (fun M16 eM16 => ?_)
            have hw := hw M16 eM16
            refine X_aload_n 105 dX12_fine_104 rfl rfl ?_
            refine X_iconst 106 (v := 0) dX12_fine_105 rfl rfl ?_
            refine X_aload_n 107 dX12_fine_106 rfl rfl ?_
            refine X_getR 110 f_X12_116 (hL.ob (c := 12) (by decide) rfl) rfl (hL.rr (by decide) rfl) dX12_fine_107 rfl ?_
            refine X_iload_n 111 dX12_fine_110 rfl rfl ?_
            refine Y_iald 112 (k := (tn p1)) (hL.ar (t := 0) (n := 24) (by decide) rfl) c11 rfl dX12_fine_111 rfl ?_
            refine X_iconst 113 (v := 2) dX12_fine_112 rfl rfl ?_
            refine Y_cVI 116 (as := [.int (0 : Int32), .int ((mi M16 128 (tn p1))), .int (2 : Int32)]) m_X12_398 (s_X12_worthWithin hL  hw) (hL.ob (c := 12) (by decide) rfl) rfl (by decide) (Nat.le_of_ble_eq_true rfl) dX12_fine_113 rfl rfl (fun x18 M17 hw => ?_)
            refine X_istore 118 (ls' := [.ref 92, .int p0, .int p1, .int x8, .int x18]) dX12_fine_116 rfl (Nat.le_of_ble_eq_true rfl) rfl (Or.inr (Or.inr ⟨_, rfl, rfl⟩)) ?_
            refine X_weak (ls' := [.ref 92, .int p0, junk, junk, .int x18]) (WK.s (WK.s (WK.j (WK.j (WK.s WK.n))))) (Nat.le_of_ble_eq_true rfl) ?_
            exact t_X12_fine_118 hL   hw 
      · have hw := hw.1 c9
        refine X_iconst 48 (v := -1) dX12_fine_47 rfl rfl ?_
        exact X_ret rfl rfl dX12_fine_48 ⟨_, _, rfl, rfl, hw⟩
    · have hw := hw.2 c6
      refine X_iconst 29 (v := -1) dX12_fine_28 rfl rfl ?_
      exact X_ret rfl rfl dX12_fine_29 ⟨_, _, rfl, rfl, hw⟩
def w_X12_sale (L : Lay) (p0 : Int32) (p1 : Int32) (p2 : Int32) (M : Mem) (Q : Int32 → Mem → Prop) : Prop := ∀ M1 : Mem, M1 = si M 92 0 (0 : Int32) → (((p0 < (1 : Int32) → (Q (-1 : Int32) M1)) ∧ (¬ p0 < (1 : Int32) → (((p0 < (jshl (1 : Int32) (mi M1 92 28)) → (w_X12_within L p1 (1 : Int32) (9999 : Int32) M1 (fun x5 M4 => (((x5 = 0 → (Q (-1 : Int32) M4)) ∧ (¬ x5 = 0 → (w_X12_within L p2 (1 : Int32) (9999 : Int32) M4 (fun x8 M7 => (((x8 = 0 → (Q (-1 : Int32) M7)) ∧ (¬ x8 = 0 → ((((mi M7 92 80) = (60 : Int32) → (Q (-1 : Int32) M7)) ∧ (¬ (mi M7 92 80) = (60 : Int32) → (vp_in (mi M7 92 80) 60 ∧ (∀ M12 : Mem, M12 = si M7 155 (tn (mi M7 92 80)) p0 → (vp_in (mi M12 92 80) 60 ∧ (∀ M14 : Mem, M14 = si M12 156 (tn (mi M12 92 80)) p1 → (vp_in (mi M14 92 80) 60 ∧ (∀ M16 : Mem, M16 = si M14 157 (tn (mi M14 92 80)) p2 → (∀ M17 : Mem, M17 = si M16 92 80 ((mi M16 92 80) + (1 : Int32)) → (Q ((mi M17 92 80) - (1 : Int32)) M17)))))))))))))))))))))) ∧ (¬ p0 < (jshl (1 : Int32) (mi M1 92 28)) → (Q (-1 : Int32) M1)))))))
set_option maxRecDepth 20000 in
theorem s_X12_sale {L : Lay} (hL : LY L) {p0 : Int32} {p1 : Int32} {p2 : Int32}  {M : Mem} {Q : Int32 → Mem → Prop} (hw : w_X12_sale L p0 p1 p2 M Q) : MX yX12_sale cX12_sale (some .int) 4 2 0 0 [.ref 92, .int p0, .int p1, .int p2] (L, M) (QI L Q) := by
  unfold w_X12_sale at hw
  refine MX_of (by decide) [.ref 92, .int p0, .int p1, .int p2] (by rfl) (by exact Nat.le_of_ble_eq_true rfl) ?_
  show X (FM (QI L Q)) RX12 cX12_sale (some .int) 4 "sale" 2 0 0 (L, M) 0 [.ref 92, .int p0, .int p1, .int p2] []
  refine X_aload_n 1 dX12_sale_0 rfl rfl ?_
  refine X_iconst 2 (v := 0) dX12_sale_1 rfl rfl ?_
  refine X_putI 5 f_X12_206 (Or.inl rfl) (hL.ob (c := 12) (by decide) rfl) rfl dX12_sale_2 rfl ?_
  refine X_nmM (fun M1 eM1 => ?_)
  have hw := hw M1 eM1
  refine X_iload_n 6 dX12_sale_5 rfl rfl ?_
  refine X_iconst 7 (v := 1) dX12_sale_6 rfl rfl ?_
  refine X_icmp_lt 51 10 dX12_sale_7 rfl rfl (fun c2 => ?_) (fun c2 => ?_)
  · have hw := hw.1 c2
    refine X_iconst 52 (v := -1) dX12_sale_51 rfl rfl ?_
    exact X_ret rfl rfl dX12_sale_52 ⟨_, _, rfl, rfl, hw⟩
  · have hw := hw.2 c2
    refine X_iload_n 11 dX12_sale_10 rfl rfl ?_
    refine X_iconst 12 (v := 1) dX12_sale_11 rfl rfl ?_
    refine X_aload_n 13 dX12_sale_12 rfl rfl ?_
    refine X_getI 16 f_X12_210 (hL.ob (c := 12) (by decide) rfl) rfl dX12_sale_13 rfl ?_
    refine Y_ishl 17 dX12_sale_16 rfl ?_
    refine X_icmp_ge 51 20 dX12_sale_17 rfl rfl (fun c3 => ?_) (fun c3 => ?_)
    · have hw := hw.2 c3
      refine X_iconst 52 (v := -1) dX12_sale_51 rfl rfl ?_
      exact X_ret rfl rfl dX12_sale_52 ⟨_, _, rfl, rfl, hw⟩
    · have hw := hw.1 c3
      refine X_iload_n 21 dX12_sale_20 rfl rfl ?_
      refine X_iconst 22 (v := 1) dX12_sale_21 rfl rfl ?_
      refine X_sipush 25 (v := 9999) dX12_sale_22 rfl rfl ?_
      refine Y_cSZ 28 (as := [.int p1, .int (1 : Int32), .int (9999 : Int32)]) m_X12_213 (s_X12_within hL  hw) rfl (by decide) (Nat.le_of_ble_eq_true rfl) dX12_sale_25 rfl rfl (fun x5 M4 bx5 hw => ?_)
      refine X_if_eq 51 31 (y := 0) dX12_sale_28 rfl rfl (fun c6 => ?_) (fun c6 => ?_)
      · have hw := hw.1 c6
        refine X_iconst 52 (v := -1) dX12_sale_51 rfl rfl ?_
        exact X_ret rfl rfl dX12_sale_52 ⟨_, _, rfl, rfl, hw⟩
      · have hw := hw.2 c6
        refine X_iload_n 32 dX12_sale_31 rfl rfl ?_
        refine X_iconst 33 (v := 1) dX12_sale_32 rfl rfl ?_
        refine X_sipush 36 (v := 9999) dX12_sale_33 rfl rfl ?_
        refine Y_cSZ 39 (as := [.int p2, .int (1 : Int32), .int (9999 : Int32)]) m_X12_213 (s_X12_within hL  hw) rfl (by decide) (Nat.le_of_ble_eq_true rfl) dX12_sale_36 rfl rfl (fun x8 M7 bx8 hw => ?_)
        refine X_if_eq 51 42 (y := 0) dX12_sale_39 rfl rfl (fun c9 => ?_) (fun c9 => ?_)
        · have hw := hw.1 c9
          refine X_iconst 52 (v := -1) dX12_sale_51 rfl rfl ?_
          exact X_ret rfl rfl dX12_sale_52 ⟨_, _, rfl, rfl, hw⟩
        · have hw := hw.2 c9
          refine X_aload_n 43 dX12_sale_42 rfl rfl ?_
          refine X_getI 46 f_X12_445 (hL.ob (c := 12) (by decide) rfl) rfl dX12_sale_43 rfl ?_
          refine X_bipush 48 (v := 60) dX12_sale_46 rfl rfl ?_
          refine X_icmp_ne 53 51 dX12_sale_48 rfl rfl (fun c10 => ?_) (fun c10 => ?_)
          · have hw := hw.2 c10
            refine X_aload_n 54 dX12_sale_53 rfl rfl ?_
            refine X_getR 57 f_X12_197 (hL.ob (c := 12) (by decide) rfl) rfl (hL.rr (by decide) rfl) dX12_sale_54 rfl ?_
            refine X_aload_n 58 dX12_sale_57 rfl rfl ?_
            refine X_getI 61 f_X12_445 (hL.ob (c := 12) (by decide) rfl) rfl dX12_sale_58 rfl ?_
            refine X_iload_n 62 dX12_sale_61 rfl rfl ?_
            obtain ⟨c11, hw⟩ := hw
            refine Y_iast 63 (k := (tn (mi M7 92 80))) (hL.ar (t := 0) (n := 60) (by decide) rfl) c11 rfl dX12_sale_62 rfl ?_
            refine X_nmM (fun M12 eM12 => ?_)
            have hw := hw M12 eM12
            refine X_aload_n 64 dX12_sale_63 rfl rfl ?_
            refine X_getR 67 f_X12_200 (hL.ob (c := 12) (by decide) rfl) rfl (hL.rr (by decide) rfl) dX12_sale_64 rfl ?_
            refine X_aload_n 68 dX12_sale_67 rfl rfl ?_
            refine X_getI 71 f_X12_445 (hL.ob (c := 12) (by decide) rfl) rfl dX12_sale_68 rfl ?_
            refine X_iload_n 72 dX12_sale_71 rfl rfl ?_
            obtain ⟨c13, hw⟩ := hw
            refine Y_iast 73 (k := (tn (mi M12 92 80))) (hL.ar (t := 0) (n := 60) (by decide) rfl) c13 rfl dX12_sale_72 rfl ?_
            refine X_nmM (fun M14 eM14 => ?_)
            have hw := hw M14 eM14
            refine X_aload_n 74 dX12_sale_73 rfl rfl ?_
            refine X_getR 77 f_X12_203 (hL.ob (c := 12) (by decide) rfl) rfl (hL.rr (by decide) rfl) dX12_sale_74 rfl ?_
            refine X_aload_n 78 dX12_sale_77 rfl rfl ?_
            refine X_getI 81 f_X12_445 (hL.ob (c := 12) (by decide) rfl) rfl dX12_sale_78 rfl ?_
            refine X_iload_n 82 dX12_sale_81 rfl rfl ?_
            obtain ⟨c15, hw⟩ := hw
            refine Y_iast 83 (k := (tn (mi M14 92 80))) (hL.ar (t := 0) (n := 60) (by decide) rfl) c15 rfl dX12_sale_82 rfl ?_
            refine X_nmM (fun M16 eM16 => ?_)
            have hw := hw M16 eM16
            refine X_aload_n 84 dX12_sale_83 rfl rfl ?_
            refine X_dup 85 dX12_sale_84 rfl rfl ?_
            refine X_getI 88 f_X12_445 (hL.ob (c := 12) (by decide) rfl) rfl dX12_sale_85 rfl ?_
            refine X_iconst 89 (v := 1) dX12_sale_88 rfl rfl ?_
            refine X_iadd 90 dX12_sale_89 rfl ?_
            refine X_putI 93 f_X12_445 (Or.inl rfl) (hL.ob (c := 12) (by decide) rfl) rfl dX12_sale_90 rfl ?_
            refine X_nmM (fun M17 eM17 => ?_)
            have hw := hw M17 eM17
            refine X_aload_n 94 dX12_sale_93 rfl rfl ?_
            refine X_getI 97 f_X12_445 (hL.ob (c := 12) (by decide) rfl) rfl dX12_sale_94 rfl ?_
            refine X_iconst 98 (v := 1) dX12_sale_97 rfl rfl ?_
            refine X_isub 99 dX12_sale_98 rfl ?_
            exact X_ret rfl rfl dX12_sale_99 ⟨_, _, rfl, rfl, hw⟩
          · have hw := hw.1 c10
            refine X_iconst 52 (v := -1) dX12_sale_51 rfl rfl ?_
            exact X_ret rfl rfl dX12_sale_52 ⟨_, _, rfl, rfl, hw⟩
def w_X12_isBad (L : Lay) (p0 : Int32) (M : Mem) (Q : Int32 → Mem → Prop) : Prop := (((mi M 99 0) < 0 → (Q (0 : Int32) M)) ∧ (¬ (mi M 99 0) < 0 → (vp_in (mi M 99 0) 26 ∧ ((((mi M 134 (tn (mi M 99 0))) < 0 → (Q (0 : Int32) M)) ∧ (¬ (mi M 134 (tn (mi M 99 0))) < 0 → (((((mi M 103 0) &&& (32 : Int32)) = 0 → (vp_in p0 60 ∧ (∀ x6 : Int32, x6 = (if ((mi M 156 (tn p0)) * (mi M 134 (tn (mi M 99 0)))) < (((mi M 156 (tn p0)) - (mi M 157 (tn p0))) * (100 : Int32)) then (1 : Int32) else (0 : Int32)) → (Q x6 M)))) ∧ (¬ ((mi M 103 0) &&& (32 : Int32)) = 0 → (Q (0 : Int32) M))))))))))
set_option maxRecDepth 20000 in
theorem s_X12_isBad {L : Lay} (hL : LY L) {p0 : Int32}  {M : Mem} {Q : Int32 → Mem → Prop} (hw : w_X12_isBad L p0 M Q) : MX yX12_isBad cX12_isBad (some .boolean) 2 1 0 0 [.ref 92, .int p0] (L, M) (QZ L Q) := by
  unfold w_X12_isBad at hw
  refine MX_of (by decide) [.ref 92, .int p0] (by rfl) (by exact Nat.le_of_ble_eq_true rfl) ?_
  show X (FM (QZ L Q)) RX12 cX12_isBad (some .boolean) 2 "isBad" 1 0 0 (L, M) 0 [.ref 92, .int p0] []
  refine X_aload_n 1 dX12_isBad_0 rfl rfl ?_
  refine X_getR 4 f_X12_28 (hL.ob (c := 12) (by decide) rfl) rfl (hL.rr (by decide) rfl) dX12_isBad_1 rfl ?_
  refine X_iconst 5 (v := 0) dX12_isBad_4 rfl rfl ?_
  refine Y_iald 6 (k := 0) (hL.ar (t := 0) (n := 2) (by decide) rfl) (vlit (by decide)) (by decide) dX12_isBad_5 rfl ?_
  refine X_if_lt 35 9 (y := 0) dX12_isBad_6 rfl rfl (fun c1 => ?_) (fun c1 => ?_)
  · have hw := hw.1 c1
    refine X_iconst 36 (v := 0) dX12_isBad_35 rfl rfl ?_
    exact X_ret rfl (nar_bool (Or.inl rfl)) dX12_isBad_36 ⟨_, _, rfl, Or.inl rfl, rfl, hw⟩
  · have hw := hw.2 c1
    refine X_aload_n 10 dX12_isBad_9 rfl rfl ?_
    refine X_getR 13 f_X12_134 (hL.ob (c := 12) (by decide) rfl) rfl (hL.rr (by decide) rfl) dX12_isBad_10 rfl ?_
    refine X_aload_n 14 dX12_isBad_13 rfl rfl ?_
    refine X_getR 17 f_X12_28 (hL.ob (c := 12) (by decide) rfl) rfl (hL.rr (by decide) rfl) dX12_isBad_14 rfl ?_
    refine X_iconst 18 (v := 0) dX12_isBad_17 rfl rfl ?_
    refine Y_iald 19 (k := 0) (hL.ar (t := 0) (n := 2) (by decide) rfl) (vlit (by decide)) (by decide) dX12_isBad_18 rfl ?_
    obtain ⟨c2, hw⟩ := hw
    refine Y_iald 20 (k := (tn (mi M 99 0))) (hL.ar (t := 0) (n := 26) (by decide) rfl) c2 rfl dX12_isBad_19 rfl ?_
    refine X_if_lt 35 23 (y := 0) dX12_isBad_20 rfl rfl (fun c3 => ?_) (fun c3 => ?_)
    · have hw := hw.1 c3
      refine X_iconst 36 (v := 0) dX12_isBad_35 rfl rfl ?_
      exact X_ret rfl (nar_bool (Or.inl rfl)) dX12_isBad_36 ⟨_, _, rfl, Or.inl rfl, rfl, hw⟩
    · have hw := hw.2 c3
      refine X_aload_n 24 dX12_isBad_23 rfl rfl ?_
      refine X_getR 27 f_X12_40 (hL.ob (c := 12) (by decide) rfl) rfl (hL.rr (by decide) rfl) dX12_isBad_24 rfl ?_
      refine X_iconst 28 (v := 0) dX12_isBad_27 rfl rfl ?_
      refine Y_iald 29 (k := 0) (hL.ar (t := 0) (n := 2) (by decide) rfl) (vlit (by decide)) (by decide) dX12_isBad_28 rfl ?_
      refine X_bipush 31 (v := 32) dX12_isBad_29 rfl rfl ?_
      refine X_iand 32 dX12_isBad_31 rfl ?_
      refine X_if_eq 37 35 (y := 0) dX12_isBad_32 rfl rfl (fun c4 => ?_) (fun c4 => ?_)
      · have hw := hw.1 c4
        refine X_aload_n 38 dX12_isBad_37 rfl rfl ?_
        refine X_getR 41 f_X12_200 (hL.ob (c := 12) (by decide) rfl) rfl (hL.rr (by decide) rfl) dX12_isBad_38 rfl ?_
        refine X_iload_n 42 dX12_isBad_41 rfl rfl ?_
        obtain ⟨c5, hw⟩ := hw
        refine Y_iald 43 (k := (tn p0)) (hL.ar (t := 0) (n := 60) (by decide) rfl) c5 rfl dX12_isBad_42 rfl ?_
        refine X_aload_n 44 dX12_isBad_43 rfl rfl ?_
        refine X_getR 47 f_X12_203 (hL.ob (c := 12) (by decide) rfl) rfl (hL.rr (by decide) rfl) dX12_isBad_44 rfl ?_
        refine X_iload_n 48 dX12_isBad_47 rfl rfl ?_
        refine Y_iald 49 (k := (tn p0)) (hL.ar (t := 0) (n := 60) (by decide) rfl) c5 rfl dX12_isBad_48 rfl ?_
        refine X_isub 50 dX12_isBad_49 rfl ?_
        refine X_bipush 52 (v := 100) dX12_isBad_50 rfl rfl ?_
        refine X_imul 53 dX12_isBad_52 rfl ?_
        refine X_aload_n 54 dX12_isBad_53 rfl rfl ?_
        refine X_getR 57 f_X12_200 (hL.ob (c := 12) (by decide) rfl) rfl (hL.rr (by decide) rfl) dX12_isBad_54 rfl ?_
        refine X_iload_n 58 dX12_isBad_57 rfl rfl ?_
        refine Y_iald 59 (k := (tn p0)) (hL.ar (t := 0) (n := 60) (by decide) rfl) c5 rfl dX12_isBad_58 rfl ?_
        refine X_aload_n 60 dX12_isBad_59 rfl rfl ?_
        refine X_getR 63 f_X12_134 (hL.ob (c := 12) (by decide) rfl) rfl (hL.rr (by decide) rfl) dX12_isBad_60 rfl ?_
        refine X_aload_n 64 dX12_isBad_63 rfl rfl ?_
        refine X_getR 67 f_X12_28 (hL.ob (c := 12) (by decide) rfl) rfl (hL.rr (by decide) rfl) dX12_isBad_64 rfl ?_
        refine X_iconst 68 (v := 0) dX12_isBad_67 rfl rfl ?_
        refine Y_iald 69 (k := 0) (hL.ar (t := 0) (n := 2) (by decide) rfl) (vlit (by decide)) (by decide) dX12_isBad_68 rfl ?_
        refine Y_iald 70 (k := (tn (mi M 99 0))) (hL.ar (t := 0) (n := 26) (by decide) rfl) c2 rfl dX12_isBad_69 rfl ?_
        refine X_imul 71 dX12_isBad_70 rfl ?_
        obtain ⟨x6, ex6⟩ : ∃ x6 : Int32, x6 = (if ((mi M 156 (tn p0)) * (mi M 134 (tn (mi M 99 0)))) < (((mi M 156 (tn p0)) - (mi M 157 (tn p0))) * (100 : Int32)) then (1 : Int32) else (0 : Int32)) := ⟨_, rfl⟩
        have hw := hw x6 ex6
        have bx6 : BZ x6 := by rw [ex6]; (repeat' split) <;> first | exact Or.inl rfl | exact Or.inr rfl
        have hJ : X (FM (QZ L Q)) RX12 cX12_isBad (some .boolean) 2 "isBad" 1 0 0 (L, M) 79 [.ref 92, .int p0] [.int x6] := by
          exact X_ret rfl (nar_bool (bx6)) dX12_isBad_79 ⟨_, _, rfl, bx6, rfl, hw⟩
        refine X_icmp_le 78 74 dX12_isBad_71 rfl rfl (fun c7 => ?_) (fun c7 => ?_)
        · refine X_iconst 79 (v := 0) dX12_isBad_78 rfl rfl ?_
          rw [if_neg c7] at ex6
          rw [ex6] at hJ
          exact hJ
        · refine X_iconst 75 (v := 1) dX12_isBad_74 rfl rfl ?_
          refine X_goto 79 dX12_isBad_75 rfl ?_
          rw [if_pos c7] at ex6
          rw [ex6] at hJ
          exact hJ
      · have hw := hw.2 c4
        refine X_iconst 36 (v := 0) dX12_isBad_35 rfl rfl ?_
        exact X_ret rfl (nar_bool (Or.inl rfl)) dX12_isBad_36 ⟨_, _, rfl, Or.inl rfl, rfl, hw⟩
def w_X12_bads_4 (L : Lay)  (K4 : Int32 → Int32 → Mem → Prop) (v1 : Int32) (v2 : Int32) (M : Mem) (Q : Int32 → Mem → Prop) : Prop := ((v2 < (mi M 92 80) → (w_X12_isBad L v2 M (fun x3 M2 => (((x3 = 0 → (∀ x5 : Int32, x5 = v2 + (1 : Int32) → (K4 v1 x5 M2))) ∧ (¬ x3 = 0 → (∀ x6 : Int32, x6 = v1 + (1 : Int32) → (∀ x7 : Int32, x7 = v2 + (1 : Int32) → (K4 x6 x7 M2))))))))) ∧ (¬ v2 < (mi M 92 80) → (Q v1 M)))
set_option maxRecDepth 20000 in
theorem t_X12_bads_4 {L : Lay} (hL : LY L)   {K4 : Int32 → Int32 → Mem → Prop} {v1 : Int32} {v2 : Int32}  {M : Mem} {Q : Int32 → Mem → Prop} (hw : w_X12_bads_4 L  K4 v1 v2 M Q) (hK4 : ∀ (v1 : Int32) (v2 : Int32) (M : Mem), K4 v1 v2 M → X (FM (QI L Q)) RX12 cX12_bads (some .int) 3 "bads" 2 0 0 (L, M) 4 [.ref 92, .int v1, .int v2] []) : X (FM (QI L Q)) RX12 cX12_bads (some .int) 3 "bads" 2 0 0 (L, M) 4 [.ref 92, .int v1, .int v2] [] := by
  unfold w_X12_bads_4 at hw
  refine X_iload_n 5 dX12_bads_4 rfl rfl ?_
  refine X_aload_n 6 dX12_bads_5 rfl rfl ?_
  refine X_getI 9 f_X12_445 (hL.ob (c := 12) (by decide) rfl) rfl dX12_bads_6 rfl ?_
  refine X_icmp_ge 29 12 dX12_bads_9 rfl rfl (fun c1 => ?_) (fun c1 => ?_)
  · have hw := hw.2 c1
    refine X_iload_n 30 dX12_bads_29 rfl rfl ?_
    exact X_ret rfl rfl dX12_bads_30 ⟨_, _, rfl, rfl, hw⟩
  · have hw := hw.1 c1
    refine X_aload_n 13 dX12_bads_12 rfl rfl ?_
    refine X_iload_n 14 dX12_bads_13 rfl rfl ?_
    refine Y_cVZ 17 (as := [.int v2]) m_X12_448 (s_X12_isBad hL  hw) (hL.ob (c := 12) (by decide) rfl) rfl (by decide) (Nat.le_of_ble_eq_true rfl) dX12_bads_14 rfl rfl (fun x3 M2 bx3 hw => ?_)
    refine X_if_eq 23 20 (y := 0) dX12_bads_17 rfl rfl (fun c4 => ?_) (fun c4 => ?_)
    · have hw := hw.1 c4
      obtain ⟨x5, ex5⟩ : ∃ x5 : Int32, x5 = v2 + (1 : Int32) := ⟨_, rfl⟩
      have hw := hw x5 ex5
      refine X_iinc 26 (v := x5) (ls' := [.ref 92, .int v1, .int x5]) dX12_bads_23 rfl rfl (by rw [ex5]; rfl) rfl (Or.inr (Or.inr ⟨_, rfl, rfl⟩)) ?_
      refine X_goto 4 dX12_bads_26 rfl ?_
      exact hK4 v1 x5 M2 hw
    · have hw := hw.2 c4
      obtain ⟨x6, ex6⟩ : ∃ x6 : Int32, x6 = v1 + (1 : Int32) := ⟨_, rfl⟩
      have hw := hw x6 ex6
      refine X_iinc 23 (v := x6) (ls' := [.ref 92, .int x6, .int v2]) dX12_bads_20 rfl rfl (by rw [ex6]; rfl) rfl (Or.inr (Or.inr ⟨_, rfl, rfl⟩)) ?_
      obtain ⟨x7, ex7⟩ : ∃ x7 : Int32, x7 = v2 + (1 : Int32) := ⟨_, rfl⟩
      have hw := hw x7 ex7
      refine X_iinc 26 (v := x7) (ls' := [.ref 92, .int x6, .int x7]) dX12_bads_23 rfl rfl (by rw [ex7]; rfl) rfl (Or.inr (Or.inr ⟨_, rfl, rfl⟩)) ?_
      refine X_goto 4 dX12_bads_26 rfl ?_
      exact hK4 x6 x7 M2 hw
def w_X12_bads (L : Lay)  (M : Mem) (Q : Int32 → Mem → Prop) : Prop := LP3 (fun K4 v1 v2 M => w_X12_bads_4 L   K4 v1 v2 M Q) (0 : Int32) (0 : Int32) M
set_option maxRecDepth 20000 in
theorem s_X12_bads {L : Lay} (hL : LY L)   {M : Mem} {Q : Int32 → Mem → Prop} (hw : w_X12_bads L  M Q) : MX yX12_bads cX12_bads (some .int) 3 2 0 0 [.ref 92] (L, M) (QI L Q) := by
  unfold w_X12_bads at hw
  refine MX_of (by decide) [.ref 92, junk, junk] (by rfl) (by exact Nat.le_of_ble_eq_true rfl) ?_
  show X (FM (QI L Q)) RX12 cX12_bads (some .int) 3 "bads" 2 0 0 (L, M) 0 [.ref 92, junk, junk] []
  refine X_iconst 1 (v := 0) dX12_bads_0 rfl rfl ?_
  refine X_istore_n 2 (ls' := [.ref 92, .int (0 : Int32), junk]) dX12_bads_1 rfl rfl (Nat.le_of_ble_eq_true rfl) rfl (Or.inr (Or.inr ⟨_, rfl, rfl⟩)) ?_
  refine X_iconst 3 (v := 0) dX12_bads_2 rfl rfl ?_
  refine X_istore_n 4 (ls' := [.ref 92, .int (0 : Int32), .int (0 : Int32)]) dX12_bads_3 rfl rfl (Nat.le_of_ble_eq_true rfl) rfl (Or.inr (Or.inr ⟨_, rfl, rfl⟩)) ?_
  exact LP3_s hw (G := fun v1 v2 M => X (FM (QI L Q)) RX12 cX12_bads (some .int) 3 "bads" 2 0 0 (L, M) 4 [.ref 92, .int v1, .int v2] []) (fun K4 v1 v2 M hb hK => t_X12_bads_4 hL  hb  hK)
def w_X12_named_73 (L : Lay) (p0 : Int32) (K23 : Int32 → Int32 → Int32 → Mem → Prop) (K73 : Int32 → Int32 → Int32 → Int32 → Int32 → Int32 → Mem → Prop) (v2 : Int32) (v3 : Int32) (v4 : Int32) (v5 : Int32) (v6 : Int32) (v7 : Int32) (M : Mem) (Q : Int32 → Mem → Prop) : Prop := ((v7 < (mi M 92 80) → (w_X12_isBad L v7 M (fun x24 M23 => (((x24 = 0 → (∀ x26 : Int32, x26 = v7 + (1 : Int32) → (K73 v2 v3 v4 v5 v6 x26 M23))) ∧ (¬ x24 = 0 → (vp_in v7 60 ∧ (((((mi M23 155 (tn v7)) &&& v4) = 0 → (∀ x30 : Int32, x30 = v7 + (1 : Int32) → (K73 v2 v3 v4 v5 (0 : Int32) x30 M23))) ∧ (¬ ((mi M23 155 (tn v7)) &&& v4) = 0 → (∀ x29 : Int32, x29 = v7 + (1 : Int32) → (K73 v2 v3 v4 v5 v6 x29 M23)))))))))))) ∧ (¬ v7 < (mi M 92 80) → (((v6 = 0 → (∀ x17 : Int32, x17 = v4 + (1 : Int32) → (K23 v2 v3 x17 M))) ∧ (¬ v6 = 0 → (((v2 < v5 → (∀ x22 : Int32, x22 = v4 + (1 : Int32) → (K23 v2 v3 x22 M))) ∧ (¬ v2 < v5 → (∀ x19 : Int32, x19 = (if v5 < v2 then v4 else (v3 &&& v4)) → (∀ x20 : Int32, x20 = v4 + (1 : Int32) → (K23 v5 x19 x20 M)))))))))))
set_option maxRecDepth 20000 in
theorem t_X12_named_73 {L : Lay} (hL : LY L) {p0 : Int32}  {K23 : Int32 → Int32 → Int32 → Mem → Prop} {K73 : Int32 → Int32 → Int32 → Int32 → Int32 → Int32 → Mem → Prop} {v2 : Int32} {v3 : Int32} {v4 : Int32} {v5 : Int32} {v6 : Int32} {v7 : Int32}  {M : Mem} {Q : Int32 → Mem → Prop} (hw : w_X12_named_73 L p0 K23 K73 v2 v3 v4 v5 v6 v7 M Q) (hK23 : ∀ (v2 : Int32) (v3 : Int32) (v4 : Int32) (M : Mem), K23 v2 v3 v4 M → X (FM (QI L Q)) RX12 cX12_named (some .int) 8 "named" 3 0 0 (L, M) 23 [.ref 92, .int p0, .int v2, .int v3, .int v4, junk, junk, junk] []) (hK73 : ∀ (v2 : Int32) (v3 : Int32) (v4 : Int32) (v5 : Int32) (v6 : Int32) (v7 : Int32) (M : Mem), K73 v2 v3 v4 v5 v6 v7 M → X (FM (QI L Q)) RX12 cX12_named (some .int) 8 "named" 3 0 0 (L, M) 73 [.ref 92, .int p0, .int v2, .int v3, .int v4, .int v5, .int v6, .int v7] []) : X (FM (QI L Q)) RX12 cX12_named (some .int) 8 "named" 3 0 0 (L, M) 73 [.ref 92, .int p0, .int v2, .int v3, .int v4, .int v5, .int v6, .int v7] [] := by
  unfold w_X12_named_73 at hw
  refine X_iload 75 dX12_named_73 rfl rfl ?_
  refine X_aload_n 76 dX12_named_75 rfl rfl ?_
  refine X_getI 79 f_X12_445 (hL.ob (c := 12) (by decide) rfl) rfl dX12_named_76 rfl ?_
  refine X_icmp_ge 113 82 dX12_named_79 rfl rfl (fun c15 => ?_) (fun c15 => ?_)
  · have hw := hw.2 c15
    refine X_iload 115 dX12_named_113 rfl rfl ?_
    refine X_if_eq 146 118 (y := 0) dX12_named_115 rfl rfl (fun c16 => ?_) (fun c16 => ?_)
    · have hw := hw.1 c16
      obtain ⟨x17, ex17⟩ : ∃ x17 : Int32, x17 = v4 + (1 : Int32) := ⟨_, rfl⟩
      have hw := hw x17 ex17
      refine X_iinc 149 (v := x17) (ls' := [.ref 92, .int p0, .int v2, .int v3, .int x17, .int v5, .int v6, .int v7]) dX12_named_146 rfl rfl (by rw [ex17]; rfl) rfl (Or.inr (Or.inr ⟨_, rfl, rfl⟩)) ?_
      refine X_goto 23 dX12_named_149 rfl ?_
      refine X_weak (ls' := [.ref 92, .int p0, .int v2, .int v3, .int x17, junk, junk, junk]) (WK.s (WK.s (WK.s (WK.s (WK.s (WK.j (WK.j (WK.j WK.n)))))))) (Nat.le_of_ble_eq_true rfl) ?_
      exact hK23 v2 v3 x17 M hw
    · have hw := hw.2 c16
      refine X_iload 120 dX12_named_118 rfl rfl ?_
      refine X_iload_n 121 dX12_named_120 rfl rfl ?_
      refine X_icmp_le 127 124 dX12_named_121 rfl rfl (fun c18 => ?_) (fun c18 => ?_)
      · have hw := hw.2 c18
        refine X_iload 129 dX12_named_127 rfl rfl ?_
        refine X_iload_n 130 dX12_named_129 rfl rfl ?_
        obtain ⟨x19, ex19⟩ : ∃ x19 : Int32, x19 = (if v5 < v2 then v4 else (v3 &&& v4)) := ⟨_, rfl⟩
        have hw := hw x19 ex19
        have hJ : X (FM (QI L Q)) RX12 cX12_named (some .int) 8 "named" 3 0 0 (L, M) 142 [.ref 92, .int p0, .int v2, .int v3, .int v4, .int v5, .int v6, .int v7] [.int x19] := by
          refine X_istore_n 143 (ls' := [.ref 92, .int p0, .int v2, .int x19, .int v4, .int v5, .int v6, .int v7]) dX12_named_142 rfl rfl (Nat.le_of_ble_eq_true rfl) rfl (Or.inr (Or.inr ⟨_, rfl, rfl⟩)) ?_
          refine X_iload 145 dX12_named_143 rfl rfl ?_
          refine X_istore_n 146 (ls' := [.ref 92, .int p0, .int v5, .int x19, .int v4, .int v5, .int v6, .int v7]) dX12_named_145 rfl rfl (Nat.le_of_ble_eq_true rfl) rfl (Or.inr (Or.inr ⟨_, rfl, rfl⟩)) ?_
          obtain ⟨x20, ex20⟩ : ∃ x20 : Int32, x20 = v4 + (1 : Int32) := ⟨_, rfl⟩
          have hw := hw x20 ex20
          refine X_iinc 149 (v := x20) (ls' := [.ref 92, .int p0, .int v5, .int x19, .int x20, .int v5, .int v6, .int v7]) dX12_named_146 rfl rfl (by rw [ex20]; rfl) rfl (Or.inr (Or.inr ⟨_, rfl, rfl⟩)) ?_
          refine X_goto 23 dX12_named_149 rfl ?_
          refine X_weak (ls' := [.ref 92, .int p0, .int v5, .int x19, .int x20, junk, junk, junk]) (WK.s (WK.s (WK.s (WK.s (WK.s (WK.j (WK.j (WK.j WK.n)))))))) (Nat.le_of_ble_eq_true rfl) ?_
          exact hK23 v5 x19 x20 M hw
        refine X_icmp_ge 138 133 dX12_named_130 rfl rfl (fun c21 => ?_) (fun c21 => ?_)
        · refine X_iload_n 139 dX12_named_138 rfl rfl ?_
          refine X_iload 141 dX12_named_139 rfl rfl ?_
          refine X_iand 142 dX12_named_141 rfl ?_
          rw [if_neg c21] at ex19
          rw [ex19] at hJ
          exact hJ
        · refine X_iload 135 dX12_named_133 rfl rfl ?_
          refine X_goto 142 dX12_named_135 rfl ?_
          rw [if_pos c21] at ex19
          rw [ex19] at hJ
          exact hJ
      · have hw := hw.1 c18
        refine X_goto 146 dX12_named_124 rfl ?_
        obtain ⟨x22, ex22⟩ : ∃ x22 : Int32, x22 = v4 + (1 : Int32) := ⟨_, rfl⟩
        have hw := hw x22 ex22
        refine X_iinc 149 (v := x22) (ls' := [.ref 92, .int p0, .int v2, .int v3, .int x22, .int v5, .int v6, .int v7]) dX12_named_146 rfl rfl (by rw [ex22]; rfl) rfl (Or.inr (Or.inr ⟨_, rfl, rfl⟩)) ?_
        refine X_goto 23 dX12_named_149 rfl ?_
        refine X_weak (ls' := [.ref 92, .int p0, .int v2, .int v3, .int x22, junk, junk, junk]) (WK.s (WK.s (WK.s (WK.s (WK.s (WK.j (WK.j (WK.j WK.n)))))))) (Nat.le_of_ble_eq_true rfl) ?_
        exact hK23 v2 v3 x22 M hw
  · have hw := hw.1 c15
    refine X_aload_n 83 dX12_named_82 rfl rfl ?_
    refine X_iload 85 dX12_named_83 rfl rfl ?_
    refine Y_cVZ 88 (as := [.int v7]) m_X12_448 (s_X12_isBad hL  hw) (hL.ob (c := 12) (by decide) rfl) rfl (by decide) (Nat.le_of_ble_eq_true rfl) dX12_named_85 rfl rfl (fun x24 M23 bx24 hw => ?_)
    refine X_if_eq 107 91 (y := 0) dX12_named_88 rfl rfl (fun c25 => ?_) (fun c25 => ?_)
    · have hw := hw.1 c25
      obtain ⟨x26, ex26⟩ : ∃ x26 : Int32, x26 = v7 + (1 : Int32) := ⟨_, rfl⟩
      have hw := hw x26 ex26
      refine X_iinc 110 (v := x26) (ls' := [.ref 92, .int p0, .int v2, .int v3, .int v4, .int v5, .int v6, .int x26]) dX12_named_107 rfl rfl (by rw [ex26]; rfl) rfl (Or.inr (Or.inr ⟨_, rfl, rfl⟩)) ?_
      refine X_goto 73 dX12_named_110 rfl ?_
      exact hK73 v2 v3 v4 v5 v6 x26 M23 hw
    · have hw := hw.2 c25
      refine X_aload_n 92 dX12_named_91 rfl rfl ?_
      refine X_getR 95 f_X12_197 (hL.ob (c := 12) (by decide) rfl) rfl (hL.rr (by decide) rfl) dX12_named_92 rfl ?_
      refine X_iload 97 dX12_named_95 rfl rfl ?_
      obtain ⟨c27, hw⟩ := hw
      refine Y_iald 98 (k := (tn v7)) (hL.ar (t := 0) (n := 60) (by decide) rfl) c27 rfl dX12_named_97 rfl ?_
      refine X_iload 100 dX12_named_98 rfl rfl ?_
      refine X_iand 101 dX12_named_100 rfl ?_
      refine X_if_ne 107 104 (y := 0) dX12_named_101 rfl rfl (fun c28 => ?_) (fun c28 => ?_)
      · have hw := hw.2 c28
        obtain ⟨x29, ex29⟩ : ∃ x29 : Int32, x29 = v7 + (1 : Int32) := ⟨_, rfl⟩
        have hw := hw x29 ex29
        refine X_iinc 110 (v := x29) (ls' := [.ref 92, .int p0, .int v2, .int v3, .int v4, .int v5, .int v6, .int x29]) dX12_named_107 rfl rfl (by rw [ex29]; rfl) rfl (Or.inr (Or.inr ⟨_, rfl, rfl⟩)) ?_
        refine X_goto 73 dX12_named_110 rfl ?_
        exact hK73 v2 v3 v4 v5 v6 x29 M23 hw
      · have hw := hw.1 c28
        refine X_iconst 105 (v := 0) dX12_named_104 rfl rfl ?_
        refine X_istore 107 (ls' := [.ref 92, .int p0, .int v2, .int v3, .int v4, .int v5, .int (0 : Int32), .int v7]) dX12_named_105 rfl (Nat.le_of_ble_eq_true rfl) rfl (Or.inr (Or.inr ⟨_, rfl, rfl⟩)) ?_
        obtain ⟨x30, ex30⟩ : ∃ x30 : Int32, x30 = v7 + (1 : Int32) := ⟨_, rfl⟩
        have hw := hw x30 ex30
        refine X_iinc 110 (v := x30) (ls' := [.ref 92, .int p0, .int v2, .int v3, .int v4, .int v5, .int (0 : Int32), .int x30]) dX12_named_107 rfl rfl (by rw [ex30]; rfl) rfl (Or.inr (Or.inr ⟨_, rfl, rfl⟩)) ?_
        refine X_goto 73 dX12_named_110 rfl ?_
        exact hK73 v2 v3 v4 v5 (0 : Int32) x30 M23 hw
def w_X12_named_40 (L : Lay) (p0 : Int32) (K23 : Int32 → Int32 → Int32 → Mem → Prop) (K40 : Int32 → Int32 → Int32 → Int32 → Int32 → Mem → Prop) (v2 : Int32) (v3 : Int32) (v4 : Int32) (v5 : Int32) (v6 : Int32) (M : Mem) (Q : Int32 → Mem → Prop) : Prop := ((v6 < (mi M 92 28) → (∀ x13 : Int32, x13 = (v5 + ((jshr v4 v6) &&& (1 : Int32))) → (∀ x14 : Int32, x14 = v6 + (1 : Int32) → (K40 v2 v3 v4 x13 x14 M)))) ∧ (¬ v6 < (mi M 92 28) → (LP7 (fun K73 v2 v3 v4 v5 v6 v7 M => w_X12_named_73 L p0 K23 K73 v2 v3 v4 v5 v6 v7 M Q) v2 v3 v4 v5 (1 : Int32) (0 : Int32) M)))
set_option maxRecDepth 20000 in
theorem t_X12_named_40 {L : Lay} (hL : LY L) {p0 : Int32}  {K23 : Int32 → Int32 → Int32 → Mem → Prop} {K40 : Int32 → Int32 → Int32 → Int32 → Int32 → Mem → Prop} {v2 : Int32} {v3 : Int32} {v4 : Int32} {v5 : Int32} {v6 : Int32}  {M : Mem} {Q : Int32 → Mem → Prop} (hw : w_X12_named_40 L p0 K23 K40 v2 v3 v4 v5 v6 M Q) (hK23 : ∀ (v2 : Int32) (v3 : Int32) (v4 : Int32) (M : Mem), K23 v2 v3 v4 M → X (FM (QI L Q)) RX12 cX12_named (some .int) 8 "named" 3 0 0 (L, M) 23 [.ref 92, .int p0, .int v2, .int v3, .int v4, junk, junk, junk] []) (hK40 : ∀ (v2 : Int32) (v3 : Int32) (v4 : Int32) (v5 : Int32) (v6 : Int32) (M : Mem), K40 v2 v3 v4 v5 v6 M → X (FM (QI L Q)) RX12 cX12_named (some .int) 8 "named" 3 0 0 (L, M) 40 [.ref 92, .int p0, .int v2, .int v3, .int v4, .int v5, .int v6, junk] []) : X (FM (QI L Q)) RX12 cX12_named (some .int) 8 "named" 3 0 0 (L, M) 40 [.ref 92, .int p0, .int v2, .int v3, .int v4, .int v5, .int v6, junk] [] := by
  unfold w_X12_named_40 at hw
  refine X_iload 42 dX12_named_40 rfl rfl ?_
  refine X_aload_n 43 dX12_named_42 rfl rfl ?_
  refine X_getI 46 f_X12_210 (hL.ob (c := 12) (by decide) rfl) rfl dX12_named_43 rfl ?_
  refine X_icmp_ge 67 49 dX12_named_46 rfl rfl (fun c12 => ?_) (fun c12 => ?_)
  · have hw := hw.2 c12
    refine X_iconst 68 (v := 1) dX12_named_67 rfl rfl ?_
    refine X_istore 70 (ls' := [.ref 92, .int p0, .int v2, .int v3, .int v4, .int v5, .int (1 : Int32), junk]) dX12_named_68 rfl (Nat.le_of_ble_eq_true rfl) rfl (Or.inr (Or.inr ⟨_, rfl, rfl⟩)) ?_
    refine X_iconst 71 (v := 0) dX12_named_70 rfl rfl ?_
    refine X_istore 73 (ls' := [.ref 92, .int p0, .int v2, .int v3, .int v4, .int v5, .int (1 : Int32), .int (0 : Int32)]) dX12_named_71 rfl (Nat.le_of_ble_eq_true rfl) rfl (Or.inr (Or.inr ⟨_, rfl, rfl⟩)) ?_
    exact LP7_s hw (G := fun v2 v3 v4 v5 v6 v7 M => X (FM (QI L Q)) RX12 cX12_named (some .int) 8 "named" 3 0 0 (L, M) 73 [.ref 92, .int p0, .int v2, .int v3, .int v4, .int v5, .int v6, .int v7] []) (fun K73 v2 v3 v4 v5 v6 v7 M hb hK => t_X12_named_73 hL  hb hK23 hK)
  · have hw := hw.1 c12
    refine X_iload 51 dX12_named_49 rfl rfl ?_
    refine X_iload 53 dX12_named_51 rfl rfl ?_
    refine X_iload 55 dX12_named_53 rfl rfl ?_
    refine Y_ishr 56 dX12_named_55 rfl ?_
    refine X_iconst 57 (v := 1) dX12_named_56 rfl rfl ?_
    refine X_iand 58 dX12_named_57 rfl ?_
    refine X_iadd 59 dX12_named_58 rfl ?_
    refine X_nmI (fun x13 ex13 => ?_)
    have hw := hw x13 ex13
    refine X_istore 61 (ls' := [.ref 92, .int p0, .int v2, .int v3, .int v4, .int x13, .int v6, junk]) dX12_named_59 rfl (Nat.le_of_ble_eq_true rfl) rfl (Or.inr (Or.inr ⟨_, rfl, rfl⟩)) ?_
    obtain ⟨x14, ex14⟩ : ∃ x14 : Int32, x14 = v6 + (1 : Int32) := ⟨_, rfl⟩
    have hw := hw x14 ex14
    refine X_iinc 64 (v := x14) (ls' := [.ref 92, .int p0, .int v2, .int v3, .int v4, .int x13, .int x14, junk]) dX12_named_61 rfl rfl (by rw [ex14]; rfl) rfl (Or.inr (Or.inr ⟨_, rfl, rfl⟩)) ?_
    refine X_goto 40 dX12_named_64 rfl ?_
    exact hK40 v2 v3 v4 x13 x14 M hw
def w_X12_named_158 (L : Lay) (p0 : Int32) (K158 : Int32 → Int32 → Int32 → Mem → Prop) (v3 : Int32) (v4 : Int32) (v5 : Int32) (M : Mem) (Q : Int32 → Mem → Prop) : Prop := ((v5 < (mi M 92 28) → (((((jshr v3 v5) &&& (1 : Int32)) = 0 → (∀ x11 : Int32, x11 = v5 + (1 : Int32) → (K158 v3 v4 x11 M))) ∧ (¬ ((jshr v3 v5) &&& (1 : Int32)) = 0 → (((v4 = p0 → (Q v5 M)) ∧ (¬ v4 = p0 → (∀ x9 : Int32, x9 = v4 + (1 : Int32) → (∀ x10 : Int32, x10 = v5 + (1 : Int32) → (K158 v3 x9 x10 M)))))))))) ∧ (¬ v5 < (mi M 92 28) → (Q (-1 : Int32) M)))
set_option maxRecDepth 20000 in
theorem t_X12_named_158 {L : Lay} (hL : LY L) {p0 : Int32}  {K158 : Int32 → Int32 → Int32 → Mem → Prop} {v3 : Int32} {v4 : Int32} {v5 : Int32}  {M : Mem} {Q : Int32 → Mem → Prop} (hw : w_X12_named_158 L p0 K158 v3 v4 v5 M Q) (hK158 : ∀ (v3 : Int32) (v4 : Int32) (v5 : Int32) (M : Mem), K158 v3 v4 v5 M → X (FM (QI L Q)) RX12 cX12_named (some .int) 8 "named" 3 0 0 (L, M) 158 [.ref 92, .int p0, junk, .int v3, .int v4, .int v5, junk, junk] []) : X (FM (QI L Q)) RX12 cX12_named (some .int) 8 "named" 3 0 0 (L, M) 158 [.ref 92, .int p0, junk, .int v3, .int v4, .int v5, junk, junk] [] := by
  unfold w_X12_named_158 at hw
  refine X_iload 160 dX12_named_158 rfl rfl ?_
  refine X_aload_n 161 dX12_named_160 rfl rfl ?_
  refine X_getI 164 f_X12_210 (hL.ob (c := 12) (by decide) rfl) rfl dX12_named_161 rfl ?_
  refine X_icmp_ge 197 167 dX12_named_164 rfl rfl (fun c6 => ?_) (fun c6 => ?_)
  · have hw := hw.2 c6
    refine X_iconst 198 (v := -1) dX12_named_197 rfl rfl ?_
    exact X_ret rfl rfl dX12_named_198 ⟨_, _, rfl, rfl, hw⟩
  · have hw := hw.1 c6
    refine X_iload_n 168 dX12_named_167 rfl rfl ?_
    refine X_iload 170 dX12_named_168 rfl rfl ?_
    refine Y_ishr 171 dX12_named_170 rfl ?_
    refine X_iconst 172 (v := 1) dX12_named_171 rfl rfl ?_
    refine X_iand 173 dX12_named_172 rfl ?_
    refine X_if_ne 179 176 (y := 0) dX12_named_173 rfl rfl (fun c7 => ?_) (fun c7 => ?_)
    · have hw := hw.2 c7
      refine X_iload 181 dX12_named_179 rfl rfl ?_
      refine X_iload_n 182 dX12_named_181 rfl rfl ?_
      refine X_icmp_ne 188 185 dX12_named_182 rfl rfl (fun c8 => ?_) (fun c8 => ?_)
      · have hw := hw.2 c8
        obtain ⟨x9, ex9⟩ : ∃ x9 : Int32, x9 = v4 + (1 : Int32) := ⟨_, rfl⟩
        have hw := hw x9 ex9
        refine X_iinc 191 (v := x9) (ls' := [.ref 92, .int p0, junk, .int v3, .int x9, .int v5, junk, junk]) dX12_named_188 rfl rfl (by rw [ex9]; rfl) rfl (Or.inr (Or.inr ⟨_, rfl, rfl⟩)) ?_
        obtain ⟨x10, ex10⟩ : ∃ x10 : Int32, x10 = v5 + (1 : Int32) := ⟨_, rfl⟩
        have hw := hw x10 ex10
        refine X_iinc 194 (v := x10) (ls' := [.ref 92, .int p0, junk, .int v3, .int x9, .int x10, junk, junk]) dX12_named_191 rfl rfl (by rw [ex10]; rfl) rfl (Or.inr (Or.inr ⟨_, rfl, rfl⟩)) ?_
        refine X_goto 158 dX12_named_194 rfl ?_
        exact hK158 v3 x9 x10 M hw
      · have hw := hw.1 c8
        refine X_iload 187 dX12_named_185 rfl rfl ?_
        exact X_ret rfl rfl dX12_named_187 ⟨_, _, rfl, rfl, hw⟩
    · have hw := hw.1 c7
      refine X_goto 191 dX12_named_176 rfl ?_
      obtain ⟨x11, ex11⟩ : ∃ x11 : Int32, x11 = v5 + (1 : Int32) := ⟨_, rfl⟩
      have hw := hw x11 ex11
      refine X_iinc 194 (v := x11) (ls' := [.ref 92, .int p0, junk, .int v3, .int v4, .int x11, junk, junk]) dX12_named_191 rfl rfl (by rw [ex11]; rfl) rfl (Or.inr (Or.inr ⟨_, rfl, rfl⟩)) ?_
      refine X_goto 158 dX12_named_194 rfl ?_
      exact hK158 v3 v4 x11 M hw
def w_X12_named_23 (L : Lay) (p0 : Int32) (K23 : Int32 → Int32 → Int32 → Mem → Prop) (v2 : Int32) (v3 : Int32) (v4 : Int32) (M : Mem) (Q : Int32 → Mem → Prop) : Prop := ((v4 < (jshl (1 : Int32) (mi M 92 28)) → (LP6 (fun K40 v2 v3 v4 v5 v6 M => w_X12_named_40 L p0 K23 K40 v2 v3 v4 v5 v6 M Q) v2 v3 v4 (0 : Int32) (0 : Int32) M)) ∧ (¬ v4 < (jshl (1 : Int32) (mi M 92 28)) → (LP4 (fun K158 v3 v4 v5 M => w_X12_named_158 L p0  K158 v3 v4 v5 M Q) v3 (0 : Int32) (0 : Int32) M)))
set_option maxRecDepth 20000 in
theorem t_X12_named_23 {L : Lay} (hL : LY L) {p0 : Int32}  {K23 : Int32 → Int32 → Int32 → Mem → Prop} {v2 : Int32} {v3 : Int32} {v4 : Int32}  {M : Mem} {Q : Int32 → Mem → Prop} (hw : w_X12_named_23 L p0 K23 v2 v3 v4 M Q) (hK23 : ∀ (v2 : Int32) (v3 : Int32) (v4 : Int32) (M : Mem), K23 v2 v3 v4 M → X (FM (QI L Q)) RX12 cX12_named (some .int) 8 "named" 3 0 0 (L, M) 23 [.ref 92, .int p0, .int v2, .int v3, .int v4, junk, junk, junk] []) : X (FM (QI L Q)) RX12 cX12_named (some .int) 8 "named" 3 0 0 (L, M) 23 [.ref 92, .int p0, .int v2, .int v3, .int v4, junk, junk, junk] [] := by
  unfold w_X12_named_23 at hw
  refine X_iload 25 dX12_named_23 rfl rfl ?_
  refine X_iconst 26 (v := 1) dX12_named_25 rfl rfl ?_
  refine X_aload_n 27 dX12_named_26 rfl rfl ?_
  refine X_getI 30 f_X12_210 (hL.ob (c := 12) (by decide) rfl) rfl dX12_named_27 rfl ?_
  refine Y_ishl 31 dX12_named_30 rfl ?_
  refine X_icmp_ge 152 34 dX12_named_31 rfl rfl (fun c5 => ?_) (fun c5 => ?_)
  · have hw := hw.2 c5
    refine X_iconst 153 (v := 0) dX12_named_152 rfl rfl ?_
    refine X_istore 155 (ls' := [.ref 92, .int p0, .int v2, .int v3, .int (0 : Int32), junk, junk, junk]) dX12_named_153 rfl (Nat.le_of_ble_eq_true rfl) rfl (Or.inr (Or.inr ⟨_, rfl, rfl⟩)) ?_
    refine X_iconst 156 (v := 0) dX12_named_155 rfl rfl ?_
    refine X_istore 158 (ls' := [.ref 92, .int p0, .int v2, .int v3, .int (0 : Int32), .int (0 : Int32), junk, junk]) dX12_named_156 rfl (Nat.le_of_ble_eq_true rfl) rfl (Or.inr (Or.inr ⟨_, rfl, rfl⟩)) ?_
    refine X_weak (ls' := [.ref 92, .int p0, junk, .int v3, .int (0 : Int32), .int (0 : Int32), junk, junk]) (WK.s (WK.s (WK.j (WK.s (WK.s (WK.s (WK.s (WK.s WK.n)))))))) (Nat.le_of_ble_eq_true rfl) ?_
    exact LP4_s hw (G := fun v3 v4 v5 M => X (FM (QI L Q)) RX12 cX12_named (some .int) 8 "named" 3 0 0 (L, M) 158 [.ref 92, .int p0, junk, .int v3, .int v4, .int v5, junk, junk] []) (fun K158 v3 v4 v5 M hb hK => t_X12_named_158 hL  hb  hK)
  · have hw := hw.1 c5
    refine X_iconst 35 (v := 0) dX12_named_34 rfl rfl ?_
    refine X_istore 37 (ls' := [.ref 92, .int p0, .int v2, .int v3, .int v4, .int (0 : Int32), junk, junk]) dX12_named_35 rfl (Nat.le_of_ble_eq_true rfl) rfl (Or.inr (Or.inr ⟨_, rfl, rfl⟩)) ?_
    refine X_iconst 38 (v := 0) dX12_named_37 rfl rfl ?_
    refine X_istore 40 (ls' := [.ref 92, .int p0, .int v2, .int v3, .int v4, .int (0 : Int32), .int (0 : Int32), junk]) dX12_named_38 rfl (Nat.le_of_ble_eq_true rfl) rfl (Or.inr (Or.inr ⟨_, rfl, rfl⟩)) ?_
    exact LP6_s hw (G := fun v2 v3 v4 v5 v6 M => X (FM (QI L Q)) RX12 cX12_named (some .int) 8 "named" 3 0 0 (L, M) 40 [.ref 92, .int p0, .int v2, .int v3, .int v4, .int v5, .int v6, junk] []) (fun K40 v2 v3 v4 v5 v6 M hb hK => t_X12_named_40 hL  hb hK23 hK)
def w_X12_named (L : Lay) (p0 : Int32) (M : Mem) (Q : Int32 → Mem → Prop) : Prop := ∀ M1 : Mem, M1 = si M 92 0 (0 : Int32) → (w_X12_bads L  M1 (fun x3 M2 => (((x3 < (2 : Int32) → (Q (-1 : Int32) M2)) ∧ (¬ x3 < (2 : Int32) → (LP4 (fun K23 v2 v3 v4 M => w_X12_named_23 L p0  K23 v2 v3 v4 M Q) (11 : Int32) (0 : Int32) (0 : Int32) M2))))))
set_option maxRecDepth 20000 in
theorem s_X12_named {L : Lay} (hL : LY L) {p0 : Int32}  {M : Mem} {Q : Int32 → Mem → Prop} (hw : w_X12_named L p0 M Q) : MX yX12_named cX12_named (some .int) 8 3 0 0 [.ref 92, .int p0] (L, M) (QI L Q) := by
  unfold w_X12_named at hw
  refine MX_of (by decide) [.ref 92, .int p0, junk, junk, junk, junk, junk, junk] (by rfl) (by exact Nat.le_of_ble_eq_true rfl) ?_
  show X (FM (QI L Q)) RX12 cX12_named (some .int) 8 "named" 3 0 0 (L, M) 0 [.ref 92, .int p0, junk, junk, junk, junk, junk, junk] []
  refine X_aload_n 1 dX12_named_0 rfl rfl ?_
  refine X_iconst 2 (v := 0) dX12_named_1 rfl rfl ?_
  refine X_putI 5 f_X12_206 (Or.inl rfl) (hL.ob (c := 12) (by decide) rfl) rfl dX12_named_2 rfl ?_
  refine X_nmM (fun M1 eM1 => ?_)
  have hw := hw M1 eM1
  refine X_aload_n 6 dX12_named_5 rfl rfl ?_
  refine Y_cVI 9 (as := []) m_X12_451 (s_X12_bads hL  hw) (hL.ob (c := 12) (by decide) rfl) rfl (by decide) (Nat.le_of_ble_eq_true rfl) dX12_named_6 rfl rfl (fun x3 M2 hw => ?_)
  refine X_iconst 10 (v := 2) dX12_named_9 rfl rfl ?_
  refine X_icmp_ge 15 13 dX12_named_10 rfl rfl (fun c4 => ?_) (fun c4 => ?_)
  · have hw := hw.2 c4
    refine X_bipush 17 (v := 11) dX12_named_15 rfl rfl ?_
    refine X_istore_n 18 (ls' := [.ref 92, .int p0, .int (11 : Int32), junk, junk, junk, junk, junk]) dX12_named_17 rfl rfl (Nat.le_of_ble_eq_true rfl) rfl (Or.inr (Or.inr ⟨_, rfl, rfl⟩)) ?_
    refine X_iconst 19 (v := 0) dX12_named_18 rfl rfl ?_
    refine X_istore_n 20 (ls' := [.ref 92, .int p0, .int (11 : Int32), .int (0 : Int32), junk, junk, junk, junk]) dX12_named_19 rfl rfl (Nat.le_of_ble_eq_true rfl) rfl (Or.inr (Or.inr ⟨_, rfl, rfl⟩)) ?_
    refine X_iconst 21 (v := 0) dX12_named_20 rfl rfl ?_
    refine X_istore 23 (ls' := [.ref 92, .int p0, .int (11 : Int32), .int (0 : Int32), .int (0 : Int32), junk, junk, junk]) dX12_named_21 rfl (Nat.le_of_ble_eq_true rfl) rfl (Or.inr (Or.inr ⟨_, rfl, rfl⟩)) ?_
    exact LP4_s hw (G := fun v2 v3 v4 M => X (FM (QI L Q)) RX12 cX12_named (some .int) 8 "named" 3 0 0 (L, M) 23 [.ref 92, .int p0, .int v2, .int v3, .int v4, junk, junk, junk] []) (fun K23 v2 v3 v4 M hb hK => t_X12_named_23 hL  hb  hK)
  · have hw := hw.1 c4
    refine X_iconst 14 (v := -1) dX12_named_13 rfl rfl ?_
    exact X_ret rfl rfl dX12_named_14 ⟨_, _, rfl, rfl, hw⟩
def w_X12_tries_485 (L : Lay) (p0 : Int32) (p1 : Int32) (p2 : Int32) (p3 : Int32) (K485 : Int32 → Mem → Prop) (v5 : Int32) (M : Mem) (Q : Mem → Prop) : Prop := ((v5 < p1 → ((((mi M 93 1) < (720 : Int32) → (w_X12_day L (1 : Int32) p2 p3 M (fun M52 => (∀ x53 : Int32, x53 = v5 + (1 : Int32) → (K485 x53 M52))))) ∧ (¬ (mi M 93 1) < (720 : Int32) → (Q M))))) ∧ (¬ v5 < p1 → (Q M)))
set_option maxRecDepth 20000 in
theorem t_X12_tries_485 {L : Lay} (hL : LY L) {p0 : Int32} {p1 : Int32} {p2 : Int32} {p3 : Int32}  {K485 : Int32 → Mem → Prop} {v5 : Int32}  {M : Mem} {Q : Mem → Prop} (hw : w_X12_tries_485 L p0 p1 p2 p3 K485 v5 M Q) (hK485 : ∀ (v5 : Int32) (M : Mem), K485 v5 M → X (FM (QV L Q)) RX12 cX12_tries none 6 "tries" 8 0 0 (L, M) 485 [.ref 92, junk, .int p1, .int p2, .int p3, .int v5] []) : X (FM (QV L Q)) RX12 cX12_tries none 6 "tries" 8 0 0 (L, M) 485 [.ref 92, junk, .int p1, .int p2, .int p3, .int v5] [] := by
  unfold w_X12_tries_485 at hw
  refine X_iload 487 dX12_tries_485 rfl rfl ?_
  refine X_iload_n 488 dX12_tries_487 rfl rfl ?_
  refine X_icmp_ge 517 491 dX12_tries_488 rfl rfl (fun c50 => ?_) (fun c50 => ?_)
  · have hw := hw.2 c50
    exact X_retV rfl dX12_tries_517 ⟨_, rfl, rfl, hw⟩
  · have hw := hw.1 c50
    refine X_aload_n 492 dX12_tries_491 rfl rfl ?_
    refine X_getR 495 f_X12_7 (hL.ob (c := 12) (by decide) rfl) rfl (hL.rr (by decide) rfl) dX12_tries_492 rfl ?_
    refine X_iconst 496 (v := 1) dX12_tries_495 rfl rfl ?_
    refine Y_iald 497 (k := 1) (hL.ar (t := 0) (n := 2) (by decide) rfl) (vlit (by decide)) (by decide) dX12_tries_496 rfl ?_
    refine X_sipush 500 (v := 720) dX12_tries_497 rfl rfl ?_
    refine X_icmp_ge 517 503 dX12_tries_500 rfl rfl (fun c51 => ?_) (fun c51 => ?_)
    · have hw := hw.2 c51
      exact X_retV rfl dX12_tries_517 ⟨_, rfl, rfl, hw⟩
    · have hw := hw.1 c51
      refine X_aload_n 504 dX12_tries_503 rfl rfl ?_
      refine X_iconst 505 (v := 1) dX12_tries_504 rfl rfl ?_
      refine X_iload_n 506 dX12_tries_505 rfl rfl ?_
      refine X_iload 508 dX12_tries_506 rfl rfl ?_
      refine Y_cVV 511 (as := [.int (1 : Int32), .int p2, .int p3]) m_X12_426 (s_X12_day hL  hw) (hL.ob (c := 12) (by decide) rfl) rfl (by decide) (Nat.le_of_ble_eq_true rfl) dX12_tries_508 rfl rfl (fun M52 hw => ?_)
      obtain ⟨x53, ex53⟩ : ∃ x53 : Int32, x53 = v5 + (1 : Int32) := ⟨_, rfl⟩
      have hw := hw x53 ex53
      refine X_iinc 514 (v := x53) (ls' := [.ref 92, junk, .int p1, .int p2, .int p3, .int x53]) dX12_tries_511 rfl rfl (by rw [ex53]; rfl) rfl (Or.inr (Or.inr ⟨_, rfl, rfl⟩)) ?_
      refine X_goto 485 dX12_tries_514 rfl ?_
      exact hK485 x53 M52 hw
def w_X12_tries_450 (L : Lay) (p0 : Int32) (p1 : Int32) (p2 : Int32) (p3 : Int32) (K450 : Int32 → Mem → Prop) (v5 : Int32) (M : Mem) (Q : Mem → Prop) : Prop := (((720 : Int32) < v5 → (LP2 (fun K485 v5 M => w_X12_tries_485 L p0 p1 p2 p3  K485 v5 M Q) (0 : Int32) M)) ∧ (¬ (720 : Int32) < v5 → (vp_in v5 1442 ∧ (vp_in ((721 : Int32) + v5) 1442 ∧ (∀ M48 : Mem, M48 = si M 119 (tn ((721 : Int32) + v5)) (narZ (mi M 119 (tn v5))) → (∀ x49 : Int32, x49 = v5 + (1 : Int32) → (K450 x49 M48)))))))
set_option maxRecDepth 20000 in
theorem t_X12_tries_450 {L : Lay} (hL : LY L) {p0 : Int32} {p1 : Int32} {p2 : Int32} {p3 : Int32}  {K450 : Int32 → Mem → Prop} {v5 : Int32}  {M : Mem} {Q : Mem → Prop} (hw : w_X12_tries_450 L p0 p1 p2 p3 K450 v5 M Q) (hK450 : ∀ (v5 : Int32) (M : Mem), K450 v5 M → X (FM (QV L Q)) RX12 cX12_tries none 6 "tries" 8 0 0 (L, M) 450 [.ref 92, junk, .int p1, .int p2, .int p3, .int v5] []) : X (FM (QV L Q)) RX12 cX12_tries none 6 "tries" 8 0 0 (L, M) 450 [.ref 92, junk, .int p1, .int p2, .int p3, .int v5] [] := by
  unfold w_X12_tries_450 at hw
  refine X_iload 452 dX12_tries_450 rfl rfl ?_
  refine X_sipush 455 (v := 720) dX12_tries_452 rfl rfl ?_
  refine X_icmp_gt 482 458 dX12_tries_455 rfl rfl (fun c45 => ?_) (fun c45 => ?_)
  · have hw := hw.1 c45
    refine X_iconst 483 (v := 0) dX12_tries_482 rfl rfl ?_
    refine X_istore 485 (ls' := [.ref 92, junk, .int p1, .int p2, .int p3, .int (0 : Int32)]) dX12_tries_483 rfl (Nat.le_of_ble_eq_true rfl) rfl (Or.inr (Or.inr ⟨_, rfl, rfl⟩)) ?_
    exact LP2_s hw (G := fun v5 M => X (FM (QV L Q)) RX12 cX12_tries none 6 "tries" 8 0 0 (L, M) 485 [.ref 92, junk, .int p1, .int p2, .int p3, .int v5] []) (fun K485 v5 M hb hK => t_X12_tries_485 hL  hb  hK)
  · have hw := hw.2 c45
    refine X_aload_n 459 dX12_tries_458 rfl rfl ?_
    refine X_getR 462 f_X12_89 (hL.ob (c := 12) (by decide) rfl) rfl (hL.rr (by decide) rfl) dX12_tries_459 rfl ?_
    refine X_sipush 465 (v := 721) dX12_tries_462 rfl rfl ?_
    refine X_iload 467 dX12_tries_465 rfl rfl ?_
    refine X_iadd 468 dX12_tries_467 rfl ?_
    refine X_aload_n 469 dX12_tries_468 rfl rfl ?_
    refine X_getR 472 f_X12_89 (hL.ob (c := 12) (by decide) rfl) rfl (hL.rr (by decide) rfl) dX12_tries_469 rfl ?_
    refine X_iload 474 dX12_tries_472 rfl rfl ?_
    obtain ⟨c46, hw⟩ := hw
    refine Y_zald 475 (k := (tn v5)) (hL.ar (t := 1) (n := 1442) (by decide) rfl) c46 rfl dX12_tries_474 rfl ?_
    obtain ⟨c47, hw⟩ := hw
    refine Y_zast 476 (k := (tn ((721 : Int32) + v5))) (hL.ar (t := 1) (n := 1442) (by decide) rfl) c47 rfl dX12_tries_475 rfl ?_
    refine X_nmM (fun M48 eM48 => ?_)
    have hw := hw M48 eM48
    obtain ⟨x49, ex49⟩ : ∃ x49 : Int32, x49 = v5 + (1 : Int32) := ⟨_, rfl⟩
    have hw := hw x49 ex49
    refine X_iinc 479 (v := x49) (ls' := [.ref 92, junk, .int p1, .int p2, .int p3, .int x49]) dX12_tries_476 rfl rfl (by rw [ex49]; rfl) rfl (Or.inr (Or.inr ⟨_, rfl, rfl⟩)) ?_
    refine X_goto 450 dX12_tries_479 rfl ?_
    exact hK450 x49 M48 hw
def w_X12_tries_397 (L : Lay) (p0 : Int32) (p1 : Int32) (p2 : Int32) (p3 : Int32) (K397 : Int32 → Mem → Prop) (v5 : Int32) (M : Mem) (Q : Mem → Prop) : Prop := ((v5 < (240 : Int32) → (vp_in v5 480 ∧ (vp_in ((240 : Int32) + v5) 480 ∧ (∀ M42 : Mem, M42 = si M 117 (tn ((240 : Int32) + v5)) (mi M 117 (tn v5)) → (∀ M43 : Mem, M43 = si M42 118 (tn ((240 : Int32) + v5)) (mi M42 118 (tn v5)) → (∀ x44 : Int32, x44 = v5 + (1 : Int32) → (K397 x44 M43))))))) ∧ (¬ v5 < (240 : Int32) → (LP2 (fun K450 v5 M => w_X12_tries_450 L p0 p1 p2 p3  K450 v5 M Q) (0 : Int32) M)))
set_option maxRecDepth 20000 in
theorem t_X12_tries_397 {L : Lay} (hL : LY L) {p0 : Int32} {p1 : Int32} {p2 : Int32} {p3 : Int32}  {K397 : Int32 → Mem → Prop} {v5 : Int32}  {M : Mem} {Q : Mem → Prop} (hw : w_X12_tries_397 L p0 p1 p2 p3 K397 v5 M Q) (hK397 : ∀ (v5 : Int32) (M : Mem), K397 v5 M → X (FM (QV L Q)) RX12 cX12_tries none 6 "tries" 8 0 0 (L, M) 397 [.ref 92, junk, .int p1, .int p2, .int p3, .int v5] []) : X (FM (QV L Q)) RX12 cX12_tries none 6 "tries" 8 0 0 (L, M) 397 [.ref 92, junk, .int p1, .int p2, .int p3, .int v5] [] := by
  unfold w_X12_tries_397 at hw
  refine X_iload 399 dX12_tries_397 rfl rfl ?_
  refine X_sipush 402 (v := 240) dX12_tries_399 rfl rfl ?_
  refine X_icmp_ge 447 405 dX12_tries_402 rfl rfl (fun c39 => ?_) (fun c39 => ?_)
  · have hw := hw.2 c39
    refine X_iconst 448 (v := 0) dX12_tries_447 rfl rfl ?_
    refine X_istore 450 (ls' := [.ref 92, junk, .int p1, .int p2, .int p3, .int (0 : Int32)]) dX12_tries_448 rfl (Nat.le_of_ble_eq_true rfl) rfl (Or.inr (Or.inr ⟨_, rfl, rfl⟩)) ?_
    exact LP2_s hw (G := fun v5 M => X (FM (QV L Q)) RX12 cX12_tries none 6 "tries" 8 0 0 (L, M) 450 [.ref 92, junk, .int p1, .int p2, .int p3, .int v5] []) (fun K450 v5 M hb hK => t_X12_tries_450 hL  hb  hK)
  · have hw := hw.1 c39
    refine X_aload_n 406 dX12_tries_405 rfl rfl ?_
    refine X_getR 409 f_X12_83 (hL.ob (c := 12) (by decide) rfl) rfl (hL.rr (by decide) rfl) dX12_tries_406 rfl ?_
    refine X_sipush 412 (v := 240) dX12_tries_409 rfl rfl ?_
    refine X_iload 414 dX12_tries_412 rfl rfl ?_
    refine X_iadd 415 dX12_tries_414 rfl ?_
    refine X_aload_n 416 dX12_tries_415 rfl rfl ?_
    refine X_getR 419 f_X12_83 (hL.ob (c := 12) (by decide) rfl) rfl (hL.rr (by decide) rfl) dX12_tries_416 rfl ?_
    refine X_iload 421 dX12_tries_419 rfl rfl ?_
    obtain ⟨c40, hw⟩ := hw
    refine Y_iald 422 (k := (tn v5)) (hL.ar (t := 0) (n := 480) (by decide) rfl) c40 rfl dX12_tries_421 rfl ?_
    obtain ⟨c41, hw⟩ := hw
    refine Y_iast 423 (k := (tn ((240 : Int32) + v5))) (hL.ar (t := 0) (n := 480) (by decide) rfl) c41 rfl dX12_tries_422 rfl ?_
    refine X_nmM (fun M42 eM42 => ?_)
    have hw := hw M42 eM42
    refine X_aload_n 424 dX12_tries_423 rfl rfl ?_
    refine X_getR 427 f_X12_86 (hL.ob (c := 12) (by decide) rfl) rfl (hL.rr (by decide) rfl) dX12_tries_424 rfl ?_
    refine X_sipush 430 (v := 240) dX12_tries_427 rfl rfl ?_
    refine X_iload 432 dX12_tries_430 rfl rfl ?_
    refine X_iadd 433 dX12_tries_432 rfl ?_
    refine X_aload_n 434 dX12_tries_433 rfl rfl ?_
    refine X_getR 437 f_X12_86 (hL.ob (c := 12) (by decide) rfl) rfl (hL.rr (by decide) rfl) dX12_tries_434 rfl ?_
    refine X_iload 439 dX12_tries_437 rfl rfl ?_
    refine Y_iald 440 (k := (tn v5)) (hL.ar (t := 0) (n := 480) (by decide) rfl) c40 rfl dX12_tries_439 rfl ?_
    refine Y_iast 441 (k := (tn ((240 : Int32) + v5))) (hL.ar (t := 0) (n := 480) (by decide) rfl) c41 rfl dX12_tries_440 rfl ?_
    refine X_nmM (fun M43 eM43 => ?_)
    have hw := hw M43 eM43
    obtain ⟨x44, ex44⟩ : ∃ x44 : Int32, x44 = v5 + (1 : Int32) := ⟨_, rfl⟩
    have hw := hw x44 ex44
    refine X_iinc 444 (v := x44) (ls' := [.ref 92, junk, .int p1, .int p2, .int p3, .int x44]) dX12_tries_441 rfl rfl (by rw [ex44]; rfl) rfl (Or.inr (Or.inr ⟨_, rfl, rfl⟩)) ?_
    refine X_goto 397 dX12_tries_444 rfl ?_
    exact hK397 x44 M43 hw
def w_X12_tries_364 (L : Lay) (p0 : Int32) (p1 : Int32) (p2 : Int32) (p3 : Int32) (K364 : Int32 → Mem → Prop) (v5 : Int32) (M : Mem) (Q : Mem → Prop) : Prop := ((v5 < (96 : Int32) → (vp_in v5 192 ∧ (vp_in ((96 : Int32) + v5) 192 ∧ (∀ M37 : Mem, M37 = si M 116 (tn ((96 : Int32) + v5)) (mi M 116 (tn v5)) → (∀ x38 : Int32, x38 = v5 + (1 : Int32) → (K364 x38 M37)))))) ∧ (¬ v5 < (96 : Int32) → (LP2 (fun K397 v5 M => w_X12_tries_397 L p0 p1 p2 p3  K397 v5 M Q) (0 : Int32) M)))
set_option maxRecDepth 20000 in
theorem t_X12_tries_364 {L : Lay} (hL : LY L) {p0 : Int32} {p1 : Int32} {p2 : Int32} {p3 : Int32}  {K364 : Int32 → Mem → Prop} {v5 : Int32}  {M : Mem} {Q : Mem → Prop} (hw : w_X12_tries_364 L p0 p1 p2 p3 K364 v5 M Q) (hK364 : ∀ (v5 : Int32) (M : Mem), K364 v5 M → X (FM (QV L Q)) RX12 cX12_tries none 6 "tries" 8 0 0 (L, M) 364 [.ref 92, junk, .int p1, .int p2, .int p3, .int v5] []) : X (FM (QV L Q)) RX12 cX12_tries none 6 "tries" 8 0 0 (L, M) 364 [.ref 92, junk, .int p1, .int p2, .int p3, .int v5] [] := by
  unfold w_X12_tries_364 at hw
  refine X_iload 366 dX12_tries_364 rfl rfl ?_
  refine X_bipush 368 (v := 96) dX12_tries_366 rfl rfl ?_
  refine X_icmp_ge 394 371 dX12_tries_368 rfl rfl (fun c34 => ?_) (fun c34 => ?_)
  · have hw := hw.2 c34
    refine X_iconst 395 (v := 0) dX12_tries_394 rfl rfl ?_
    refine X_istore 397 (ls' := [.ref 92, junk, .int p1, .int p2, .int p3, .int (0 : Int32)]) dX12_tries_395 rfl (Nat.le_of_ble_eq_true rfl) rfl (Or.inr (Or.inr ⟨_, rfl, rfl⟩)) ?_
    exact LP2_s hw (G := fun v5 M => X (FM (QV L Q)) RX12 cX12_tries none 6 "tries" 8 0 0 (L, M) 397 [.ref 92, junk, .int p1, .int p2, .int p3, .int v5] []) (fun K397 v5 M hb hK => t_X12_tries_397 hL  hb  hK)
  · have hw := hw.1 c34
    refine X_aload_n 372 dX12_tries_371 rfl rfl ?_
    refine X_getR 375 f_X12_80 (hL.ob (c := 12) (by decide) rfl) rfl (hL.rr (by decide) rfl) dX12_tries_372 rfl ?_
    refine X_bipush 377 (v := 96) dX12_tries_375 rfl rfl ?_
    refine X_iload 379 dX12_tries_377 rfl rfl ?_
    refine X_iadd 380 dX12_tries_379 rfl ?_
    refine X_aload_n 381 dX12_tries_380 rfl rfl ?_
    refine X_getR 384 f_X12_80 (hL.ob (c := 12) (by decide) rfl) rfl (hL.rr (by decide) rfl) dX12_tries_381 rfl ?_
    refine X_iload 386 dX12_tries_384 rfl rfl ?_
    obtain ⟨c35, hw⟩ := hw
    refine Y_iald 387 (k := (tn v5)) (hL.ar (t := 0) (n := 192) (by decide) rfl) c35 rfl dX12_tries_386 rfl ?_
    obtain ⟨c36, hw⟩ := hw
    refine Y_iast 388 (k := (tn ((96 : Int32) + v5))) (hL.ar (t := 0) (n := 192) (by decide) rfl) c36 rfl dX12_tries_387 rfl ?_
    refine X_nmM (fun M37 eM37 => ?_)
    have hw := hw M37 eM37
    obtain ⟨x38, ex38⟩ : ∃ x38 : Int32, x38 = v5 + (1 : Int32) := ⟨_, rfl⟩
    have hw := hw x38 ex38
    refine X_iinc 391 (v := x38) (ls' := [.ref 92, junk, .int p1, .int p2, .int p3, .int x38]) dX12_tries_388 rfl rfl (by rw [ex38]; rfl) rfl (Or.inr (Or.inr ⟨_, rfl, rfl⟩)) ?_
    refine X_goto 364 dX12_tries_391 rfl ?_
    exact hK364 x38 M37 hw
def w_X12_tries_280 (L : Lay) (p0 : Int32) (p1 : Int32) (p2 : Int32) (p3 : Int32) (K280 : Int32 → Mem → Prop) (v5 : Int32) (M : Mem) (Q : Mem → Prop) : Prop := ((v5 < (8 : Int32) → (vp_in v5 16 ∧ (vp_in ((8 : Int32) + v5) 16 ∧ (∀ M29 : Mem, M29 = si M 112 (tn ((8 : Int32) + v5)) (mi M 112 (tn v5)) → (∀ M30 : Mem, M30 = si M29 113 (tn ((8 : Int32) + v5)) (mi M29 113 (tn v5)) → (∀ M31 : Mem, M31 = si M30 114 (tn ((8 : Int32) + v5)) (mi M30 114 (tn v5)) → (∀ M32 : Mem, M32 = si M31 115 (tn ((8 : Int32) + v5)) (mi M31 115 (tn v5)) → (∀ x33 : Int32, x33 = v5 + (1 : Int32) → (K280 x33 M32))))))))) ∧ (¬ v5 < (8 : Int32) → (LP2 (fun K364 v5 M => w_X12_tries_364 L p0 p1 p2 p3  K364 v5 M Q) (0 : Int32) M)))
set_option maxRecDepth 20000 in
theorem t_X12_tries_280 {L : Lay} (hL : LY L) {p0 : Int32} {p1 : Int32} {p2 : Int32} {p3 : Int32}  {K280 : Int32 → Mem → Prop} {v5 : Int32}  {M : Mem} {Q : Mem → Prop} (hw : w_X12_tries_280 L p0 p1 p2 p3 K280 v5 M Q) (hK280 : ∀ (v5 : Int32) (M : Mem), K280 v5 M → X (FM (QV L Q)) RX12 cX12_tries none 6 "tries" 8 0 0 (L, M) 280 [.ref 92, junk, .int p1, .int p2, .int p3, .int v5] []) : X (FM (QV L Q)) RX12 cX12_tries none 6 "tries" 8 0 0 (L, M) 280 [.ref 92, junk, .int p1, .int p2, .int p3, .int v5] [] := by
  unfold w_X12_tries_280 at hw
  refine X_iload 282 dX12_tries_280 rfl rfl ?_
  refine X_bipush 284 (v := 8) dX12_tries_282 rfl rfl ?_
  refine X_icmp_ge 361 287 dX12_tries_284 rfl rfl (fun c26 => ?_) (fun c26 => ?_)
  · have hw := hw.2 c26
    refine X_iconst 362 (v := 0) dX12_tries_361 rfl rfl ?_
    refine X_istore 364 (ls' := [.ref 92, junk, .int p1, .int p2, .int p3, .int (0 : Int32)]) dX12_tries_362 rfl (Nat.le_of_ble_eq_true rfl) rfl (Or.inr (Or.inr ⟨_, rfl, rfl⟩)) ?_
    exact LP2_s hw (G := fun v5 M => X (FM (QV L Q)) RX12 cX12_tries none 6 "tries" 8 0 0 (L, M) 364 [.ref 92, junk, .int p1, .int p2, .int p3, .int v5] []) (fun K364 v5 M hb hK => t_X12_tries_364 hL  hb  hK)
  · have hw := hw.1 c26
    refine X_aload_n 288 dX12_tries_287 rfl rfl ?_
    refine X_getR 291 f_X12_68 (hL.ob (c := 12) (by decide) rfl) rfl (hL.rr (by decide) rfl) dX12_tries_288 rfl ?_
    refine X_bipush 293 (v := 8) dX12_tries_291 rfl rfl ?_
    refine X_iload 295 dX12_tries_293 rfl rfl ?_
    refine X_iadd 296 dX12_tries_295 rfl ?_
    refine X_aload_n 297 dX12_tries_296 rfl rfl ?_
    refine X_getR 300 f_X12_68 (hL.ob (c := 12) (by decide) rfl) rfl (hL.rr (by decide) rfl) dX12_tries_297 rfl ?_
    refine X_iload 302 dX12_tries_300 rfl rfl ?_
    obtain ⟨c27, hw⟩ := hw
    refine Y_iald 303 (k := (tn v5)) (hL.ar (t := 0) (n := 16) (by decide) rfl) c27 rfl dX12_tries_302 rfl ?_
    obtain ⟨c28, hw⟩ := hw
    refine Y_iast 304 (k := (tn ((8 : Int32) + v5))) (hL.ar (t := 0) (n := 16) (by decide) rfl) c28 rfl dX12_tries_303 rfl ?_
    refine X_nmM (fun M29 eM29 => ?_)
    have hw := hw M29 eM29
    refine X_aload_n 305 dX12_tries_304 rfl rfl ?_
    refine X_getR 308 f_X12_71 (hL.ob (c := 12) (by decide) rfl) rfl (hL.rr (by decide) rfl) dX12_tries_305 rfl ?_
    refine X_bipush 310 (v := 8) dX12_tries_308 rfl rfl ?_
    refine X_iload 312 dX12_tries_310 rfl rfl ?_
    refine X_iadd 313 dX12_tries_312 rfl ?_
    refine X_aload_n 314 dX12_tries_313 rfl rfl ?_
    refine X_getR 317 f_X12_71 (hL.ob (c := 12) (by decide) rfl) rfl (hL.rr (by decide) rfl) dX12_tries_314 rfl ?_
    refine X_iload 319 dX12_tries_317 rfl rfl ?_
    refine Y_iald 320 (k := (tn v5)) (hL.ar (t := 0) (n := 16) (by decide) rfl) c27 rfl dX12_tries_319 rfl ?_
    refine Y_iast 321 (k := (tn ((8 : Int32) + v5))) (hL.ar (t := 0) (n := 16) (by decide) rfl) c28 rfl dX12_tries_320 rfl ?_
    refine X_nmM (fun M30 eM30 => ?_)
    have hw := hw M30 eM30
    refine X_aload_n 322 dX12_tries_321 rfl rfl ?_
    refine X_getR 325 f_X12_74 (hL.ob (c := 12) (by decide) rfl) rfl (hL.rr (by decide) rfl) dX12_tries_322 rfl ?_
    refine X_bipush 327 (v := 8) dX12_tries_325 rfl rfl ?_
    refine X_iload 329 dX12_tries_327 rfl rfl ?_
    refine X_iadd 330 dX12_tries_329 rfl ?_
    refine X_aload_n 331 dX12_tries_330 rfl rfl ?_
    refine X_getR 334 f_X12_74 (hL.ob (c := 12) (by decide) rfl) rfl (hL.rr (by decide) rfl) dX12_tries_331 rfl ?_
    refine X_iload 336 dX12_tries_334 rfl rfl ?_
    refine Y_iald 337 (k := (tn v5)) (hL.ar (t := 0) (n := 16) (by decide) rfl) c27 rfl dX12_tries_336 rfl ?_
    refine Y_iast 338 (k := (tn ((8 : Int32) + v5))) (hL.ar (t := 0) (n := 16) (by decide) rfl) c28 rfl dX12_tries_337 rfl ?_
    refine X_nmM (fun M31 eM31 => ?_)
    have hw := hw M31 eM31
    refine X_aload_n 339 dX12_tries_338 rfl rfl ?_
    refine X_getR 342 f_X12_77 (hL.ob (c := 12) (by decide) rfl) rfl (hL.rr (by decide) rfl) dX12_tries_339 rfl ?_
    refine X_bipush 344 (v := 8) dX12_tries_342 rfl rfl ?_
    refine X_iload 346 dX12_tries_344 rfl rfl ?_
    refine X_iadd 347 dX12_tries_346 rfl ?_
    refine X_aload_n 348 dX12_tries_347 rfl rfl ?_
    refine X_getR 351 f_X12_77 (hL.ob (c := 12) (by decide) rfl) rfl (hL.rr (by decide) rfl) dX12_tries_348 rfl ?_
    refine X_iload 353 dX12_tries_351 rfl rfl ?_
    refine Y_iald 354 (k := (tn v5)) (hL.ar (t := 0) (n := 16) (by decide) rfl) c27 rfl dX12_tries_353 rfl ?_
    refine Y_iast 355 (k := (tn ((8 : Int32) + v5))) (hL.ar (t := 0) (n := 16) (by decide) rfl) c28 rfl dX12_tries_354 rfl ?_
    refine X_nmM (fun M32 eM32 => ?_)
    have hw := hw M32 eM32
    obtain ⟨x33, ex33⟩ : ∃ x33 : Int32, x33 = v5 + (1 : Int32) := ⟨_, rfl⟩
    have hw := hw x33 ex33
    refine X_iinc 358 (v := x33) (ls' := [.ref 92, junk, .int p1, .int p2, .int p3, .int x33]) dX12_tries_355 rfl rfl (by rw [ex33]; rfl) rfl (Or.inr (Or.inr ⟨_, rfl, rfl⟩)) ?_
    refine X_goto 280 dX12_tries_358 rfl ?_
    exact hK280 x33 M32 hw
def w_X12_tries_171 (L : Lay) (p0 : Int32) (p1 : Int32) (p2 : Int32) (p3 : Int32) (K171 : Int32 → Mem → Prop) (v5 : Int32) (M : Mem) (Q : Mem → Prop) : Prop := ((v5 < (10 : Int32) → (vp_in v5 20 ∧ (vp_in ((10 : Int32) + v5) 20 ∧ (∀ M18 : Mem, M18 = si M 107 (tn ((10 : Int32) + v5)) (mi M 107 (tn v5)) → (∀ M19 : Mem, M19 = si M18 108 (tn ((10 : Int32) + v5)) (mi M18 108 (tn v5)) → (∀ M20 : Mem, M20 = si M19 109 (tn ((10 : Int32) + v5)) (mi M19 109 (tn v5)) → (∀ M21 : Mem, M21 = si M20 110 (tn ((10 : Int32) + v5)) (mi M20 110 (tn v5)) → (∀ x22 : Int32, x22 = (if ((jshr p0 v5) &&& (1 : Int32)) = (1 : Int32) then (1 : Int32) else (0 : Int32)) → (∀ M23 : Mem, M23 = si M21 111 (tn ((10 : Int32) + v5)) (narZ x22) → (∀ x24 : Int32, x24 = v5 + (1 : Int32) → (K171 x24 M23))))))))))) ∧ (¬ v5 < (10 : Int32) → (LP2 (fun K280 v5 M => w_X12_tries_280 L p0 p1 p2 p3  K280 v5 M Q) (0 : Int32) M)))
set_option maxRecDepth 20000 in
theorem t_X12_tries_171 {L : Lay} (hL : LY L) {p0 : Int32} {p1 : Int32} {p2 : Int32} {p3 : Int32}  {K171 : Int32 → Mem → Prop} {v5 : Int32}  {M : Mem} {Q : Mem → Prop} (hw : w_X12_tries_171 L p0 p1 p2 p3 K171 v5 M Q) (hK171 : ∀ (v5 : Int32) (M : Mem), K171 v5 M → X (FM (QV L Q)) RX12 cX12_tries none 6 "tries" 8 0 0 (L, M) 171 [.ref 92, .int p0, .int p1, .int p2, .int p3, .int v5] []) : X (FM (QV L Q)) RX12 cX12_tries none 6 "tries" 8 0 0 (L, M) 171 [.ref 92, .int p0, .int p1, .int p2, .int p3, .int v5] [] := by
  unfold w_X12_tries_171 at hw
  refine X_iload 173 dX12_tries_171 rfl rfl ?_
  refine X_bipush 175 (v := 10) dX12_tries_173 rfl rfl ?_
  refine X_icmp_ge 277 178 dX12_tries_175 rfl rfl (fun c15 => ?_) (fun c15 => ?_)
  · have hw := hw.2 c15
    refine X_iconst 278 (v := 0) dX12_tries_277 rfl rfl ?_
    refine X_istore 280 (ls' := [.ref 92, .int p0, .int p1, .int p2, .int p3, .int (0 : Int32)]) dX12_tries_278 rfl (Nat.le_of_ble_eq_true rfl) rfl (Or.inr (Or.inr ⟨_, rfl, rfl⟩)) ?_
    refine X_weak (ls' := [.ref 92, junk, .int p1, .int p2, .int p3, .int (0 : Int32)]) (WK.s (WK.j (WK.s (WK.s (WK.s (WK.s WK.n)))))) (Nat.le_of_ble_eq_true rfl) ?_
    exact LP2_s hw (G := fun v5 M => X (FM (QV L Q)) RX12 cX12_tries none 6 "tries" 8 0 0 (L, M) 280 [.ref 92, junk, .int p1, .int p2, .int p3, .int v5] []) (fun K280 v5 M hb hK => t_X12_tries_280 hL  hb  hK)
  · have hw := hw.1 c15
    refine X_aload_n 179 dX12_tries_178 rfl rfl ?_
    refine X_getR 182 f_X12_52 (hL.ob (c := 12) (by decide) rfl) rfl (hL.rr (by decide) rfl) dX12_tries_179 rfl ?_
    refine X_bipush 184 (v := 10) dX12_tries_182 rfl rfl ?_
    refine X_iload 186 dX12_tries_184 rfl rfl ?_
    refine X_iadd 187 dX12_tries_186 rfl ?_
    refine X_aload_n 188 dX12_tries_187 rfl rfl ?_
    refine X_getR 191 f_X12_52 (hL.ob (c := 12) (by decide) rfl) rfl (hL.rr (by decide) rfl) dX12_tries_188 rfl ?_
    refine X_iload 193 dX12_tries_191 rfl rfl ?_
    obtain ⟨c16, hw⟩ := hw
    refine Y_iald 194 (k := (tn v5)) (hL.ar (t := 0) (n := 20) (by decide) rfl) c16 rfl dX12_tries_193 rfl ?_
    obtain ⟨c17, hw⟩ := hw
    refine Y_iast 195 (k := (tn ((10 : Int32) + v5))) (hL.ar (t := 0) (n := 20) (by decide) rfl) c17 rfl dX12_tries_194 rfl ?_
    refine X_nmM (fun M18 eM18 => ?_)
    have hw := hw M18 eM18
    refine X_aload_n 196 dX12_tries_195 rfl rfl ?_
    refine X_getR 199 f_X12_55 (hL.ob (c := 12) (by decide) rfl) rfl (hL.rr (by decide) rfl) dX12_tries_196 rfl ?_
    refine X_bipush 201 (v := 10) dX12_tries_199 rfl rfl ?_
    refine X_iload 203 dX12_tries_201 rfl rfl ?_
    refine X_iadd 204 dX12_tries_203 rfl ?_
    refine X_aload_n 205 dX12_tries_204 rfl rfl ?_
    refine X_getR 208 f_X12_55 (hL.ob (c := 12) (by decide) rfl) rfl (hL.rr (by decide) rfl) dX12_tries_205 rfl ?_
    refine X_iload 210 dX12_tries_208 rfl rfl ?_
    refine Y_iald 211 (k := (tn v5)) (hL.ar (t := 0) (n := 20) (by decide) rfl) c16 rfl dX12_tries_210 rfl ?_
    refine Y_iast 212 (k := (tn ((10 : Int32) + v5))) (hL.ar (t := 0) (n := 20) (by decide) rfl) c17 rfl dX12_tries_211 rfl ?_
    refine X_nmM (fun M19 eM19 => ?_)
    have hw := hw M19 eM19
    refine X_aload_n 213 dX12_tries_212 rfl rfl ?_
    refine X_getR 216 f_X12_58 (hL.ob (c := 12) (by decide) rfl) rfl (hL.rr (by decide) rfl) dX12_tries_213 rfl ?_
    refine X_bipush 218 (v := 10) dX12_tries_216 rfl rfl ?_
    refine X_iload 220 dX12_tries_218 rfl rfl ?_
    refine X_iadd 221 dX12_tries_220 rfl ?_
    refine X_aload_n 222 dX12_tries_221 rfl rfl ?_
    refine X_getR 225 f_X12_58 (hL.ob (c := 12) (by decide) rfl) rfl (hL.rr (by decide) rfl) dX12_tries_222 rfl ?_
    refine X_iload 227 dX12_tries_225 rfl rfl ?_
    refine Y_iald 228 (k := (tn v5)) (hL.ar (t := 0) (n := 20) (by decide) rfl) c16 rfl dX12_tries_227 rfl ?_
    refine Y_iast 229 (k := (tn ((10 : Int32) + v5))) (hL.ar (t := 0) (n := 20) (by decide) rfl) c17 rfl dX12_tries_228 rfl ?_
    refine X_nmM (fun M20 eM20 => ?_)
    have hw := hw M20 eM20
    refine X_aload_n 230 dX12_tries_229 rfl rfl ?_
    refine X_getR 233 f_X12_61 (hL.ob (c := 12) (by decide) rfl) rfl (hL.rr (by decide) rfl) dX12_tries_230 rfl ?_
    refine X_bipush 235 (v := 10) dX12_tries_233 rfl rfl ?_
    refine X_iload 237 dX12_tries_235 rfl rfl ?_
    refine X_iadd 238 dX12_tries_237 rfl ?_
    refine X_aload_n 239 dX12_tries_238 rfl rfl ?_
    refine X_getR 242 f_X12_61 (hL.ob (c := 12) (by decide) rfl) rfl (hL.rr (by decide) rfl) dX12_tries_239 rfl ?_
    refine X_iload 244 dX12_tries_242 rfl rfl ?_
    refine Y_iald 245 (k := (tn v5)) (hL.ar (t := 0) (n := 20) (by decide) rfl) c16 rfl dX12_tries_244 rfl ?_
    refine Y_iast 246 (k := (tn ((10 : Int32) + v5))) (hL.ar (t := 0) (n := 20) (by decide) rfl) c17 rfl dX12_tries_245 rfl ?_
    refine X_nmM (fun M21 eM21 => ?_)
    have hw := hw M21 eM21
    refine X_aload_n 247 dX12_tries_246 rfl rfl ?_
    refine X_getR 250 f_X12_64 (hL.ob (c := 12) (by decide) rfl) rfl (hL.rr (by decide) rfl) dX12_tries_247 rfl ?_
    refine X_bipush 252 (v := 10) dX12_tries_250 rfl rfl ?_
    refine X_iload 254 dX12_tries_252 rfl rfl ?_
    refine X_iadd 255 dX12_tries_254 rfl ?_
    refine X_iload_n 256 dX12_tries_255 rfl rfl ?_
    refine X_iload 258 dX12_tries_256 rfl rfl ?_
    refine Y_ishr 259 dX12_tries_258 rfl ?_
    refine X_iconst 260 (v := 1) dX12_tries_259 rfl rfl ?_
    refine X_iand 261 dX12_tries_260 rfl ?_
    refine X_iconst 262 (v := 1) dX12_tries_261 rfl rfl ?_
    obtain ⟨x22, ex22⟩ : ∃ x22 : Int32, x22 = (if ((jshr p0 v5) &&& (1 : Int32)) = (1 : Int32) then (1 : Int32) else (0 : Int32)) := ⟨_, rfl⟩
    have hw := hw x22 ex22
    have bx22 : BZ x22 := by rw [ex22]; (repeat' split) <;> first | exact Or.inl rfl | exact Or.inr rfl
    have hJ : X (FM (QV L Q)) RX12 cX12_tries none 6 "tries" 8 0 0 (L, M21) 270 [.ref 92, .int p0, .int p1, .int p2, .int p3, .int v5] [.int x22, .int (((10 : Int32) + v5)), .ref 111] := by
      refine Y_zast 271 (k := (tn ((10 : Int32) + v5))) (hL.ar (t := 1) (n := 20) (by decide) rfl) c17 rfl dX12_tries_270 rfl ?_
      refine X_nmM (fun M23 eM23 => ?_)
      have hw := hw M23 eM23
      obtain ⟨x24, ex24⟩ : ∃ x24 : Int32, x24 = v5 + (1 : Int32) := ⟨_, rfl⟩
      have hw := hw x24 ex24
      refine X_iinc 274 (v := x24) (ls' := [.ref 92, .int p0, .int p1, .int p2, .int p3, .int x24]) dX12_tries_271 rfl rfl (by rw [ex24]; rfl) rfl (Or.inr (Or.inr ⟨_, rfl, rfl⟩)) ?_
      refine X_goto 171 dX12_tries_274 rfl ?_
      exact hK171 x24 M23 hw
    refine X_icmp_ne 269 265 dX12_tries_262 rfl rfl (fun c25 => ?_) (fun c25 => ?_)
    · refine X_iconst 270 (v := 0) dX12_tries_269 rfl rfl ?_
      rw [if_neg c25] at ex22
      rw [ex22] at hJ
      exact hJ
    · refine X_iconst 266 (v := 1) dX12_tries_265 rfl rfl ?_
      refine X_goto 270 dX12_tries_266 rfl ?_
      rw [if_pos c25] at ex22
      rw [ex22] at hJ
      exact hJ
def w_X12_tries (L : Lay) (p0 : Int32) (p1 : Int32) (p2 : Int32) (p3 : Int32) (M : Mem) (Q : Mem → Prop) : Prop := ∀ M1 : Mem, M1 = si M 93 1 (mi M 93 0) → (∀ M2 : Mem, M2 = si M1 94 1 (mi M1 94 0) → (∀ M3 : Mem, M3 = si M2 95 1 (mi M2 95 0) → (∀ M4 : Mem, M4 = si M3 96 1 (mi M3 96 0) → (∀ M5 : Mem, M5 = si M4 97 1 (mi M4 97 0) → (∀ M6 : Mem, M6 = si M5 98 1 (mi M5 98 0) → (∀ M7 : Mem, M7 = si M6 99 1 (mi M6 99 0) → (∀ M8 : Mem, M8 = si M7 100 1 (mi M7 100 0) → (∀ M9 : Mem, M9 = si M8 101 1 (mi M8 101 0) → (∀ M10 : Mem, M10 = si M9 102 1 (mi M9 102 0) → (∀ M11 : Mem, M11 = si M10 103 1 (mi M10 103 0) → (∀ M12 : Mem, M12 = si M11 104 1 (mi M11 104 0) → (∀ M13 : Mem, M13 = si M12 105 1 (mi M12 105 0) → (∀ M14 : Mem, M14 = si M13 106 1 (mi M13 106 0) → (LP2 (fun K171 v5 M => w_X12_tries_171 L p0 p1 p2 p3  K171 v5 M Q) (0 : Int32) M14))))))))))))))
set_option maxRecDepth 20000 in
theorem s_X12_tries {L : Lay} (hL : LY L) {p0 : Int32} {p1 : Int32} {p2 : Int32} {p3 : Int32}  {M : Mem} {Q : Mem → Prop} (hw : w_X12_tries L p0 p1 p2 p3 M Q) : MX yX12_tries cX12_tries none 6 8 0 0 [.ref 92, .int p0, .int p1, .int p2, .int p3] (L, M) (QV L Q) := by
  unfold w_X12_tries at hw
  refine MX_of (by decide) [.ref 92, .int p0, .int p1, .int p2, .int p3, junk] (by rfl) (by exact Nat.le_of_ble_eq_true rfl) ?_
  show X (FM (QV L Q)) RX12 cX12_tries none 6 "tries" 8 0 0 (L, M) 0 [.ref 92, .int p0, .int p1, .int p2, .int p3, junk] []
  refine X_aload_n 1 dX12_tries_0 rfl rfl ?_
  refine X_getR 4 f_X12_7 (hL.ob (c := 12) (by decide) rfl) rfl (hL.rr (by decide) rfl) dX12_tries_1 rfl ?_
  refine X_iconst 5 (v := 1) dX12_tries_4 rfl rfl ?_
  refine X_aload_n 6 dX12_tries_5 rfl rfl ?_
  refine X_getR 9 f_X12_7 (hL.ob (c := 12) (by decide) rfl) rfl (hL.rr (by decide) rfl) dX12_tries_6 rfl ?_
  refine X_iconst 10 (v := 0) dX12_tries_9 rfl rfl ?_
  refine Y_iald 11 (k := 0) (hL.ar (t := 0) (n := 2) (by decide) rfl) (vlit (by decide)) (by decide) dX12_tries_10 rfl ?_
  refine Y_iast 12 (k := 1) (hL.ar (t := 0) (n := 2) (by decide) rfl) (vlit (by decide)) (by decide) dX12_tries_11 rfl ?_
  refine X_nmM (fun M1 eM1 => ?_)
  have hw := hw M1 eM1
  refine X_aload_n 13 dX12_tries_12 rfl rfl ?_
  refine X_getR 16 f_X12_13 (hL.ob (c := 12) (by decide) rfl) rfl (hL.rr (by decide) rfl) dX12_tries_13 rfl ?_
  refine X_iconst 17 (v := 1) dX12_tries_16 rfl rfl ?_
  refine X_aload_n 18 dX12_tries_17 rfl rfl ?_
  refine X_getR 21 f_X12_13 (hL.ob (c := 12) (by decide) rfl) rfl (hL.rr (by decide) rfl) dX12_tries_18 rfl ?_
  refine X_iconst 22 (v := 0) dX12_tries_21 rfl rfl ?_
  refine Y_iald 23 (k := 0) (hL.ar (t := 0) (n := 2) (by decide) rfl) (vlit (by decide)) (by decide) dX12_tries_22 rfl ?_
  refine Y_iast 24 (k := 1) (hL.ar (t := 0) (n := 2) (by decide) rfl) (vlit (by decide)) (by decide) dX12_tries_23 rfl ?_
  refine X_nmM (fun M2 eM2 => ?_)
  have hw := hw M2 eM2
  refine X_aload_n 25 dX12_tries_24 rfl rfl ?_
  refine X_getR 28 f_X12_16 (hL.ob (c := 12) (by decide) rfl) rfl (hL.rr (by decide) rfl) dX12_tries_25 rfl ?_
  refine X_iconst 29 (v := 1) dX12_tries_28 rfl rfl ?_
  refine X_aload_n 30 dX12_tries_29 rfl rfl ?_
  refine X_getR 33 f_X12_16 (hL.ob (c := 12) (by decide) rfl) rfl (hL.rr (by decide) rfl) dX12_tries_30 rfl ?_
  refine X_iconst 34 (v := 0) dX12_tries_33 rfl rfl ?_
  refine Y_iald 35 (k := 0) (hL.ar (t := 0) (n := 2) (by decide) rfl) (vlit (by decide)) (by decide) dX12_tries_34 rfl ?_
  refine Y_iast 36 (k := 1) (hL.ar (t := 0) (n := 2) (by decide) rfl) (vlit (by decide)) (by decide) dX12_tries_35 rfl ?_
  refine X_nmM (fun M3 eM3 => ?_)
  have hw := hw M3 eM3
  refine X_aload_n 37 dX12_tries_36 rfl rfl ?_
  refine X_getR 40 f_X12_19 (hL.ob (c := 12) (by decide) rfl) rfl (hL.rr (by decide) rfl) dX12_tries_37 rfl ?_
  refine X_iconst 41 (v := 1) dX12_tries_40 rfl rfl ?_
  refine X_aload_n 42 dX12_tries_41 rfl rfl ?_
  refine X_getR 45 f_X12_19 (hL.ob (c := 12) (by decide) rfl) rfl (hL.rr (by decide) rfl) dX12_tries_42 rfl ?_
  refine X_iconst 46 (v := 0) dX12_tries_45 rfl rfl ?_
  refine Y_iald 47 (k := 0) (hL.ar (t := 0) (n := 2) (by decide) rfl) (vlit (by decide)) (by decide) dX12_tries_46 rfl ?_
  refine Y_iast 48 (k := 1) (hL.ar (t := 0) (n := 2) (by decide) rfl) (vlit (by decide)) (by decide) dX12_tries_47 rfl ?_
  refine X_nmM (fun M4 eM4 => ?_)
  have hw := hw M4 eM4
  refine X_aload_n 49 dX12_tries_48 rfl rfl ?_
  refine X_getR 52 f_X12_22 (hL.ob (c := 12) (by decide) rfl) rfl (hL.rr (by decide) rfl) dX12_tries_49 rfl ?_
  refine X_iconst 53 (v := 1) dX12_tries_52 rfl rfl ?_
  refine X_aload_n 54 dX12_tries_53 rfl rfl ?_
  refine X_getR 57 f_X12_22 (hL.ob (c := 12) (by decide) rfl) rfl (hL.rr (by decide) rfl) dX12_tries_54 rfl ?_
  refine X_iconst 58 (v := 0) dX12_tries_57 rfl rfl ?_
  refine Y_iald 59 (k := 0) (hL.ar (t := 0) (n := 2) (by decide) rfl) (vlit (by decide)) (by decide) dX12_tries_58 rfl ?_
  refine Y_iast 60 (k := 1) (hL.ar (t := 0) (n := 2) (by decide) rfl) (vlit (by decide)) (by decide) dX12_tries_59 rfl ?_
  refine X_nmM (fun M5 eM5 => ?_)
  have hw := hw M5 eM5
  refine X_aload_n 61 dX12_tries_60 rfl rfl ?_
  refine X_getR 64 f_X12_25 (hL.ob (c := 12) (by decide) rfl) rfl (hL.rr (by decide) rfl) dX12_tries_61 rfl ?_
  refine X_iconst 65 (v := 1) dX12_tries_64 rfl rfl ?_
  refine X_aload_n 66 dX12_tries_65 rfl rfl ?_
  refine X_getR 69 f_X12_25 (hL.ob (c := 12) (by decide) rfl) rfl (hL.rr (by decide) rfl) dX12_tries_66 rfl ?_
  refine X_iconst 70 (v := 0) dX12_tries_69 rfl rfl ?_
  refine Y_iald 71 (k := 0) (hL.ar (t := 0) (n := 2) (by decide) rfl) (vlit (by decide)) (by decide) dX12_tries_70 rfl ?_
  refine Y_iast 72 (k := 1) (hL.ar (t := 0) (n := 2) (by decide) rfl) (vlit (by decide)) (by decide) dX12_tries_71 rfl ?_
  refine X_nmM (fun M6 eM6 => ?_)
  have hw := hw M6 eM6
  refine X_aload_n 73 dX12_tries_72 rfl rfl ?_
  refine X_getR 76 f_X12_28 (hL.ob (c := 12) (by decide) rfl) rfl (hL.rr (by decide) rfl) dX12_tries_73 rfl ?_
  refine X_iconst 77 (v := 1) dX12_tries_76 rfl rfl ?_
  refine X_aload_n 78 dX12_tries_77 rfl rfl ?_
  refine X_getR 81 f_X12_28 (hL.ob (c := 12) (by decide) rfl) rfl (hL.rr (by decide) rfl) dX12_tries_78 rfl ?_
  refine X_iconst 82 (v := 0) dX12_tries_81 rfl rfl ?_
  refine Y_iald 83 (k := 0) (hL.ar (t := 0) (n := 2) (by decide) rfl) (vlit (by decide)) (by decide) dX12_tries_82 rfl ?_
  refine Y_iast 84 (k := 1) (hL.ar (t := 0) (n := 2) (by decide) rfl) (vlit (by decide)) (by decide) dX12_tries_83 rfl ?_
  refine X_nmM (fun M7 eM7 => ?_)
  have hw := hw M7 eM7
  refine X_aload_n 85 dX12_tries_84 rfl rfl ?_
  refine X_getR 88 f_X12_31 (hL.ob (c := 12) (by decide) rfl) rfl (hL.rr (by decide) rfl) dX12_tries_85 rfl ?_
  refine X_iconst 89 (v := 1) dX12_tries_88 rfl rfl ?_
  refine X_aload_n 90 dX12_tries_89 rfl rfl ?_
  refine X_getR 93 f_X12_31 (hL.ob (c := 12) (by decide) rfl) rfl (hL.rr (by decide) rfl) dX12_tries_90 rfl ?_
  refine X_iconst 94 (v := 0) dX12_tries_93 rfl rfl ?_
  refine Y_iald 95 (k := 0) (hL.ar (t := 0) (n := 2) (by decide) rfl) (vlit (by decide)) (by decide) dX12_tries_94 rfl ?_
  refine Y_iast 96 (k := 1) (hL.ar (t := 0) (n := 2) (by decide) rfl) (vlit (by decide)) (by decide) dX12_tries_95 rfl ?_
  refine X_nmM (fun M8 eM8 => ?_)
  have hw := hw M8 eM8
  refine X_aload_n 97 dX12_tries_96 rfl rfl ?_
  refine X_getR 100 f_X12_34 (hL.ob (c := 12) (by decide) rfl) rfl (hL.rr (by decide) rfl) dX12_tries_97 rfl ?_
  refine X_iconst 101 (v := 1) dX12_tries_100 rfl rfl ?_
  refine X_aload_n 102 dX12_tries_101 rfl rfl ?_
  refine X_getR 105 f_X12_34 (hL.ob (c := 12) (by decide) rfl) rfl (hL.rr (by decide) rfl) dX12_tries_102 rfl ?_
  refine X_iconst 106 (v := 0) dX12_tries_105 rfl rfl ?_
  refine Y_iald 107 (k := 0) (hL.ar (t := 0) (n := 2) (by decide) rfl) (vlit (by decide)) (by decide) dX12_tries_106 rfl ?_
  refine Y_iast 108 (k := 1) (hL.ar (t := 0) (n := 2) (by decide) rfl) (vlit (by decide)) (by decide) dX12_tries_107 rfl ?_
  refine X_nmM (fun M9 eM9 => ?_)
  have hw := hw M9 eM9
  refine X_aload_n 109 dX12_tries_108 rfl rfl ?_
  refine X_getR 112 f_X12_37 (hL.ob (c := 12) (by decide) rfl) rfl (hL.rr (by decide) rfl) dX12_tries_109 rfl ?_
  refine X_iconst 113 (v := 1) dX12_tries_112 rfl rfl ?_
  refine X_aload_n 114 dX12_tries_113 rfl rfl ?_
  refine X_getR 117 f_X12_37 (hL.ob (c := 12) (by decide) rfl) rfl (hL.rr (by decide) rfl) dX12_tries_114 rfl ?_
  refine X_iconst 118 (v := 0) dX12_tries_117 rfl rfl ?_
  refine Y_iald 119 (k := 0) (hL.ar (t := 0) (n := 2) (by decide) rfl) (vlit (by decide)) (by decide) dX12_tries_118 rfl ?_
  refine Y_iast 120 (k := 1) (hL.ar (t := 0) (n := 2) (by decide) rfl) (vlit (by decide)) (by decide) dX12_tries_119 rfl ?_
  refine X_nmM (fun M10 eM10 => ?_)
  have hw := hw M10 eM10
  refine X_aload_n 121 dX12_tries_120 rfl rfl ?_
  refine X_getR 124 f_X12_40 (hL.ob (c := 12) (by decide) rfl) rfl (hL.rr (by decide) rfl) dX12_tries_121 rfl ?_
  refine X_iconst 125 (v := 1) dX12_tries_124 rfl rfl ?_
  refine X_aload_n 126 dX12_tries_125 rfl rfl ?_
  refine X_getR 129 f_X12_40 (hL.ob (c := 12) (by decide) rfl) rfl (hL.rr (by decide) rfl) dX12_tries_126 rfl ?_
  refine X_iconst 130 (v := 0) dX12_tries_129 rfl rfl ?_
  refine Y_iald 131 (k := 0) (hL.ar (t := 0) (n := 2) (by decide) rfl) (vlit (by decide)) (by decide) dX12_tries_130 rfl ?_
  refine Y_iast 132 (k := 1) (hL.ar (t := 0) (n := 2) (by decide) rfl) (vlit (by decide)) (by decide) dX12_tries_131 rfl ?_
  refine X_nmM (fun M11 eM11 => ?_)
  have hw := hw M11 eM11
  refine X_aload_n 133 dX12_tries_132 rfl rfl ?_
  refine X_getR 136 f_X12_43 (hL.ob (c := 12) (by decide) rfl) rfl (hL.rr (by decide) rfl) dX12_tries_133 rfl ?_
  refine X_iconst 137 (v := 1) dX12_tries_136 rfl rfl ?_
  refine X_aload_n 138 dX12_tries_137 rfl rfl ?_
  refine X_getR 141 f_X12_43 (hL.ob (c := 12) (by decide) rfl) rfl (hL.rr (by decide) rfl) dX12_tries_138 rfl ?_
  refine X_iconst 142 (v := 0) dX12_tries_141 rfl rfl ?_
  refine Y_iald 143 (k := 0) (hL.ar (t := 0) (n := 2) (by decide) rfl) (vlit (by decide)) (by decide) dX12_tries_142 rfl ?_
  refine Y_iast 144 (k := 1) (hL.ar (t := 0) (n := 2) (by decide) rfl) (vlit (by decide)) (by decide) dX12_tries_143 rfl ?_
  refine X_nmM (fun M12 eM12 => ?_)
  have hw := hw M12 eM12
  refine X_aload_n 145 dX12_tries_144 rfl rfl ?_
  refine X_getR 148 f_X12_46 (hL.ob (c := 12) (by decide) rfl) rfl (hL.rr (by decide) rfl) dX12_tries_145 rfl ?_
  refine X_iconst 149 (v := 1) dX12_tries_148 rfl rfl ?_
  refine X_aload_n 150 dX12_tries_149 rfl rfl ?_
  refine X_getR 153 f_X12_46 (hL.ob (c := 12) (by decide) rfl) rfl (hL.rr (by decide) rfl) dX12_tries_150 rfl ?_
  refine X_iconst 154 (v := 0) dX12_tries_153 rfl rfl ?_
  refine Y_iald 155 (k := 0) (hL.ar (t := 0) (n := 2) (by decide) rfl) (vlit (by decide)) (by decide) dX12_tries_154 rfl ?_
  refine Y_iast 156 (k := 1) (hL.ar (t := 0) (n := 2) (by decide) rfl) (vlit (by decide)) (by decide) dX12_tries_155 rfl ?_
  refine X_nmM (fun M13 eM13 => ?_)
  have hw := hw M13 eM13
  refine X_aload_n 157 dX12_tries_156 rfl rfl ?_
  refine X_getR 160 f_X12_49 (hL.ob (c := 12) (by decide) rfl) rfl (hL.rr (by decide) rfl) dX12_tries_157 rfl ?_
  refine X_iconst 161 (v := 1) dX12_tries_160 rfl rfl ?_
  refine X_aload_n 162 dX12_tries_161 rfl rfl ?_
  refine X_getR 165 f_X12_49 (hL.ob (c := 12) (by decide) rfl) rfl (hL.rr (by decide) rfl) dX12_tries_162 rfl ?_
  refine X_iconst 166 (v := 0) dX12_tries_165 rfl rfl ?_
  refine Y_iald 167 (k := 0) (hL.ar (t := 0) (n := 2) (by decide) rfl) (vlit (by decide)) (by decide) dX12_tries_166 rfl ?_
  refine Y_iast 168 (k := 1) (hL.ar (t := 0) (n := 2) (by decide) rfl) (vlit (by decide)) (by decide) dX12_tries_167 rfl ?_
  refine X_nmM (fun M14 eM14 => ?_)
  have hw := hw M14 eM14
  refine X_iconst 169 (v := 0) dX12_tries_168 rfl rfl ?_
  refine X_istore 171 (ls' := [.ref 92, .int p0, .int p1, .int p2, .int p3, .int (0 : Int32)]) dX12_tries_169 rfl (Nat.le_of_ble_eq_true rfl) rfl (Or.inr (Or.inr ⟨_, rfl, rfl⟩)) ?_
  exact LP2_s hw (G := fun v5 M => X (FM (QV L Q)) RX12 cX12_tries none 6 "tries" 8 0 0 (L, M) 171 [.ref 92, .int p0, .int p1, .int p2, .int p3, .int v5] []) (fun K171 v5 M hb hK => t_X12_tries_171 hL  hb  hK)
def w_X12_breakers_4 (L : Lay)  (K4 : Int32 → Int32 → Mem → Prop) (v1 : Int32) (v2 : Int32) (M : Mem) (Q : Int32 → Mem → Prop) : Prop := ((v2 < (mi M 92 28) → (vp_in v2 20 ∧ ((((mi M 111 (tn v2)) = 0 → (∀ x4 : Int32, x4 = v2 + (1 : Int32) → (K4 v1 x4 M))) ∧ (¬ (mi M 111 (tn v2)) = 0 → (∀ x5 : Int32, x5 = (v1 ||| (jshl (1 : Int32) v2)) → (∀ x6 : Int32, x6 = v2 + (1 : Int32) → (K4 x5 x6 M)))))))) ∧ (¬ v2 < (mi M 92 28) → (Q v1 M)))
set_option maxRecDepth 20000 in
theorem t_X12_breakers_4 {L : Lay} (hL : LY L)   {K4 : Int32 → Int32 → Mem → Prop} {v1 : Int32} {v2 : Int32}  {M : Mem} {Q : Int32 → Mem → Prop} (hw : w_X12_breakers_4 L  K4 v1 v2 M Q) (hK4 : ∀ (v1 : Int32) (v2 : Int32) (M : Mem), K4 v1 v2 M → X (FM (QI L Q)) RX12 cX12_breakers (some .int) 3 "breakers" 1 0 0 (L, M) 4 [.ref 92, .int v1, .int v2] []) : X (FM (QI L Q)) RX12 cX12_breakers (some .int) 3 "breakers" 1 0 0 (L, M) 4 [.ref 92, .int v1, .int v2] [] := by
  unfold w_X12_breakers_4 at hw
  refine X_iload_n 5 dX12_breakers_4 rfl rfl ?_
  refine X_aload_n 6 dX12_breakers_5 rfl rfl ?_
  refine X_getI 9 f_X12_210 (hL.ob (c := 12) (by decide) rfl) rfl dX12_breakers_6 rfl ?_
  refine X_icmp_ge 33 12 dX12_breakers_9 rfl rfl (fun c1 => ?_) (fun c1 => ?_)
  · have hw := hw.2 c1
    refine X_iload_n 34 dX12_breakers_33 rfl rfl ?_
    exact X_ret rfl rfl dX12_breakers_34 ⟨_, _, rfl, rfl, hw⟩
  · have hw := hw.1 c1
    refine X_aload_n 13 dX12_breakers_12 rfl rfl ?_
    refine X_getR 16 f_X12_64 (hL.ob (c := 12) (by decide) rfl) rfl (hL.rr (by decide) rfl) dX12_breakers_13 rfl ?_
    refine X_iload_n 17 dX12_breakers_16 rfl rfl ?_
    obtain ⟨c2, hw⟩ := hw
    refine Y_zald 18 (k := (tn v2)) (hL.ar (t := 1) (n := 20) (by decide) rfl) c2 rfl dX12_breakers_17 rfl ?_
    refine X_if_eq 27 21 (y := 0) dX12_breakers_18 rfl rfl (fun c3 => ?_) (fun c3 => ?_)
    · have hw := hw.1 c3
      obtain ⟨x4, ex4⟩ : ∃ x4 : Int32, x4 = v2 + (1 : Int32) := ⟨_, rfl⟩
      have hw := hw x4 ex4
      refine X_iinc 30 (v := x4) (ls' := [.ref 92, .int v1, .int x4]) dX12_breakers_27 rfl rfl (by rw [ex4]; rfl) rfl (Or.inr (Or.inr ⟨_, rfl, rfl⟩)) ?_
      refine X_goto 4 dX12_breakers_30 rfl ?_
      exact hK4 v1 x4 M hw
    · have hw := hw.2 c3
      refine X_iload_n 22 dX12_breakers_21 rfl rfl ?_
      refine X_iconst 23 (v := 1) dX12_breakers_22 rfl rfl ?_
      refine X_iload_n 24 dX12_breakers_23 rfl rfl ?_
      refine Y_ishl 25 dX12_breakers_24 rfl ?_
      refine X_ior 26 dX12_breakers_25 rfl ?_
      refine X_nmI (fun x5 ex5 => ?_)
      have hw := hw x5 ex5
      refine X_istore_n 27 (ls' := [.ref 92, .int x5, .int v2]) dX12_breakers_26 rfl rfl (Nat.le_of_ble_eq_true rfl) rfl (Or.inr (Or.inr ⟨_, rfl, rfl⟩)) ?_
      obtain ⟨x6, ex6⟩ : ∃ x6 : Int32, x6 = v2 + (1 : Int32) := ⟨_, rfl⟩
      have hw := hw x6 ex6
      refine X_iinc 30 (v := x6) (ls' := [.ref 92, .int x5, .int x6]) dX12_breakers_27 rfl rfl (by rw [ex6]; rfl) rfl (Or.inr (Or.inr ⟨_, rfl, rfl⟩)) ?_
      refine X_goto 4 dX12_breakers_30 rfl ?_
      exact hK4 x5 x6 M hw
def w_X12_breakers (L : Lay)  (M : Mem) (Q : Int32 → Mem → Prop) : Prop := LP3 (fun K4 v1 v2 M => w_X12_breakers_4 L   K4 v1 v2 M Q) (0 : Int32) (0 : Int32) M
set_option maxRecDepth 20000 in
theorem s_X12_breakers {L : Lay} (hL : LY L)   {M : Mem} {Q : Int32 → Mem → Prop} (hw : w_X12_breakers L  M Q) : MX yX12_breakers cX12_breakers (some .int) 3 1 0 0 [.ref 92] (L, M) (QI L Q) := by
  unfold w_X12_breakers at hw
  refine MX_of (by decide) [.ref 92, junk, junk] (by rfl) (by exact Nat.le_of_ble_eq_true rfl) ?_
  show X (FM (QI L Q)) RX12 cX12_breakers (some .int) 3 "breakers" 1 0 0 (L, M) 0 [.ref 92, junk, junk] []
  refine X_iconst 1 (v := 0) dX12_breakers_0 rfl rfl ?_
  refine X_istore_n 2 (ls' := [.ref 92, .int (0 : Int32), junk]) dX12_breakers_1 rfl rfl (Nat.le_of_ble_eq_true rfl) rfl (Or.inr (Or.inr ⟨_, rfl, rfl⟩)) ?_
  refine X_iconst 3 (v := 0) dX12_breakers_2 rfl rfl ?_
  refine X_istore_n 4 (ls' := [.ref 92, .int (0 : Int32), .int (0 : Int32)]) dX12_breakers_3 rfl rfl (Nat.le_of_ble_eq_true rfl) rfl (Or.inr (Or.inr ⟨_, rfl, rfl⟩)) ?_
  exact LP3_s hw (G := fun v1 v2 M => X (FM (QI L Q)) RX12 cX12_breakers (some .int) 3 "breakers" 1 0 0 (L, M) 4 [.ref 92, .int v1, .int v2] []) (fun K4 v1 v2 M hb hK => t_X12_breakers_4 hL  hb  hK)
def w_X12_isSet (L : Lay) (p0 : Int32) (M : Mem) (Q : Int32 → Mem → Prop) : Prop := ∀ x1 : Int32, x1 = (if p0 < 0 then (0 : Int32) else (if p0 < (jshl (1 : Int32) (mi M 92 28)) then (1 : Int32) else (0 : Int32))) → (Q x1 M)
set_option maxRecDepth 20000 in
theorem s_X12_isSet {L : Lay} (hL : LY L) {p0 : Int32}  {M : Mem} {Q : Int32 → Mem → Prop} (hw : w_X12_isSet L p0 M Q) : MX yX12_isSet cX12_isSet (some .boolean) 2 1 0 0 [.ref 92, .int p0] (L, M) (QZ L Q) := by
  unfold w_X12_isSet at hw
  refine MX_of (by decide) [.ref 92, .int p0] (by rfl) (by exact Nat.le_of_ble_eq_true rfl) ?_
  show X (FM (QZ L Q)) RX12 cX12_isSet (some .boolean) 2 "isSet" 1 0 0 (L, M) 0 [.ref 92, .int p0] []
  refine X_iload_n 1 dX12_isSet_0 rfl rfl ?_
  obtain ⟨x1, ex1⟩ : ∃ x1 : Int32, x1 = (if p0 < 0 then (0 : Int32) else (if p0 < (jshl (1 : Int32) (mi M 92 28)) then (1 : Int32) else (0 : Int32))) := ⟨_, rfl⟩
  have hw := hw x1 ex1
  have bx1 : BZ x1 := by rw [ex1]; (repeat' split) <;> first | exact Or.inl rfl | exact Or.inr rfl
  have hJ : X (FM (QZ L Q)) RX12 cX12_isSet (some .boolean) 2 "isSet" 1 0 0 (L, M) 19 [.ref 92, .int p0] [.int x1] := by
    exact X_ret rfl (nar_bool (bx1)) dX12_isSet_19 ⟨_, _, rfl, bx1, rfl, hw⟩
  refine X_if_lt 18 4 (y := 0) dX12_isSet_1 rfl rfl (fun c2 => ?_) (fun c2 => ?_)
  · refine X_iconst 19 (v := 0) dX12_isSet_18 rfl rfl ?_
    rw [if_pos c2] at ex1
    rw [ex1] at hJ
    exact hJ
  · refine X_iload_n 5 dX12_isSet_4 rfl rfl ?_
    refine X_iconst 6 (v := 1) dX12_isSet_5 rfl rfl ?_
    refine X_aload_n 7 dX12_isSet_6 rfl rfl ?_
    refine X_getI 10 f_X12_210 (hL.ob (c := 12) (by decide) rfl) rfl dX12_isSet_7 rfl ?_
    refine Y_ishl 11 dX12_isSet_10 rfl ?_
    refine X_icmp_ge 18 14 dX12_isSet_11 rfl rfl (fun c3 => ?_) (fun c3 => ?_)
    · refine X_iconst 19 (v := 0) dX12_isSet_18 rfl rfl ?_
      rw [if_neg c2, if_neg c3] at ex1
      rw [ex1] at hJ
      exact hJ
    · refine X_iconst 15 (v := 1) dX12_isSet_14 rfl rfl ?_
      refine X_goto 19 dX12_isSet_15 rfl ?_
      rw [if_neg c2, if_pos c3] at ex1
      rw [ex1] at hJ
      exact hJ
def w_X12_whatIf (L : Lay) (p0 : Int32) (p1 : Int32) (p2 : Int32) (M : Mem) (Q : Int32 → Mem → Prop) : Prop := ∀ M1 : Mem, M1 = si M 92 0 (0 : Int32) → (w_X12_isSet L p0 M1 (fun x3 M2 => (((x3 = 0 → (∀ M5 : Mem, M5 = si M2 92 0 (1 : Int32) → (Q (0 : Int32) M5))) ∧ (¬ x3 = 0 → (w_X12_isOwner L p1 M2 (fun x7 M6 => (((x7 = 0 → (∀ M9 : Mem, M9 = si M6 92 0 (1 : Int32) → (Q (0 : Int32) M9))) ∧ (¬ x7 = 0 → (w_X12_within L p2 (0 : Int32) (60 : Int32) M6 (fun x11 M10 => (((x11 = 0 → (∀ M16 : Mem, M16 = si M10 92 0 (1 : Int32) → (Q (0 : Int32) M16))) ∧ (¬ x11 = 0 → (w_X12_tries L p0 p2 (0 : Int32) (-1 : Int32) M10 (fun M13 => (vp_in ((10 : Int32) + p1) 20 ∧ (vp_in p1 20 ∧ (Q ((mi M13 110 (tn ((10 : Int32) + p1))) - (mi M13 110 (tn p1))) M13))))))))))))))))))))
set_option maxRecDepth 20000 in
theorem s_X12_whatIf {L : Lay} (hL : LY L) {p0 : Int32} {p1 : Int32} {p2 : Int32}  {M : Mem} {Q : Int32 → Mem → Prop} (hw : w_X12_whatIf L p0 p1 p2 M Q) : MX yX12_whatIf cX12_whatIf (some .int) 4 9 0 0 [.ref 92, .int p0, .int p1, .int p2] (L, M) (QI L Q) := by
  unfold w_X12_whatIf at hw
  refine MX_of (by decide) [.ref 92, .int p0, .int p1, .int p2] (by rfl) (by exact Nat.le_of_ble_eq_true rfl) ?_
  show X (FM (QI L Q)) RX12 cX12_whatIf (some .int) 4 "whatIf" 9 0 0 (L, M) 0 [.ref 92, .int p0, .int p1, .int p2] []
  refine X_aload_n 1 dX12_whatIf_0 rfl rfl ?_
  refine X_iconst 2 (v := 0) dX12_whatIf_1 rfl rfl ?_
  refine X_putI 5 f_X12_206 (Or.inl rfl) (hL.ob (c := 12) (by decide) rfl) rfl dX12_whatIf_2 rfl ?_
  refine X_nmM (fun M1 eM1 => ?_)
  have hw := hw M1 eM1
  refine X_aload_n 6 dX12_whatIf_5 rfl rfl ?_
  refine X_iload_n 7 dX12_whatIf_6 rfl rfl ?_
  refine Y_cVZ 10 (as := [.int p0]) m_X12_454 (s_X12_isSet hL  hw) (hL.ob (c := 12) (by decide) rfl) rfl (by decide) (Nat.le_of_ble_eq_true rfl) dX12_whatIf_7 rfl rfl (fun x3 M2 bx3 hw => ?_)
  refine X_if_eq 31 13 (y := 0) dX12_whatIf_10 rfl rfl (fun c4 => ?_) (fun c4 => ?_)
  · have hw := hw.1 c4
    refine X_aload_n 32 dX12_whatIf_31 rfl rfl ?_
    refine X_iconst 33 (v := 1) dX12_whatIf_32 rfl rfl ?_
    refine X_putI 36 f_X12_206 (Or.inl rfl) (hL.ob (c := 12) (by decide) rfl) rfl dX12_whatIf_33 rfl ?_
    refine X_nmM (fun M5 eM5 => ?_)
    have hw := hw M5 eM5
    refine X_iconst 37 (v := 0) dX12_whatIf_36 rfl rfl ?_
    exact X_ret rfl rfl dX12_whatIf_37 ⟨_, _, rfl, rfl, hw⟩
  · have hw := hw.2 c4
    refine X_aload_n 14 dX12_whatIf_13 rfl rfl ?_
    refine X_iload_n 15 dX12_whatIf_14 rfl rfl ?_
    refine Y_cVZ 18 (as := [.int p1]) m_X12_217 (s_X12_isOwner hL  hw) (hL.ob (c := 12) (by decide) rfl) rfl (by decide) (Nat.le_of_ble_eq_true rfl) dX12_whatIf_15 rfl rfl (fun x7 M6 bx7 hw => ?_)
    refine X_if_eq 31 21 (y := 0) dX12_whatIf_18 rfl rfl (fun c8 => ?_) (fun c8 => ?_)
    · have hw := hw.1 c8
      refine X_aload_n 32 dX12_whatIf_31 rfl rfl ?_
      refine X_iconst 33 (v := 1) dX12_whatIf_32 rfl rfl ?_
      refine X_putI 36 f_X12_206 (Or.inl rfl) (hL.ob (c := 12) (by decide) rfl) rfl dX12_whatIf_33 rfl ?_
      refine X_nmM (fun M9 eM9 => ?_)
      have hw := hw M9 eM9
      refine X_iconst 37 (v := 0) dX12_whatIf_36 rfl rfl ?_
      exact X_ret rfl rfl dX12_whatIf_37 ⟨_, _, rfl, rfl, hw⟩
    · have hw := hw.2 c8
      refine X_iload_n 22 dX12_whatIf_21 rfl rfl ?_
      refine X_iconst 23 (v := 0) dX12_whatIf_22 rfl rfl ?_
      refine X_bipush 25 (v := 60) dX12_whatIf_23 rfl rfl ?_
      refine Y_cSZ 28 (as := [.int p2, .int (0 : Int32), .int (60 : Int32)]) m_X12_213 (s_X12_within hL  hw) rfl (by decide) (Nat.le_of_ble_eq_true rfl) dX12_whatIf_25 rfl rfl (fun x11 M10 bx11 hw => ?_)
      refine X_if_ne 38 31 (y := 0) dX12_whatIf_28 rfl rfl (fun c12 => ?_) (fun c12 => ?_)
      · have hw := hw.2 c12
        refine X_aload_n 39 dX12_whatIf_38 rfl rfl ?_
        refine X_iload_n 40 dX12_whatIf_39 rfl rfl ?_
        refine X_iload_n 41 dX12_whatIf_40 rfl rfl ?_
        refine X_iconst 42 (v := 0) dX12_whatIf_41 rfl rfl ?_
        refine X_iconst 43 (v := -1) dX12_whatIf_42 rfl rfl ?_
        refine Y_cVV 46 (as := [.int p0, .int p2, .int (0 : Int32), .int (-1 : Int32)]) m_X12_457 (s_X12_tries hL  hw) (hL.ob (c := 12) (by decide) rfl) rfl (by decide) (Nat.le_of_ble_eq_true rfl) dX12_whatIf_43 rfl rfl (fun M13 hw => ?_)
        refine X_aload_n 47 dX12_whatIf_46 rfl rfl ?_
        refine X_getR 50 f_X12_61 (hL.ob (c := 12) (by decide) rfl) rfl (hL.rr (by decide) rfl) dX12_whatIf_47 rfl ?_
        refine X_bipush 52 (v := 10) dX12_whatIf_50 rfl rfl ?_
        refine X_iload_n 53 dX12_whatIf_52 rfl rfl ?_
        refine X_iadd 54 dX12_whatIf_53 rfl ?_
        obtain ⟨c14, hw⟩ := hw
        refine Y_iald 55 (k := (tn ((10 : Int32) + p1))) (hL.ar (t := 0) (n := 20) (by decide) rfl) c14 rfl dX12_whatIf_54 rfl ?_
        refine X_aload_n 56 dX12_whatIf_55 rfl rfl ?_
        refine X_getR 59 f_X12_61 (hL.ob (c := 12) (by decide) rfl) rfl (hL.rr (by decide) rfl) dX12_whatIf_56 rfl ?_
        refine X_iload_n 60 dX12_whatIf_59 rfl rfl ?_
        obtain ⟨c15, hw⟩ := hw
        refine Y_iald 61 (k := (tn p1)) (hL.ar (t := 0) (n := 20) (by decide) rfl) c15 rfl dX12_whatIf_60 rfl ?_
        refine X_isub 62 dX12_whatIf_61 rfl ?_
        exact X_ret rfl rfl dX12_whatIf_62 ⟨_, _, rfl, rfl, hw⟩
      · have hw := hw.1 c12
        refine X_aload_n 32 dX12_whatIf_31 rfl rfl ?_
        refine X_iconst 33 (v := 1) dX12_whatIf_32 rfl rfl ?_
        refine X_putI 36 f_X12_206 (Or.inl rfl) (hL.ob (c := 12) (by decide) rfl) rfl dX12_whatIf_33 rfl ?_
        refine X_nmM (fun M16 eM16 => ?_)
        have hw := hw M16 eM16
        refine X_iconst 37 (v := 0) dX12_whatIf_36 rfl rfl ?_
        exact X_ret rfl rfl dX12_whatIf_37 ⟨_, _, rfl, rfl, hw⟩
def w_X12_isTempted (L : Lay) (p0 : Int32) (p1 : Int32) (p2 : Int32) (M : Mem) (Q : Int32 → Mem → Prop) : Prop := w_X12_tries L (p0 &&& ((jshl (1 : Int32) p1) ^^^ (-1 : Int32))) p2 (0 : Int32) (-1 : Int32) M (fun M1 => (vp_in ((10 : Int32) + p1) 20 ∧ (∀ x3 : Int32, x3 = (mi M1 110 (tn ((10 : Int32) + p1))) → (w_X12_tries L (p0 ||| (jshl (1 : Int32) p1)) p2 (0 : Int32) (-1 : Int32) M1 (fun M4 => (∀ x5 : Int32, x5 = (if x3 < (mi M4 110 (tn ((10 : Int32) + p1))) then (1 : Int32) else (0 : Int32)) → (Q x5 M4)))))))
set_option maxRecDepth 20000 in
theorem s_X12_isTempted {L : Lay} (hL : LY L) {p0 : Int32} {p1 : Int32} {p2 : Int32}  {M : Mem} {Q : Int32 → Mem → Prop} (hw : w_X12_isTempted L p0 p1 p2 M Q) : MX yX12_isTempted cX12_isTempted (some .boolean) 5 9 0 0 [.ref 92, .int p0, .int p1, .int p2] (L, M) (QZ L Q) := by
  unfold w_X12_isTempted at hw
  refine MX_of (by decide) [.ref 92, .int p0, .int p1, .int p2, junk] (by rfl) (by exact Nat.le_of_ble_eq_true rfl) ?_
  show X (FM (QZ L Q)) RX12 cX12_isTempted (some .boolean) 5 "isTempted" 9 0 0 (L, M) 0 [.ref 92, .int p0, .int p1, .int p2, junk] []
  refine X_aload_n 1 dX12_isTempted_0 rfl rfl ?_
  refine X_iload_n 2 dX12_isTempted_1 rfl rfl ?_
  refine X_iconst 3 (v := 1) dX12_isTempted_2 rfl rfl ?_
  refine X_iload_n 4 dX12_isTempted_3 rfl rfl ?_
  refine Y_ishl 5 dX12_isTempted_4 rfl ?_
  refine X_iconst 6 (v := -1) dX12_isTempted_5 rfl rfl ?_
  refine X_ixor 7 dX12_isTempted_6 rfl ?_
  refine X_iand 8 dX12_isTempted_7 rfl ?_
  refine X_iload_n 9 dX12_isTempted_8 rfl rfl ?_
  refine X_iconst 10 (v := 0) dX12_isTempted_9 rfl rfl ?_
  refine X_iconst 11 (v := -1) dX12_isTempted_10 rfl rfl ?_
  refine Y_cVV 14 (as := [.int ((p0 &&& ((jshl (1 : Int32) p1) ^^^ (-1 : Int32)))), .int p2, .int (0 : Int32), .int (-1 : Int32)]) m_X12_457 (s_X12_tries hL  hw) (hL.ob (c := 12) (by decide) rfl) rfl (by decide) (Nat.le_of_ble_eq_true rfl) dX12_isTempted_11 rfl rfl (fun M1 hw => ?_)
  refine X_aload_n 15 dX12_isTempted_14 rfl rfl ?_
  refine X_getR 18 f_X12_61 (hL.ob (c := 12) (by decide) rfl) rfl (hL.rr (by decide) rfl) dX12_isTempted_15 rfl ?_
  refine X_bipush 20 (v := 10) dX12_isTempted_18 rfl rfl ?_
  refine X_iload_n 21 dX12_isTempted_20 rfl rfl ?_
  refine X_iadd 22 dX12_isTempted_21 rfl ?_
  obtain ⟨c2, hw⟩ := hw
  refine Y_iald 23 (k := (tn ((10 : Int32) + p1))) (hL.ar (t := 0) (n := 20) (by decide) rfl) c2 rfl dX12_isTempted_22 rfl ?_
  refine X_nmI (fun x3 ex3 => ?_)
  have hw := hw x3 ex3
  refine X_istore 25 (ls' := [.ref 92, .int p0, .int p1, .int p2, .int x3]) dX12_isTempted_23 rfl (Nat.le_of_ble_eq_true rfl) rfl (Or.inr (Or.inr ⟨_, rfl, rfl⟩)) ?_
  refine X_aload_n 26 dX12_isTempted_25 rfl rfl ?_
  refine X_iload_n 27 dX12_isTempted_26 rfl rfl ?_
  refine X_iconst 28 (v := 1) dX12_isTempted_27 rfl rfl ?_
  refine X_iload_n 29 dX12_isTempted_28 rfl rfl ?_
  refine Y_ishl 30 dX12_isTempted_29 rfl ?_
  refine X_ior 31 dX12_isTempted_30 rfl ?_
  refine X_iload_n 32 dX12_isTempted_31 rfl rfl ?_
  refine X_iconst 33 (v := 0) dX12_isTempted_32 rfl rfl ?_
  refine X_iconst 34 (v := -1) dX12_isTempted_33 rfl rfl ?_
  refine Y_cVV 37 (as := [.int ((p0 ||| (jshl (1 : Int32) p1))), .int p2, .int (0 : Int32), .int (-1 : Int32)]) m_X12_457 (s_X12_tries hL  hw) (hL.ob (c := 12) (by decide) rfl) rfl (by decide) (Nat.le_of_ble_eq_true rfl) dX12_isTempted_34 rfl rfl (fun M4 hw => ?_)
  refine X_aload_n 38 dX12_isTempted_37 rfl rfl ?_
  refine X_getR 41 f_X12_61 (hL.ob (c := 12) (by decide) rfl) rfl (hL.rr (by decide) rfl) dX12_isTempted_38 rfl ?_
  refine X_bipush 43 (v := 10) dX12_isTempted_41 rfl rfl ?_
  refine X_iload_n 44 dX12_isTempted_43 rfl rfl ?_
  refine X_iadd 45 dX12_isTempted_44 rfl ?_
  refine Y_iald 46 (k := (tn ((10 : Int32) + p1))) (hL.ar (t := 0) (n := 20) (by decide) rfl) c2 rfl dX12_isTempted_45 rfl ?_
  refine X_iload 48 dX12_isTempted_46 rfl rfl ?_
  obtain ⟨x5, ex5⟩ : ∃ x5 : Int32, x5 = (if x3 < (mi M4 110 (tn ((10 : Int32) + p1))) then (1 : Int32) else (0 : Int32)) := ⟨_, rfl⟩
  have hw := hw x5 ex5
  have bx5 : BZ x5 := by rw [ex5]; (repeat' split) <;> first | exact Or.inl rfl | exact Or.inr rfl
  have hJ : X (FM (QZ L Q)) RX12 cX12_isTempted (some .boolean) 5 "isTempted" 9 0 0 (L, M4) 56 [.ref 92, .int p0, .int p1, .int p2, .int x3] [.int x5] := by
    exact X_ret rfl (nar_bool (bx5)) dX12_isTempted_56 ⟨_, _, rfl, bx5, rfl, hw⟩
  refine X_icmp_le 55 51 dX12_isTempted_48 rfl rfl (fun c6 => ?_) (fun c6 => ?_)
  · refine X_iconst 56 (v := 0) dX12_isTempted_55 rfl rfl ?_
    rw [if_neg c6] at ex5
    rw [ex5] at hJ
    exact hJ
  · refine X_iconst 52 (v := 1) dX12_isTempted_51 rfl rfl ?_
    refine X_goto 56 dX12_isTempted_52 rfl ?_
    rw [if_pos c6] at ex5
    rw [ex5] at hJ
    exact hJ
def w_X12_tempted (L : Lay) (p0 : Int32) (p1 : Int32) (p2 : Int32) (M : Mem) (Q : Int32 → Mem → Prop) : Prop := ∀ M1 : Mem, M1 = si M 92 0 (0 : Int32) → (w_X12_isSet L p0 M1 (fun x3 M2 => (((x3 = 0 → (Q (-1 : Int32) M2)) ∧ (¬ x3 = 0 → (w_X12_isOwner L p1 M2 (fun x6 M5 => (((x6 = 0 → (Q (-1 : Int32) M5)) ∧ (¬ x6 = 0 → (w_X12_within L p2 (0 : Int32) (60 : Int32) M5 (fun x9 M8 => (((x9 = 0 → (Q (-1 : Int32) M8)) ∧ (¬ x9 = 0 → (w_X12_isTempted L p0 p1 p2 M8 (fun x12 M11 => (∀ x13 : Int32, x13 = (if x12 = 0 then (0 : Int32) else (1 : Int32)) → (Q x13 M11)))))))))))))))))))
set_option maxRecDepth 20000 in
theorem s_X12_tempted {L : Lay} (hL : LY L) {p0 : Int32} {p1 : Int32} {p2 : Int32}  {M : Mem} {Q : Int32 → Mem → Prop} (hw : w_X12_tempted L p0 p1 p2 M Q) : MX yX12_tempted cX12_tempted (some .int) 4 10 0 0 [.ref 92, .int p0, .int p1, .int p2] (L, M) (QI L Q) := by
  unfold w_X12_tempted at hw
  refine MX_of (by decide) [.ref 92, .int p0, .int p1, .int p2] (by rfl) (by exact Nat.le_of_ble_eq_true rfl) ?_
  show X (FM (QI L Q)) RX12 cX12_tempted (some .int) 4 "tempted" 10 0 0 (L, M) 0 [.ref 92, .int p0, .int p1, .int p2] []
  refine X_aload_n 1 dX12_tempted_0 rfl rfl ?_
  refine X_iconst 2 (v := 0) dX12_tempted_1 rfl rfl ?_
  refine X_putI 5 f_X12_206 (Or.inl rfl) (hL.ob (c := 12) (by decide) rfl) rfl dX12_tempted_2 rfl ?_
  refine X_nmM (fun M1 eM1 => ?_)
  have hw := hw M1 eM1
  refine X_aload_n 6 dX12_tempted_5 rfl rfl ?_
  refine X_iload_n 7 dX12_tempted_6 rfl rfl ?_
  refine Y_cVZ 10 (as := [.int p0]) m_X12_454 (s_X12_isSet hL  hw) (hL.ob (c := 12) (by decide) rfl) rfl (by decide) (Nat.le_of_ble_eq_true rfl) dX12_tempted_7 rfl rfl (fun x3 M2 bx3 hw => ?_)
  refine X_if_eq 31 13 (y := 0) dX12_tempted_10 rfl rfl (fun c4 => ?_) (fun c4 => ?_)
  · have hw := hw.1 c4
    refine X_iconst 32 (v := -1) dX12_tempted_31 rfl rfl ?_
    exact X_ret rfl rfl dX12_tempted_32 ⟨_, _, rfl, rfl, hw⟩
  · have hw := hw.2 c4
    refine X_aload_n 14 dX12_tempted_13 rfl rfl ?_
    refine X_iload_n 15 dX12_tempted_14 rfl rfl ?_
    refine Y_cVZ 18 (as := [.int p1]) m_X12_217 (s_X12_isOwner hL  hw) (hL.ob (c := 12) (by decide) rfl) rfl (by decide) (Nat.le_of_ble_eq_true rfl) dX12_tempted_15 rfl rfl (fun x6 M5 bx6 hw => ?_)
    refine X_if_eq 31 21 (y := 0) dX12_tempted_18 rfl rfl (fun c7 => ?_) (fun c7 => ?_)
    · have hw := hw.1 c7
      refine X_iconst 32 (v := -1) dX12_tempted_31 rfl rfl ?_
      exact X_ret rfl rfl dX12_tempted_32 ⟨_, _, rfl, rfl, hw⟩
    · have hw := hw.2 c7
      refine X_iload_n 22 dX12_tempted_21 rfl rfl ?_
      refine X_iconst 23 (v := 0) dX12_tempted_22 rfl rfl ?_
      refine X_bipush 25 (v := 60) dX12_tempted_23 rfl rfl ?_
      refine Y_cSZ 28 (as := [.int p2, .int (0 : Int32), .int (60 : Int32)]) m_X12_213 (s_X12_within hL  hw) rfl (by decide) (Nat.le_of_ble_eq_true rfl) dX12_tempted_25 rfl rfl (fun x9 M8 bx9 hw => ?_)
      refine X_if_ne 33 31 (y := 0) dX12_tempted_28 rfl rfl (fun c10 => ?_) (fun c10 => ?_)
      · have hw := hw.2 c10
        refine X_aload_n 34 dX12_tempted_33 rfl rfl ?_
        refine X_iload_n 35 dX12_tempted_34 rfl rfl ?_
        refine X_iload_n 36 dX12_tempted_35 rfl rfl ?_
        refine X_iload_n 37 dX12_tempted_36 rfl rfl ?_
        refine Y_cVZ 40 (as := [.int p0, .int p1, .int p2]) m_X12_461 (s_X12_isTempted hL  hw) (hL.ob (c := 12) (by decide) rfl) rfl (by decide) (Nat.le_of_ble_eq_true rfl) dX12_tempted_37 rfl rfl (fun x12 M11 bx12 hw => ?_)
        obtain ⟨x13, ex13⟩ : ∃ x13 : Int32, x13 = (if x12 = 0 then (0 : Int32) else (1 : Int32)) := ⟨_, rfl⟩
        have hw := hw x13 ex13
        have bx13 : BZ x13 := by rw [ex13]; (repeat' split) <;> first | exact Or.inl rfl | exact Or.inr rfl
        have hJ : X (FM (QI L Q)) RX12 cX12_tempted (some .int) 4 "tempted" 10 0 0 (L, M11) 48 [.ref 92, .int p0, .int p1, .int p2] [.int x13] := by
          exact X_ret rfl rfl dX12_tempted_48 ⟨_, _, rfl, rfl, hw⟩
        refine X_if_eq 47 43 (y := 0) dX12_tempted_40 rfl rfl (fun c14 => ?_) (fun c14 => ?_)
        · refine X_iconst 48 (v := 0) dX12_tempted_47 rfl rfl ?_
          rw [if_pos c14] at ex13
          rw [ex13] at hJ
          exact hJ
        · refine X_iconst 44 (v := 1) dX12_tempted_43 rfl rfl ?_
          refine X_goto 48 dX12_tempted_44 rfl ?_
          rw [if_neg c14] at ex13
          rw [ex13] at hJ
          exact hJ
      · have hw := hw.1 c10
        refine X_iconst 32 (v := -1) dX12_tempted_31 rfl rfl ?_
        exact X_ret rfl rfl dX12_tempted_32 ⟨_, _, rfl, rfl, hw⟩
def w_X12_slide_48 (L : Lay) (p0 : Int32) (p1 : Int32) (K37 : Int32 → Int32 → Int32 → Mem → Prop) (K48 : Int32 → Int32 → Int32 → Int32 → Mem → Prop) (v3 : Int32) (v4 : Int32) (v5 : Int32) (v6 : Int32) (M : Mem) (Q : Int32 → Mem → Prop) : Prop := ((v6 < (mi M 92 28) → (((v5 = 0 → (((((jshr v3 v6) &&& (1 : Int32)) = (1 : Int32) → (∀ x16 : Int32, x16 = v6 + (1 : Int32) → (K48 v3 v4 v5 x16 M))) ∧ (¬ ((jshr v3 v6) &&& (1 : Int32)) = (1 : Int32) → (w_X12_isTempted L v3 v6 p0 M (fun x18 M17 => (((x18 = 0 → (∀ x23 : Int32, x23 = v6 + (1 : Int32) → (K48 v3 v4 v5 x23 M17))) ∧ (¬ x18 = 0 → (∀ x20 : Int32, x20 = (v3 ||| (jshl (1 : Int32) v6)) → (∀ x21 : Int32, x21 = v4 + (1 : Int32) → (∀ x22 : Int32, x22 = v6 + (1 : Int32) → (K48 x20 x21 (1 : Int32) x22 M17))))))))))))) ∧ (¬ v5 = 0 → (K37 v3 v4 v5 M))))) ∧ (¬ v6 < (mi M 92 28) → (K37 v3 v4 v5 M)))
set_option maxRecDepth 20000 in
theorem t_X12_slide_48 {L : Lay} (hL : LY L) {p0 : Int32} {p1 : Int32}  {K37 : Int32 → Int32 → Int32 → Mem → Prop} {K48 : Int32 → Int32 → Int32 → Int32 → Mem → Prop} {v3 : Int32} {v4 : Int32} {v5 : Int32} {v6 : Int32}  {M : Mem} {Q : Int32 → Mem → Prop} (hw : w_X12_slide_48 L p0 p1 K37 K48 v3 v4 v5 v6 M Q) (hK37 : ∀ (v3 : Int32) (v4 : Int32) (v5 : Int32) (M : Mem), K37 v3 v4 v5 M → X (FM (QI L Q)) RX12 cX12_slide (some .int) 7 "slide" 10 0 0 (L, M) 37 [.ref 92, .int p0, .int p1, .int v3, .int v4, .int v5, junk] []) (hK48 : ∀ (v3 : Int32) (v4 : Int32) (v5 : Int32) (v6 : Int32) (M : Mem), K48 v3 v4 v5 v6 M → X (FM (QI L Q)) RX12 cX12_slide (some .int) 7 "slide" 10 0 0 (L, M) 48 [.ref 92, .int p0, .int p1, .int v3, .int v4, .int v5, .int v6] []) : X (FM (QI L Q)) RX12 cX12_slide (some .int) 7 "slide" 10 0 0 (L, M) 48 [.ref 92, .int p0, .int p1, .int v3, .int v4, .int v5, .int v6] [] := by
  unfold w_X12_slide_48 at hw
  refine X_iload 50 dX12_slide_48 rfl rfl ?_
  refine X_aload_n 51 dX12_slide_50 rfl rfl ?_
  refine X_getI 54 f_X12_210 (hL.ob (c := 12) (by decide) rfl) rfl dX12_slide_51 rfl ?_
  refine X_icmp_ge 105 57 dX12_slide_54 rfl rfl (fun c13 => ?_) (fun c13 => ?_)
  · have hw := hw.2 c13
    refine X_goto 37 dX12_slide_105 rfl ?_
    refine X_weak (ls' := [.ref 92, .int p0, .int p1, .int v3, .int v4, .int v5, junk]) (WK.s (WK.s (WK.s (WK.s (WK.s (WK.s (WK.j WK.n))))))) (Nat.le_of_ble_eq_true rfl) ?_
    exact hK37 v3 v4 v5 M hw
  · have hw := hw.1 c13
    refine X_iload 59 dX12_slide_57 rfl rfl ?_
    refine X_if_ne 105 62 (y := 0) dX12_slide_59 rfl rfl (fun c14 => ?_) (fun c14 => ?_)
    · have hw := hw.2 c14
      refine X_goto 37 dX12_slide_105 rfl ?_
      refine X_weak (ls' := [.ref 92, .int p0, .int p1, .int v3, .int v4, .int v5, junk]) (WK.s (WK.s (WK.s (WK.s (WK.s (WK.s (WK.j WK.n))))))) (Nat.le_of_ble_eq_true rfl) ?_
      exact hK37 v3 v4 v5 M hw
    · have hw := hw.1 c14
      refine X_iload_n 63 dX12_slide_62 rfl rfl ?_
      refine X_iload 65 dX12_slide_63 rfl rfl ?_
      refine Y_ishr 66 dX12_slide_65 rfl ?_
      refine X_iconst 67 (v := 1) dX12_slide_66 rfl rfl ?_
      refine X_iand 68 dX12_slide_67 rfl ?_
      refine X_iconst 69 (v := 1) dX12_slide_68 rfl rfl ?_
      refine X_icmp_eq 99 72 dX12_slide_69 rfl rfl (fun c15 => ?_) (fun c15 => ?_)
      · have hw := hw.1 c15
        obtain ⟨x16, ex16⟩ : ∃ x16 : Int32, x16 = v6 + (1 : Int32) := ⟨_, rfl⟩
        have hw := hw x16 ex16
        refine X_iinc 102 (v := x16) (ls' := [.ref 92, .int p0, .int p1, .int v3, .int v4, .int v5, .int x16]) dX12_slide_99 rfl rfl (by rw [ex16]; rfl) rfl (Or.inr (Or.inr ⟨_, rfl, rfl⟩)) ?_
        refine X_goto 48 dX12_slide_102 rfl ?_
        exact hK48 v3 v4 v5 x16 M hw
      · have hw := hw.2 c15
        refine X_aload_n 73 dX12_slide_72 rfl rfl ?_
        refine X_iload_n 74 dX12_slide_73 rfl rfl ?_
        refine X_iload 76 dX12_slide_74 rfl rfl ?_
        refine X_iload_n 77 dX12_slide_76 rfl rfl ?_
        refine Y_cVZ 80 (as := [.int v3, .int v6, .int p0]) m_X12_461 (s_X12_isTempted hL  hw) (hL.ob (c := 12) (by decide) rfl) rfl (by decide) (Nat.le_of_ble_eq_true rfl) dX12_slide_77 rfl rfl (fun x18 M17 bx18 hw => ?_)
        refine X_if_ne 86 83 (y := 0) dX12_slide_80 rfl rfl (fun c19 => ?_) (fun c19 => ?_)
        · have hw := hw.2 c19
          refine X_iload_n 87 dX12_slide_86 rfl rfl ?_
          refine X_iconst 88 (v := 1) dX12_slide_87 rfl rfl ?_
          refine X_iload 90 dX12_slide_88 rfl rfl ?_
          refine Y_ishl 91 dX12_slide_90 rfl ?_
          refine X_ior 92 dX12_slide_91 rfl ?_
          refine X_nmI (fun x20 ex20 => ?_)
          have hw := hw x20 ex20
          refine X_istore_n 93 (ls' := [.ref 92, .int p0, .int p1, .int x20, .int v4, .int v5, .int v6]) dX12_slide_92 rfl rfl (Nat.le_of_ble_eq_true rfl) rfl (Or.inr (Or.inr ⟨_, rfl, rfl⟩)) ?_
          obtain ⟨x21, ex21⟩ : ∃ x21 : Int32, x21 = v4 + (1 : Int32) := ⟨_, rfl⟩
          have hw := hw x21 ex21
          refine X_iinc 96 (v := x21) (ls' := [.ref 92, .int p0, .int p1, .int x20, .int x21, .int v5, .int v6]) dX12_slide_93 rfl rfl (by rw [ex21]; rfl) rfl (Or.inr (Or.inr ⟨_, rfl, rfl⟩)) ?_
          refine X_iconst 97 (v := 1) dX12_slide_96 rfl rfl ?_
          refine X_istore 99 (ls' := [.ref 92, .int p0, .int p1, .int x20, .int x21, .int (1 : Int32), .int v6]) dX12_slide_97 rfl (Nat.le_of_ble_eq_true rfl) rfl (Or.inr (Or.inr ⟨_, rfl, rfl⟩)) ?_
          obtain ⟨x22, ex22⟩ : ∃ x22 : Int32, x22 = v6 + (1 : Int32) := ⟨_, rfl⟩
          have hw := hw x22 ex22
          refine X_iinc 102 (v := x22) (ls' := [.ref 92, .int p0, .int p1, .int x20, .int x21, .int (1 : Int32), .int x22]) dX12_slide_99 rfl rfl (by rw [ex22]; rfl) rfl (Or.inr (Or.inr ⟨_, rfl, rfl⟩)) ?_
          refine X_goto 48 dX12_slide_102 rfl ?_
          exact hK48 x20 x21 (1 : Int32) x22 M17 hw
        · have hw := hw.1 c19
          refine X_goto 99 dX12_slide_83 rfl ?_
          obtain ⟨x23, ex23⟩ : ∃ x23 : Int32, x23 = v6 + (1 : Int32) := ⟨_, rfl⟩
          have hw := hw x23 ex23
          refine X_iinc 102 (v := x23) (ls' := [.ref 92, .int p0, .int p1, .int v3, .int v4, .int v5, .int x23]) dX12_slide_99 rfl rfl (by rw [ex23]; rfl) rfl (Or.inr (Or.inr ⟨_, rfl, rfl⟩)) ?_
          refine X_goto 48 dX12_slide_102 rfl ?_
          exact hK48 v3 v4 v5 x23 M17 hw
def w_X12_slide_37 (L : Lay) (p0 : Int32) (p1 : Int32) (K37 : Int32 → Int32 → Int32 → Mem → Prop) (v3 : Int32) (v4 : Int32) (v5 : Int32) (M : Mem) (Q : Int32 → Mem → Prop) : Prop := ((v5 = 0 → (∀ x11 : Int32, x11 = (if p1 = 0 then v3 else v4) → (Q x11 M))) ∧ (¬ v5 = 0 → (LP5 (fun K48 v3 v4 v5 v6 M => w_X12_slide_48 L p0 p1 K37 K48 v3 v4 v5 v6 M Q) v3 v4 (0 : Int32) (0 : Int32) M)))
set_option maxRecDepth 20000 in
theorem t_X12_slide_37 {L : Lay} (hL : LY L) {p0 : Int32} {p1 : Int32}  {K37 : Int32 → Int32 → Int32 → Mem → Prop} {v3 : Int32} {v4 : Int32} {v5 : Int32}  {M : Mem} {Q : Int32 → Mem → Prop} (hw : w_X12_slide_37 L p0 p1 K37 v3 v4 v5 M Q) (hK37 : ∀ (v3 : Int32) (v4 : Int32) (v5 : Int32) (M : Mem), K37 v3 v4 v5 M → X (FM (QI L Q)) RX12 cX12_slide (some .int) 7 "slide" 10 0 0 (L, M) 37 [.ref 92, .int p0, .int p1, .int v3, .int v4, .int v5, junk] []) : X (FM (QI L Q)) RX12 cX12_slide (some .int) 7 "slide" 10 0 0 (L, M) 37 [.ref 92, .int p0, .int p1, .int v3, .int v4, .int v5, junk] [] := by
  unfold w_X12_slide_37 at hw
  refine X_iload 39 dX12_slide_37 rfl rfl ?_
  refine X_if_eq 108 42 (y := 0) dX12_slide_39 rfl rfl (fun c10 => ?_) (fun c10 => ?_)
  · have hw := hw.1 c10
    refine X_iload_n 109 dX12_slide_108 rfl rfl ?_
    obtain ⟨x11, ex11⟩ : ∃ x11 : Int32, x11 = (if p1 = 0 then v3 else v4) := ⟨_, rfl⟩
    have hw := hw x11 ex11
    have hJ : X (FM (QI L Q)) RX12 cX12_slide (some .int) 7 "slide" 10 0 0 (L, M) 118 [.ref 92, .int p0, .int p1, .int v3, .int v4, .int v5, junk] [.int x11] := by
      exact X_ret rfl rfl dX12_slide_118 ⟨_, _, rfl, rfl, hw⟩
    refine X_if_ne 116 112 (y := 0) dX12_slide_109 rfl rfl (fun c12 => ?_) (fun c12 => ?_)
    · refine X_iload 118 dX12_slide_116 rfl rfl ?_
      rw [if_neg c12] at ex11
      rw [ex11] at hJ
      exact hJ
    · refine X_iload_n 113 dX12_slide_112 rfl rfl ?_
      refine X_goto 118 dX12_slide_113 rfl ?_
      rw [if_pos c12] at ex11
      rw [ex11] at hJ
      exact hJ
  · have hw := hw.2 c10
    refine X_iconst 43 (v := 0) dX12_slide_42 rfl rfl ?_
    refine X_istore 45 (ls' := [.ref 92, .int p0, .int p1, .int v3, .int v4, .int (0 : Int32), junk]) dX12_slide_43 rfl (Nat.le_of_ble_eq_true rfl) rfl (Or.inr (Or.inr ⟨_, rfl, rfl⟩)) ?_
    refine X_iconst 46 (v := 0) dX12_slide_45 rfl rfl ?_
    refine X_istore 48 (ls' := [.ref 92, .int p0, .int p1, .int v3, .int v4, .int (0 : Int32), .int (0 : Int32)]) dX12_slide_46 rfl (Nat.le_of_ble_eq_true rfl) rfl (Or.inr (Or.inr ⟨_, rfl, rfl⟩)) ?_
    exact LP5_s hw (G := fun v3 v4 v5 v6 M => X (FM (QI L Q)) RX12 cX12_slide (some .int) 7 "slide" 10 0 0 (L, M) 48 [.ref 92, .int p0, .int p1, .int v3, .int v4, .int v5, .int v6] []) (fun K48 v3 v4 v5 v6 M hb hK => t_X12_slide_48 hL  hb hK37 hK)
def w_X12_slide (L : Lay) (p0 : Int32) (p1 : Int32) (M : Mem) (Q : Int32 → Mem → Prop) : Prop := ∀ M1 : Mem, M1 = si M 92 0 (0 : Int32) → (w_X12_within L p0 (1 : Int32) (30 : Int32) M1 (fun x3 M2 => (((x3 = 0 → (Q (-1 : Int32) M2)) ∧ (¬ x3 = 0 → (w_X12_within L p1 (0 : Int32) (1 : Int32) M2 (fun x6 M5 => (((x6 = 0 → (Q (-1 : Int32) M5)) ∧ (¬ x6 = 0 → (w_X12_breakers L  M5 (fun x9 M8 => (LP4 (fun K37 v3 v4 v5 M => w_X12_slide_37 L p0 p1  K37 v3 v4 v5 M Q) x9 (0 : Int32) (1 : Int32) M8)))))))))))))
set_option maxRecDepth 20000 in
theorem s_X12_slide {L : Lay} (hL : LY L) {p0 : Int32} {p1 : Int32}  {M : Mem} {Q : Int32 → Mem → Prop} (hw : w_X12_slide L p0 p1 M Q) : MX yX12_slide cX12_slide (some .int) 7 10 0 0 [.ref 92, .int p0, .int p1] (L, M) (QI L Q) := by
  unfold w_X12_slide at hw
  refine MX_of (by decide) [.ref 92, .int p0, .int p1, junk, junk, junk, junk] (by rfl) (by exact Nat.le_of_ble_eq_true rfl) ?_
  show X (FM (QI L Q)) RX12 cX12_slide (some .int) 7 "slide" 10 0 0 (L, M) 0 [.ref 92, .int p0, .int p1, junk, junk, junk, junk] []
  refine X_aload_n 1 dX12_slide_0 rfl rfl ?_
  refine X_iconst 2 (v := 0) dX12_slide_1 rfl rfl ?_
  refine X_putI 5 f_X12_206 (Or.inl rfl) (hL.ob (c := 12) (by decide) rfl) rfl dX12_slide_2 rfl ?_
  refine X_nmM (fun M1 eM1 => ?_)
  have hw := hw M1 eM1
  refine X_iload_n 6 dX12_slide_5 rfl rfl ?_
  refine X_iconst 7 (v := 1) dX12_slide_6 rfl rfl ?_
  refine X_bipush 9 (v := 30) dX12_slide_7 rfl rfl ?_
  refine Y_cSZ 12 (as := [.int p0, .int (1 : Int32), .int (30 : Int32)]) m_X12_213 (s_X12_within hL  hw) rfl (by decide) (Nat.le_of_ble_eq_true rfl) dX12_slide_9 rfl rfl (fun x3 M2 bx3 hw => ?_)
  refine X_if_eq 24 15 (y := 0) dX12_slide_12 rfl rfl (fun c4 => ?_) (fun c4 => ?_)
  · have hw := hw.1 c4
    refine X_iconst 25 (v := -1) dX12_slide_24 rfl rfl ?_
    exact X_ret rfl rfl dX12_slide_25 ⟨_, _, rfl, rfl, hw⟩
  · have hw := hw.2 c4
    refine X_iload_n 16 dX12_slide_15 rfl rfl ?_
    refine X_iconst 17 (v := 0) dX12_slide_16 rfl rfl ?_
    refine X_iconst 18 (v := 1) dX12_slide_17 rfl rfl ?_
    refine Y_cSZ 21 (as := [.int p1, .int (0 : Int32), .int (1 : Int32)]) m_X12_213 (s_X12_within hL  hw) rfl (by decide) (Nat.le_of_ble_eq_true rfl) dX12_slide_18 rfl rfl (fun x6 M5 bx6 hw => ?_)
    refine X_if_ne 26 24 (y := 0) dX12_slide_21 rfl rfl (fun c7 => ?_) (fun c7 => ?_)
    · have hw := hw.2 c7
      refine X_aload_n 27 dX12_slide_26 rfl rfl ?_
      refine Y_cVI 30 (as := []) m_X12_464 (s_X12_breakers hL  hw) (hL.ob (c := 12) (by decide) rfl) rfl (by decide) (Nat.le_of_ble_eq_true rfl) dX12_slide_27 rfl rfl (fun x9 M8 hw => ?_)
      refine X_istore_n 31 (ls' := [.ref 92, .int p0, .int p1, .int x9, junk, junk, junk]) dX12_slide_30 rfl rfl (Nat.le_of_ble_eq_true rfl) rfl (Or.inr (Or.inr ⟨_, rfl, rfl⟩)) ?_
      refine X_iconst 32 (v := 0) dX12_slide_31 rfl rfl ?_
      refine X_istore 34 (ls' := [.ref 92, .int p0, .int p1, .int x9, .int (0 : Int32), junk, junk]) dX12_slide_32 rfl (Nat.le_of_ble_eq_true rfl) rfl (Or.inr (Or.inr ⟨_, rfl, rfl⟩)) ?_
      refine X_iconst 35 (v := 1) dX12_slide_34 rfl rfl ?_
      refine X_istore 37 (ls' := [.ref 92, .int p0, .int p1, .int x9, .int (0 : Int32), .int (1 : Int32), junk]) dX12_slide_35 rfl (Nat.le_of_ble_eq_true rfl) rfl (Or.inr (Or.inr ⟨_, rfl, rfl⟩)) ?_
      exact LP4_s hw (G := fun v3 v4 v5 M => X (FM (QI L Q)) RX12 cX12_slide (some .int) 7 "slide" 10 0 0 (L, M) 37 [.ref 92, .int p0, .int p1, .int v3, .int v4, .int v5, junk] []) (fun K37 v3 v4 v5 M hb hK => t_X12_slide_37 hL  hb  hK)
    · have hw := hw.1 c7
      refine X_iconst 25 (v := -1) dX12_slide_24 rfl rfl ?_
      exact X_ret rfl rfl dX12_slide_25 ⟨_, _, rfl, rfl, hw⟩
def w_X12_triedWith_16 (L : Lay) (p0 : Int32) (K16 : Int32 → Int32 → Mem → Prop) (v2 : Int32) (v3 : Int32) (M : Mem) (Q : Int32 → Mem → Prop) : Prop := ((v3 < (mi M 92 28) → (vp_in ((10 : Int32) + v3) 20 ∧ (∀ x6 : Int32, x6 = (v2 + (mi M 110 (tn ((10 : Int32) + v3)))) → (∀ x7 : Int32, x7 = v3 + (1 : Int32) → (K16 x6 x7 M))))) ∧ (¬ v3 < (mi M 92 28) → (Q v2 M)))
set_option maxRecDepth 20000 in
theorem t_X12_triedWith_16 {L : Lay} (hL : LY L) {p0 : Int32}  {K16 : Int32 → Int32 → Mem → Prop} {v2 : Int32} {v3 : Int32}  {M : Mem} {Q : Int32 → Mem → Prop} (hw : w_X12_triedWith_16 L p0 K16 v2 v3 M Q) (hK16 : ∀ (v2 : Int32) (v3 : Int32) (M : Mem), K16 v2 v3 M → X (FM (QI L Q)) RX12 cX12_triedWith (some .int) 4 "triedWith" 9 0 0 (L, M) 16 [.ref 92, junk, .int v2, .int v3] []) : X (FM (QI L Q)) RX12 cX12_triedWith (some .int) 4 "triedWith" 9 0 0 (L, M) 16 [.ref 92, junk, .int v2, .int v3] [] := by
  unfold w_X12_triedWith_16 at hw
  refine X_iload_n 17 dX12_triedWith_16 rfl rfl ?_
  refine X_aload_n 18 dX12_triedWith_17 rfl rfl ?_
  refine X_getI 21 f_X12_210 (hL.ob (c := 12) (by decide) rfl) rfl dX12_triedWith_18 rfl ?_
  refine X_icmp_ge 42 24 dX12_triedWith_21 rfl rfl (fun c4 => ?_) (fun c4 => ?_)
  · have hw := hw.2 c4
    refine X_iload_n 43 dX12_triedWith_42 rfl rfl ?_
    exact X_ret rfl rfl dX12_triedWith_43 ⟨_, _, rfl, rfl, hw⟩
  · have hw := hw.1 c4
    refine X_iload_n 25 dX12_triedWith_24 rfl rfl ?_
    refine X_aload_n 26 dX12_triedWith_25 rfl rfl ?_
    refine X_getR 29 f_X12_61 (hL.ob (c := 12) (by decide) rfl) rfl (hL.rr (by decide) rfl) dX12_triedWith_26 rfl ?_
    refine X_bipush 31 (v := 10) dX12_triedWith_29 rfl rfl ?_
    refine X_iload_n 32 dX12_triedWith_31 rfl rfl ?_
    refine X_iadd 33 dX12_triedWith_32 rfl ?_
    obtain ⟨c5, hw⟩ := hw
    refine Y_iald 34 (k := (tn ((10 : Int32) + v3))) (hL.ar (t := 0) (n := 20) (by decide) rfl) c5 rfl dX12_triedWith_33 rfl ?_
    refine X_iadd 35 dX12_triedWith_34 rfl ?_
    refine X_nmI (fun x6 ex6 => ?_)
    have hw := hw x6 ex6
    refine X_istore_n 36 (ls' := [.ref 92, junk, .int x6, .int v3]) dX12_triedWith_35 rfl rfl (Nat.le_of_ble_eq_true rfl) rfl (Or.inr (Or.inl rfl)) ?_
    obtain ⟨x7, ex7⟩ : ∃ x7 : Int32, x7 = v3 + (1 : Int32) := ⟨_, rfl⟩
    have hw := hw x7 ex7
    refine X_iinc 39 (v := x7) (ls' := [.ref 92, junk, .int x6, .int x7]) dX12_triedWith_36 rfl rfl (by rw [ex7]; rfl) rfl (Or.inr (Or.inr ⟨_, rfl, rfl⟩)) ?_
    refine X_goto 16 dX12_triedWith_39 rfl ?_
    exact hK16 x6 x7 M hw
def w_X12_triedWith (L : Lay) (p0 : Int32) (M : Mem) (Q : Int32 → Mem → Prop) : Prop := w_X12_breakers L  M (fun x2 M1 => (w_X12_tries L x2 (30 : Int32) (0 : Int32) p0 M1 (fun M3 => (LP3 (fun K16 v2 v3 M => w_X12_triedWith_16 L p0  K16 v2 v3 M Q) (0 : Int32) (0 : Int32) M3))))
set_option maxRecDepth 20000 in
theorem s_X12_triedWith {L : Lay} (hL : LY L) {p0 : Int32}  {M : Mem} {Q : Int32 → Mem → Prop} (hw : w_X12_triedWith L p0 M Q) : MX yX12_triedWith cX12_triedWith (some .int) 4 9 0 0 [.ref 92, .int p0] (L, M) (QI L Q) := by
  unfold w_X12_triedWith at hw
  refine MX_of (by decide) [.ref 92, .int p0, junk, junk] (by rfl) (by exact Nat.le_of_ble_eq_true rfl) ?_
  show X (FM (QI L Q)) RX12 cX12_triedWith (some .int) 4 "triedWith" 9 0 0 (L, M) 0 [.ref 92, .int p0, junk, junk] []
  refine X_aload_n 1 dX12_triedWith_0 rfl rfl ?_
  refine X_aload_n 2 dX12_triedWith_1 rfl rfl ?_
  refine Y_cVI 5 (as := []) m_X12_464 (s_X12_breakers hL  hw) (hL.ob (c := 12) (by decide) rfl) rfl (by decide) (Nat.le_of_ble_eq_true rfl) dX12_triedWith_2 rfl rfl (fun x2 M1 hw => ?_)
  refine X_bipush 7 (v := 30) dX12_triedWith_5 rfl rfl ?_
  refine X_iconst 8 (v := 0) dX12_triedWith_7 rfl rfl ?_
  refine X_iload_n 9 dX12_triedWith_8 rfl rfl ?_
  refine Y_cVV 12 (as := [.int x2, .int (30 : Int32), .int (0 : Int32), .int p0]) m_X12_457 (s_X12_tries hL  hw) (hL.ob (c := 12) (by decide) rfl) rfl (by decide) (Nat.le_of_ble_eq_true rfl) dX12_triedWith_9 rfl rfl (fun M3 hw => ?_)
  refine X_iconst 13 (v := 0) dX12_triedWith_12 rfl rfl ?_
  refine X_istore_n 14 (ls' := [.ref 92, .int p0, .int (0 : Int32), junk]) dX12_triedWith_13 rfl rfl (Nat.le_of_ble_eq_true rfl) rfl (Or.inr (Or.inr ⟨_, rfl, rfl⟩)) ?_
  refine X_iconst 15 (v := 0) dX12_triedWith_14 rfl rfl ?_
  refine X_istore_n 16 (ls' := [.ref 92, .int p0, .int (0 : Int32), .int (0 : Int32)]) dX12_triedWith_15 rfl rfl (Nat.le_of_ble_eq_true rfl) rfl (Or.inr (Or.inr ⟨_, rfl, rfl⟩)) ?_
  refine X_weak (ls' := [.ref 92, junk, .int (0 : Int32), .int (0 : Int32)]) (WK.s (WK.j (WK.s (WK.s WK.n)))) (Nat.le_of_ble_eq_true rfl) ?_
  exact LP3_s hw (G := fun v2 v3 M => X (FM (QI L Q)) RX12 cX12_triedWith (some .int) 4 "triedWith" 9 0 0 (L, M) 16 [.ref 92, junk, .int v2, .int v3] []) (fun K16 v2 v3 M hb hK => t_X12_triedWith_16 hL  hb  hK)
def w_X12_tried (L : Lay) (p0 : Int32) (M : Mem) (Q : Int32 → Mem → Prop) : Prop := ∀ M1 : Mem, M1 = si M 92 0 (0 : Int32) → (w_X12_within L p0 (0 : Int32) (9999 : Int32) M1 (fun x3 M2 => (((x3 = 0 → (∀ M7 : Mem, M7 = si M2 92 0 (1 : Int32) → (Q (0 : Int32) M7))) ∧ (¬ x3 = 0 → (w_X12_triedWith L p0 M2 (fun x6 M5 => (Q x6 M5))))))))
set_option maxRecDepth 20000 in
theorem s_X12_tried {L : Lay} (hL : LY L) {p0 : Int32}  {M : Mem} {Q : Int32 → Mem → Prop} (hw : w_X12_tried L p0 M Q) : MX yX12_tried cX12_tried (some .int) 2 10 0 0 [.ref 92, .int p0] (L, M) (QI L Q) := by
  unfold w_X12_tried at hw
  refine MX_of (by decide) [.ref 92, .int p0] (by rfl) (by exact Nat.le_of_ble_eq_true rfl) ?_
  show X (FM (QI L Q)) RX12 cX12_tried (some .int) 2 "tried" 10 0 0 (L, M) 0 [.ref 92, .int p0] []
  refine X_aload_n 1 dX12_tried_0 rfl rfl ?_
  refine X_iconst 2 (v := 0) dX12_tried_1 rfl rfl ?_
  refine X_putI 5 f_X12_206 (Or.inl rfl) (hL.ob (c := 12) (by decide) rfl) rfl dX12_tried_2 rfl ?_
  refine X_nmM (fun M1 eM1 => ?_)
  have hw := hw M1 eM1
  refine X_iload_n 6 dX12_tried_5 rfl rfl ?_
  refine X_iconst 7 (v := 0) dX12_tried_6 rfl rfl ?_
  refine X_sipush 10 (v := 9999) dX12_tried_7 rfl rfl ?_
  refine Y_cSZ 13 (as := [.int p0, .int (0 : Int32), .int (9999 : Int32)]) m_X12_213 (s_X12_within hL  hw) rfl (by decide) (Nat.le_of_ble_eq_true rfl) dX12_tried_10 rfl rfl (fun x3 M2 bx3 hw => ?_)
  refine X_if_ne 23 16 (y := 0) dX12_tried_13 rfl rfl (fun c4 => ?_) (fun c4 => ?_)
  · have hw := hw.2 c4
    refine X_aload_n 24 dX12_tried_23 rfl rfl ?_
    refine X_iload_n 25 dX12_tried_24 rfl rfl ?_
    refine Y_cVI 28 (as := [.int p0]) m_X12_467 (s_X12_triedWith hL  hw) (hL.ob (c := 12) (by decide) rfl) rfl (by decide) (Nat.le_of_ble_eq_true rfl) dX12_tried_25 rfl rfl (fun x6 M5 hw => ?_)
    exact X_ret rfl rfl dX12_tried_28 ⟨_, _, rfl, rfl, hw⟩
  · have hw := hw.1 c4
    refine X_aload_n 17 dX12_tried_16 rfl rfl ?_
    refine X_iconst 18 (v := 1) dX12_tried_17 rfl rfl ?_
    refine X_putI 21 f_X12_206 (Or.inl rfl) (hL.ob (c := 12) (by decide) rfl) rfl dX12_tried_18 rfl ?_
    refine X_nmM (fun M7 eM7 => ?_)
    have hw := hw M7 eM7
    refine X_iconst 22 (v := 0) dX12_tried_21 rfl rfl ?_
    exact X_ret rfl rfl dX12_tried_22 ⟨_, _, rfl, rfl, hw⟩
def w_X12_best_29 (L : Lay) (p0 : Int32) (K29 : Int32 → Int32 → Int32 → Mem → Prop) (v2 : Int32) (v3 : Int32) (v4 : Int32) (M : Mem) (Q : Int32 → Mem → Prop) : Prop := (((20 : Int32) < v4 → (Q v2 M)) ∧ (¬ (20 : Int32) < v4 → (w_X12_triedWith L (v4 * p0) M (fun x9 M8 => (((v3 < x9 → (∀ x11 : Int32, x11 = (v4 * p0) → (∀ x12 : Int32, x12 = v4 + (1 : Int32) → (K29 x11 x9 x12 M8)))) ∧ (¬ v3 < x9 → (∀ x13 : Int32, x13 = v4 + (1 : Int32) → (K29 v2 v3 x13 M8)))))))))
set_option maxRecDepth 20000 in
theorem t_X12_best_29 {L : Lay} (hL : LY L) {p0 : Int32}  {K29 : Int32 → Int32 → Int32 → Mem → Prop} {v2 : Int32} {v3 : Int32} {v4 : Int32}  {M : Mem} {Q : Int32 → Mem → Prop} (hw : w_X12_best_29 L p0 K29 v2 v3 v4 M Q) (hK29 : ∀ (v2 : Int32) (v3 : Int32) (v4 : Int32) (M : Mem), K29 v2 v3 v4 M → X (FM (QI L Q)) RX12 cX12_best (some .int) 6 "best" 10 0 0 (L, M) 29 [.ref 92, .int p0, .int v2, .int v3, .int v4, junk] []) : X (FM (QI L Q)) RX12 cX12_best (some .int) 6 "best" 10 0 0 (L, M) 29 [.ref 92, .int p0, .int v2, .int v3, .int v4, junk] [] := by
  unfold w_X12_best_29 at hw
  refine X_iload 31 dX12_best_29 rfl rfl ?_
  refine X_bipush 33 (v := 20) dX12_best_31 rfl rfl ?_
  refine X_icmp_gt 69 36 dX12_best_33 rfl rfl (fun c7 => ?_) (fun c7 => ?_)
  · have hw := hw.1 c7
    refine X_iload_n 70 dX12_best_69 rfl rfl ?_
    exact X_ret rfl rfl dX12_best_70 ⟨_, _, rfl, rfl, hw⟩
  · have hw := hw.2 c7
    refine X_aload_n 37 dX12_best_36 rfl rfl ?_
    refine X_iload 39 dX12_best_37 rfl rfl ?_
    refine X_iload_n 40 dX12_best_39 rfl rfl ?_
    refine X_imul 41 dX12_best_40 rfl ?_
    refine Y_cVI 44 (as := [.int ((v4 * p0))]) m_X12_467 (s_X12_triedWith hL  hw) (hL.ob (c := 12) (by decide) rfl) rfl (by decide) (Nat.le_of_ble_eq_true rfl) dX12_best_41 rfl rfl (fun x9 M8 hw => ?_)
    refine X_istore 46 (ls' := [.ref 92, .int p0, .int v2, .int v3, .int v4, .int x9]) dX12_best_44 rfl (Nat.le_of_ble_eq_true rfl) rfl (Or.inr (Or.inr ⟨_, rfl, rfl⟩)) ?_
    refine X_iload 48 dX12_best_46 rfl rfl ?_
    refine X_iload_n 49 dX12_best_48 rfl rfl ?_
    refine X_icmp_gt 55 52 dX12_best_49 rfl rfl (fun c10 => ?_) (fun c10 => ?_)
    · have hw := hw.1 c10
      refine X_iload 57 dX12_best_55 rfl rfl ?_
      refine X_istore_n 58 (ls' := [.ref 92, .int p0, .int v2, .int x9, .int v4, .int x9]) dX12_best_57 rfl rfl (Nat.le_of_ble_eq_true rfl) rfl (Or.inr (Or.inr ⟨_, rfl, rfl⟩)) ?_
      refine X_iload 60 dX12_best_58 rfl rfl ?_
      refine X_iload_n 61 dX12_best_60 rfl rfl ?_
      refine X_imul 62 dX12_best_61 rfl ?_
      refine X_nmI (fun x11 ex11 => ?_)
      have hw := hw x11 ex11
      refine X_istore_n 63 (ls' := [.ref 92, .int p0, .int x11, .int x9, .int v4, .int x9]) dX12_best_62 rfl rfl (Nat.le_of_ble_eq_true rfl) rfl (Or.inr (Or.inr ⟨_, rfl, rfl⟩)) ?_
      obtain ⟨x12, ex12⟩ : ∃ x12 : Int32, x12 = v4 + (1 : Int32) := ⟨_, rfl⟩
      have hw := hw x12 ex12
      refine X_iinc 66 (v := x12) (ls' := [.ref 92, .int p0, .int x11, .int x9, .int x12, .int x9]) dX12_best_63 rfl rfl (by rw [ex12]; rfl) rfl (Or.inr (Or.inr ⟨_, rfl, rfl⟩)) ?_
      refine X_goto 29 dX12_best_66 rfl ?_
      refine X_weak (ls' := [.ref 92, .int p0, .int x11, .int x9, .int x12, junk]) (WK.s (WK.s (WK.s (WK.s (WK.s (WK.j WK.n)))))) (Nat.le_of_ble_eq_true rfl) ?_
      exact hK29 x11 x9 x12 M8 hw
    · have hw := hw.2 c10
      refine X_goto 63 dX12_best_52 rfl ?_
      obtain ⟨x13, ex13⟩ : ∃ x13 : Int32, x13 = v4 + (1 : Int32) := ⟨_, rfl⟩
      have hw := hw x13 ex13
      refine X_iinc 66 (v := x13) (ls' := [.ref 92, .int p0, .int v2, .int v3, .int x13, .int x9]) dX12_best_63 rfl rfl (by rw [ex13]; rfl) rfl (Or.inr (Or.inr ⟨_, rfl, rfl⟩)) ?_
      refine X_goto 29 dX12_best_66 rfl ?_
      refine X_weak (ls' := [.ref 92, .int p0, .int v2, .int v3, .int x13, junk]) (WK.s (WK.s (WK.s (WK.s (WK.s (WK.j WK.n)))))) (Nat.le_of_ble_eq_true rfl) ?_
      exact hK29 v2 v3 x13 M8 hw
def w_X12_best (L : Lay) (p0 : Int32) (M : Mem) (Q : Int32 → Mem → Prop) : Prop := ∀ M1 : Mem, M1 = si M 92 0 (0 : Int32) → (w_X12_within L p0 (1 : Int32) (400 : Int32) M1 (fun x3 M2 => (((x3 = 0 → (Q (-1 : Int32) M2)) ∧ (¬ x3 = 0 → (w_X12_triedWith L (0 : Int32) M2 (fun x6 M5 => (LP4 (fun K29 v2 v3 v4 M => w_X12_best_29 L p0  K29 v2 v3 v4 M Q) (0 : Int32) x6 (1 : Int32) M5))))))))
set_option maxRecDepth 20000 in
theorem s_X12_best {L : Lay} (hL : LY L) {p0 : Int32}  {M : Mem} {Q : Int32 → Mem → Prop} (hw : w_X12_best L p0 M Q) : MX yX12_best cX12_best (some .int) 6 10 0 0 [.ref 92, .int p0] (L, M) (QI L Q) := by
  unfold w_X12_best at hw
  refine MX_of (by decide) [.ref 92, .int p0, junk, junk, junk, junk] (by rfl) (by exact Nat.le_of_ble_eq_true rfl) ?_
  show X (FM (QI L Q)) RX12 cX12_best (some .int) 6 "best" 10 0 0 (L, M) 0 [.ref 92, .int p0, junk, junk, junk, junk] []
  refine X_aload_n 1 dX12_best_0 rfl rfl ?_
  refine X_iconst 2 (v := 0) dX12_best_1 rfl rfl ?_
  refine X_putI 5 f_X12_206 (Or.inl rfl) (hL.ob (c := 12) (by decide) rfl) rfl dX12_best_2 rfl ?_
  refine X_nmM (fun M1 eM1 => ?_)
  have hw := hw M1 eM1
  refine X_iload_n 6 dX12_best_5 rfl rfl ?_
  refine X_iconst 7 (v := 1) dX12_best_6 rfl rfl ?_
  refine X_sipush 10 (v := 400) dX12_best_7 rfl rfl ?_
  refine Y_cSZ 13 (as := [.int p0, .int (1 : Int32), .int (400 : Int32)]) m_X12_213 (s_X12_within hL  hw) rfl (by decide) (Nat.le_of_ble_eq_true rfl) dX12_best_10 rfl rfl (fun x3 M2 bx3 hw => ?_)
  refine X_if_ne 18 16 (y := 0) dX12_best_13 rfl rfl (fun c4 => ?_) (fun c4 => ?_)
  · have hw := hw.2 c4
    refine X_iconst 19 (v := 0) dX12_best_18 rfl rfl ?_
    refine X_istore_n 20 (ls' := [.ref 92, .int p0, .int (0 : Int32), junk, junk, junk]) dX12_best_19 rfl rfl (Nat.le_of_ble_eq_true rfl) rfl (Or.inr (Or.inr ⟨_, rfl, rfl⟩)) ?_
    refine X_aload_n 21 dX12_best_20 rfl rfl ?_
    refine X_iconst 22 (v := 0) dX12_best_21 rfl rfl ?_
    refine Y_cVI 25 (as := [.int (0 : Int32)]) m_X12_467 (s_X12_triedWith hL  hw) (hL.ob (c := 12) (by decide) rfl) rfl (by decide) (Nat.le_of_ble_eq_true rfl) dX12_best_22 rfl rfl (fun x6 M5 hw => ?_)
    refine X_istore_n 26 (ls' := [.ref 92, .int p0, .int (0 : Int32), .int x6, junk, junk]) dX12_best_25 rfl rfl (Nat.le_of_ble_eq_true rfl) rfl (Or.inr (Or.inr ⟨_, rfl, rfl⟩)) ?_
    refine X_iconst 27 (v := 1) dX12_best_26 rfl rfl ?_
    refine X_istore 29 (ls' := [.ref 92, .int p0, .int (0 : Int32), .int x6, .int (1 : Int32), junk]) dX12_best_27 rfl (Nat.le_of_ble_eq_true rfl) rfl (Or.inr (Or.inr ⟨_, rfl, rfl⟩)) ?_
    exact LP4_s hw (G := fun v2 v3 v4 M => X (FM (QI L Q)) RX12 cX12_best (some .int) 6 "best" 10 0 0 (L, M) 29 [.ref 92, .int p0, .int v2, .int v3, .int v4, junk] []) (fun K29 v2 v3 v4 M hb hK => t_X12_best_29 hL  hb  hK)
  · have hw := hw.1 c4
    refine X_iconst 17 (v := -1) dX12_best_16 rfl rfl ?_
    exact X_ret rfl rfl dX12_best_17 ⟨_, _, rfl, rfl, hw⟩
def w_X12_foretold_26 (L : Lay) (p0 : Int32) (K26 : Int32 → Mem → Prop) (v2 : Int32) (M : Mem) (Q : Int32 → Mem → Prop) : Prop := (((mi M 93 1) < v2 → (Q (-1 : Int32) M)) ∧ (¬ (mi M 93 1) < v2 → (vp_in ((721 : Int32) + v2) 1442 ∧ ((((mi M 119 (tn ((721 : Int32) + v2))) = 0 → (∀ x9 : Int32, x9 = v2 + (1 : Int32) → (K26 x9 M))) ∧ (¬ (mi M 119 (tn ((721 : Int32) + v2))) = 0 → (Q v2 M)))))))
set_option maxRecDepth 20000 in
theorem t_X12_foretold_26 {L : Lay} (hL : LY L) {p0 : Int32}  {K26 : Int32 → Mem → Prop} {v2 : Int32}  {M : Mem} {Q : Int32 → Mem → Prop} (hw : w_X12_foretold_26 L p0 K26 v2 M Q) (hK26 : ∀ (v2 : Int32) (M : Mem), K26 v2 M → X (FM (QI L Q)) RX12 cX12_foretold (some .int) 3 "foretold" 9 0 0 (L, M) 26 [.ref 92, junk, .int v2] []) : X (FM (QI L Q)) RX12 cX12_foretold (some .int) 3 "foretold" 9 0 0 (L, M) 26 [.ref 92, junk, .int v2] [] := by
  unfold w_X12_foretold_26 at hw
  refine X_iload_n 27 dX12_foretold_26 rfl rfl ?_
  refine X_aload_n 28 dX12_foretold_27 rfl rfl ?_
  refine X_getR 31 f_X12_7 (hL.ob (c := 12) (by decide) rfl) rfl (hL.rr (by decide) rfl) dX12_foretold_28 rfl ?_
  refine X_iconst 32 (v := 1) dX12_foretold_31 rfl rfl ?_
  refine Y_iald 33 (k := 1) (hL.ar (t := 0) (n := 2) (by decide) rfl) (vlit (by decide)) (by decide) dX12_foretold_32 rfl ?_
  refine X_icmp_gt 57 36 dX12_foretold_33 rfl rfl (fun c6 => ?_) (fun c6 => ?_)
  · have hw := hw.1 c6
    refine X_iconst 58 (v := -1) dX12_foretold_57 rfl rfl ?_
    exact X_ret rfl rfl dX12_foretold_58 ⟨_, _, rfl, rfl, hw⟩
  · have hw := hw.2 c6
    refine X_aload_n 37 dX12_foretold_36 rfl rfl ?_
    refine X_getR 40 f_X12_89 (hL.ob (c := 12) (by decide) rfl) rfl (hL.rr (by decide) rfl) dX12_foretold_37 rfl ?_
    refine X_sipush 43 (v := 721) dX12_foretold_40 rfl rfl ?_
    refine X_iload_n 44 dX12_foretold_43 rfl rfl ?_
    refine X_iadd 45 dX12_foretold_44 rfl ?_
    obtain ⟨c7, hw⟩ := hw
    refine Y_zald 46 (k := (tn ((721 : Int32) + v2))) (hL.ar (t := 1) (n := 1442) (by decide) rfl) c7 rfl dX12_foretold_45 rfl ?_
    refine X_if_eq 51 49 (y := 0) dX12_foretold_46 rfl rfl (fun c8 => ?_) (fun c8 => ?_)
    · have hw := hw.1 c8
      obtain ⟨x9, ex9⟩ : ∃ x9 : Int32, x9 = v2 + (1 : Int32) := ⟨_, rfl⟩
      have hw := hw x9 ex9
      refine X_iinc 54 (v := x9) (ls' := [.ref 92, junk, .int x9]) dX12_foretold_51 rfl rfl (by rw [ex9]; rfl) rfl (Or.inr (Or.inl rfl)) ?_
      refine X_goto 26 dX12_foretold_54 rfl ?_
      exact hK26 x9 M hw
    · have hw := hw.2 c8
      refine X_iload_n 50 dX12_foretold_49 rfl rfl ?_
      exact X_ret rfl rfl dX12_foretold_50 ⟨_, _, rfl, rfl, hw⟩
def w_X12_foretold (L : Lay) (p0 : Int32) (M : Mem) (Q : Int32 → Mem → Prop) : Prop := ∀ M1 : Mem, M1 = si M 92 0 (0 : Int32) → (w_X12_breakers L  M1 (fun x3 M2 => (w_X12_tries L x3 (60 : Int32) p0 (-1 : Int32) M2 (fun M4 => (∀ x5 : Int32, x5 = ((mi M4 93 0) + (1 : Int32)) → (LP2 (fun K26 v2 M => w_X12_foretold_26 L p0  K26 v2 M Q) x5 M4))))))
set_option maxRecDepth 20000 in
theorem s_X12_foretold {L : Lay} (hL : LY L) {p0 : Int32}  {M : Mem} {Q : Int32 → Mem → Prop} (hw : w_X12_foretold L p0 M Q) : MX yX12_foretold cX12_foretold (some .int) 3 9 0 0 [.ref 92, .int p0] (L, M) (QI L Q) := by
  unfold w_X12_foretold at hw
  refine MX_of (by decide) [.ref 92, .int p0, junk] (by rfl) (by exact Nat.le_of_ble_eq_true rfl) ?_
  show X (FM (QI L Q)) RX12 cX12_foretold (some .int) 3 "foretold" 9 0 0 (L, M) 0 [.ref 92, .int p0, junk] []
  refine X_aload_n 1 dX12_foretold_0 rfl rfl ?_
  refine X_iconst 2 (v := 0) dX12_foretold_1 rfl rfl ?_
  refine X_putI 5 f_X12_206 (Or.inl rfl) (hL.ob (c := 12) (by decide) rfl) rfl dX12_foretold_2 rfl ?_
  refine X_nmM (fun M1 eM1 => ?_)
  have hw := hw M1 eM1
  refine X_aload_n 6 dX12_foretold_5 rfl rfl ?_
  refine X_aload_n 7 dX12_foretold_6 rfl rfl ?_
  refine Y_cVI 10 (as := []) m_X12_464 (s_X12_breakers hL  hw) (hL.ob (c := 12) (by decide) rfl) rfl (by decide) (Nat.le_of_ble_eq_true rfl) dX12_foretold_7 rfl rfl (fun x3 M2 hw => ?_)
  refine X_bipush 12 (v := 60) dX12_foretold_10 rfl rfl ?_
  refine X_iload_n 13 dX12_foretold_12 rfl rfl ?_
  refine X_iconst 14 (v := -1) dX12_foretold_13 rfl rfl ?_
  refine Y_cVV 17 (as := [.int x3, .int (60 : Int32), .int p0, .int (-1 : Int32)]) m_X12_457 (s_X12_tries hL  hw) (hL.ob (c := 12) (by decide) rfl) rfl (by decide) (Nat.le_of_ble_eq_true rfl) dX12_foretold_14 rfl rfl (fun M4 hw => ?_)
  refine X_aload_n 18 dX12_foretold_17 rfl rfl ?_
  refine X_getR 21 f_X12_7 (hL.ob (c := 12) (by decide) rfl) rfl (hL.rr (by decide) rfl) dX12_foretold_18 rfl ?_
  refine X_iconst 22 (v := 0) dX12_foretold_21 rfl rfl ?_
  refine Y_iald 23 (k := 0) (hL.ar (t := 0) (n := 2) (by decide) rfl) (vlit (by decide)) (by decide) dX12_foretold_22 rfl ?_
  refine X_iconst 24 (v := 1) dX12_foretold_23 rfl rfl ?_
  refine X_iadd 25 dX12_foretold_24 rfl ?_
  refine X_nmI (fun x5 ex5 => ?_)
  have hw := hw x5 ex5
  refine X_istore_n 26 (ls' := [.ref 92, .int p0, .int x5]) dX12_foretold_25 rfl rfl (Nat.le_of_ble_eq_true rfl) rfl (Or.inr (Or.inr ⟨_, rfl, rfl⟩)) ?_
  refine X_weak (ls' := [.ref 92, junk, .int x5]) (WK.s (WK.j (WK.s WK.n))) (Nat.le_of_ble_eq_true rfl) ?_
  exact LP2_s hw (G := fun v2 M => X (FM (QI L Q)) RX12 cX12_foretold (some .int) 3 "foretold" 9 0 0 (L, M) 26 [.ref 92, junk, .int v2] []) (fun K26 v2 M hb hK => t_X12_foretold_26 hL  hb  hK)
def w_X12_look (L : Lay) (p0 : Int32) (p1 : Int32) (M : Mem) (Q : Int32 → Mem → Prop) : Prop := ∀ M1 : Mem, M1 = si M 92 0 (0 : Int32) → (w_X12_isOwner L p0 M1 (fun x3 M2 => (((x3 = 0 → (∀ M5 : Mem, M5 = si M2 92 0 (1 : Int32) → (Q (0 : Int32) M5))) ∧ (¬ x3 = 0 → (w_X12_within L p1 (0 : Int32) (9 : Int32) M2 (fun x7 M6 => (((x7 = 0 → (∀ M31 : Mem, M31 = si M6 92 0 (1 : Int32) → (Q (0 : Int32) M31))) ∧ (¬ x7 = 0 → (((p1 = (0 : Int32) → (vp_in p0 20 ∧ (Q (mi M6 107 (tn p0)) M6))) ∧ (¬ p1 = (0 : Int32) → (((p1 = (1 : Int32) → (vp_in p0 20 ∧ (Q (mi M6 108 (tn p0)) M6))) ∧ (¬ p1 = (1 : Int32) → (((p1 = (2 : Int32) → ((((mi M6 99 0) < 0 → (Q (-1 : Int32) M6)) ∧ (¬ (mi M6 99 0) < 0 → (vp_in p0 20 ∧ (Q (jmax (0 : Int32) (mi M6 109 (tn p0))) M6)))))) ∧ (¬ p1 = (2 : Int32) → (((p1 = (3 : Int32) → (vp_in p0 20 ∧ (Q (mi M6 110 (tn p0)) M6))) ∧ (¬ p1 = (3 : Int32) → (((p1 = (4 : Int32) → (vp_in p0 20 ∧ (∀ x20 : Int32, x20 = (if (mi M6 111 (tn p0)) = 0 then (0 : Int32) else (1 : Int32)) → (Q x20 M6)))) ∧ (¬ p1 = (4 : Int32) → (((p1 = (5 : Int32) → (vp_in p0 10 ∧ (Q (mi M6 120 (tn p0)) M6))) ∧ (¬ p1 = (5 : Int32) → (((p1 = (6 : Int32) → (vp_in p0 10 ∧ (Q (mi M6 121 (tn p0)) M6))) ∧ (¬ p1 = (6 : Int32) → (((p1 = (7 : Int32) → (vp_in p0 10 ∧ (Q (mi M6 122 (tn p0)) M6))) ∧ (¬ p1 = (7 : Int32) → (((p1 = (8 : Int32) → (vp_in p0 10 ∧ (Q (mi M6 123 (tn p0)) M6))) ∧ (¬ p1 = (8 : Int32) → (vp_in p0 10 ∧ (Q (mi M6 124 (tn p0)) M6)))))))))))))))))))))))))))))))))))))))
set_option maxRecDepth 20000 in
theorem s_X12_look {L : Lay} (hL : LY L) {p0 : Int32} {p1 : Int32}  {M : Mem} {Q : Int32 → Mem → Prop} (hw : w_X12_look L p0 p1 M Q) : MX yX12_look cX12_look (some .int) 3 3 0 0 [.ref 92, .int p0, .int p1] (L, M) (QI L Q) := by
  unfold w_X12_look at hw
  refine MX_of (by decide) [.ref 92, .int p0, .int p1] (by rfl) (by exact Nat.le_of_ble_eq_true rfl) ?_
  show X (FM (QI L Q)) RX12 cX12_look (some .int) 3 "look" 3 0 0 (L, M) 0 [.ref 92, .int p0, .int p1] []
  refine X_aload_n 1 dX12_look_0 rfl rfl ?_
  refine X_iconst 2 (v := 0) dX12_look_1 rfl rfl ?_
  refine X_putI 5 f_X12_206 (Or.inl rfl) (hL.ob (c := 12) (by decide) rfl) rfl dX12_look_2 rfl ?_
  refine X_nmM (fun M1 eM1 => ?_)
  have hw := hw M1 eM1
  refine X_aload_n 6 dX12_look_5 rfl rfl ?_
  refine X_iload_n 7 dX12_look_6 rfl rfl ?_
  refine Y_cVZ 10 (as := [.int p0]) m_X12_217 (s_X12_isOwner hL  hw) (hL.ob (c := 12) (by decide) rfl) rfl (by decide) (Nat.le_of_ble_eq_true rfl) dX12_look_7 rfl rfl (fun x3 M2 bx3 hw => ?_)
  refine X_if_eq 23 13 (y := 0) dX12_look_10 rfl rfl (fun c4 => ?_) (fun c4 => ?_)
  · have hw := hw.1 c4
    refine X_aload_n 24 dX12_look_23 rfl rfl ?_
    refine X_iconst 25 (v := 1) dX12_look_24 rfl rfl ?_
    refine X_putI 28 f_X12_206 (Or.inl rfl) (hL.ob (c := 12) (by decide) rfl) rfl dX12_look_25 rfl ?_
    refine X_nmM (fun M5 eM5 => ?_)
    have hw := hw M5 eM5
    refine X_iconst 29 (v := 0) dX12_look_28 rfl rfl ?_
    exact X_ret rfl rfl dX12_look_29 ⟨_, _, rfl, rfl, hw⟩
  · have hw := hw.2 c4
    refine X_iload_n 14 dX12_look_13 rfl rfl ?_
    refine X_iconst 15 (v := 0) dX12_look_14 rfl rfl ?_
    refine X_bipush 17 (v := 9) dX12_look_15 rfl rfl ?_
    refine Y_cSZ 20 (as := [.int p1, .int (0 : Int32), .int (9 : Int32)]) m_X12_213 (s_X12_within hL  hw) rfl (by decide) (Nat.le_of_ble_eq_true rfl) dX12_look_17 rfl rfl (fun x7 M6 bx7 hw => ?_)
    refine X_if_ne 30 23 (y := 0) dX12_look_20 rfl rfl (fun c8 => ?_) (fun c8 => ?_)
    · have hw := hw.2 c8
      refine X_iload_n 31 dX12_look_30 rfl rfl ?_
      by_cases c9 : p1 = (0 : Int32)
      · have hw := hw.1 c9
        refine Y_tableIn 80 (k := 0) (off := 49) c9 dX12_look_31 (by decide) (by decide) rfl rfl ?_
        refine X_aload_n 81 dX12_look_80 rfl rfl ?_
        refine X_getR 84 f_X12_52 (hL.ob (c := 12) (by decide) rfl) rfl (hL.rr (by decide) rfl) dX12_look_81 rfl ?_
        refine X_iload_n 85 dX12_look_84 rfl rfl ?_
        obtain ⟨c10, hw⟩ := hw
        refine Y_iald 86 (k := (tn p0)) (hL.ar (t := 0) (n := 20) (by decide) rfl) c10 rfl dX12_look_85 rfl ?_
        exact X_ret rfl rfl dX12_look_86 ⟨_, _, rfl, rfl, hw⟩
      · have hw := hw.2 c9
        by_cases c11 : p1 = (1 : Int32)
        · have hw := hw.1 c11
          refine Y_tableIn 87 (k := 1) (off := 56) c11 dX12_look_31 (by decide) (by decide) rfl rfl ?_
          refine X_aload_n 88 dX12_look_87 rfl rfl ?_
          refine X_getR 91 f_X12_55 (hL.ob (c := 12) (by decide) rfl) rfl (hL.rr (by decide) rfl) dX12_look_88 rfl ?_
          refine X_iload_n 92 dX12_look_91 rfl rfl ?_
          obtain ⟨c12, hw⟩ := hw
          refine Y_iald 93 (k := (tn p0)) (hL.ar (t := 0) (n := 20) (by decide) rfl) c12 rfl dX12_look_92 rfl ?_
          exact X_ret rfl rfl dX12_look_93 ⟨_, _, rfl, rfl, hw⟩
        · have hw := hw.2 c11
          by_cases c13 : p1 = (2 : Int32)
          · have hw := hw.1 c13
            refine Y_tableIn 94 (k := 2) (off := 63) c13 dX12_look_31 (by decide) (by decide) rfl rfl ?_
            refine X_aload_n 95 dX12_look_94 rfl rfl ?_
            refine X_getR 98 f_X12_28 (hL.ob (c := 12) (by decide) rfl) rfl (hL.rr (by decide) rfl) dX12_look_95 rfl ?_
            refine X_iconst 99 (v := 0) dX12_look_98 rfl rfl ?_
            refine Y_iald 100 (k := 0) (hL.ar (t := 0) (n := 2) (by decide) rfl) (vlit (by decide)) (by decide) dX12_look_99 rfl ?_
            refine X_if_ge 107 103 (y := 0) dX12_look_100 rfl rfl (fun c14 => ?_) (fun c14 => ?_)
            · have hw := hw.2 c14
              refine X_iconst 108 (v := 0) dX12_look_107 rfl rfl ?_
              refine X_aload_n 109 dX12_look_108 rfl rfl ?_
              refine X_getR 112 f_X12_58 (hL.ob (c := 12) (by decide) rfl) rfl (hL.rr (by decide) rfl) dX12_look_109 rfl ?_
              refine X_iload_n 113 dX12_look_112 rfl rfl ?_
              obtain ⟨c15, hw⟩ := hw
              refine Y_iald 114 (k := (tn p0)) (hL.ar (t := 0) (n := 20) (by decide) rfl) c15 rfl dX12_look_113 rfl ?_
              refine Y_mmax 117 l_X12_228 (by decide) (Nat.le_of_ble_eq_true rfl) dX12_look_114 rfl ?_
              exact X_ret rfl rfl dX12_look_117 ⟨_, _, rfl, rfl, hw⟩
            · have hw := hw.1 c14
              refine X_iconst 104 (v := -1) dX12_look_103 rfl rfl ?_
              refine X_goto 117 dX12_look_104 rfl ?_
              exact X_ret rfl rfl dX12_look_117 ⟨_, _, rfl, rfl, hw⟩
          · have hw := hw.2 c13
            by_cases c16 : p1 = (3 : Int32)
            · have hw := hw.1 c16
              refine Y_tableIn 118 (k := 3) (off := 87) c16 dX12_look_31 (by decide) (by decide) rfl rfl ?_
              refine X_aload_n 119 dX12_look_118 rfl rfl ?_
              refine X_getR 122 f_X12_61 (hL.ob (c := 12) (by decide) rfl) rfl (hL.rr (by decide) rfl) dX12_look_119 rfl ?_
              refine X_iload_n 123 dX12_look_122 rfl rfl ?_
              obtain ⟨c17, hw⟩ := hw
              refine Y_iald 124 (k := (tn p0)) (hL.ar (t := 0) (n := 20) (by decide) rfl) c17 rfl dX12_look_123 rfl ?_
              exact X_ret rfl rfl dX12_look_124 ⟨_, _, rfl, rfl, hw⟩
            · have hw := hw.2 c16
              by_cases c18 : p1 = (4 : Int32)
              · have hw := hw.1 c18
                refine Y_tableIn 125 (k := 4) (off := 94) c18 dX12_look_31 (by decide) (by decide) rfl rfl ?_
                refine X_aload_n 126 dX12_look_125 rfl rfl ?_
                refine X_getR 129 f_X12_64 (hL.ob (c := 12) (by decide) rfl) rfl (hL.rr (by decide) rfl) dX12_look_126 rfl ?_
                refine X_iload_n 130 dX12_look_129 rfl rfl ?_
                obtain ⟨c19, hw⟩ := hw
                refine Y_zald 131 (k := (tn p0)) (hL.ar (t := 1) (n := 20) (by decide) rfl) c19 rfl dX12_look_130 rfl ?_
                obtain ⟨x20, ex20⟩ : ∃ x20 : Int32, x20 = (if (mi M6 111 (tn p0)) = 0 then (0 : Int32) else (1 : Int32)) := ⟨_, rfl⟩
                have hw := hw x20 ex20
                have bx20 : BZ x20 := by rw [ex20]; (repeat' split) <;> first | exact Or.inl rfl | exact Or.inr rfl
                have hJ : X (FM (QI L Q)) RX12 cX12_look (some .int) 3 "look" 3 0 0 (L, M6) 139 [.ref 92, .int p0, .int p1] [.int x20] := by
                  exact X_ret rfl rfl dX12_look_139 ⟨_, _, rfl, rfl, hw⟩
                refine X_if_eq 138 134 (y := 0) dX12_look_131 rfl rfl (fun c21 => ?_) (fun c21 => ?_)
                · refine X_iconst 139 (v := 0) dX12_look_138 rfl rfl ?_
                  rw [if_pos c21] at ex20
                  rw [ex20] at hJ
                  exact hJ
                · refine X_iconst 135 (v := 1) dX12_look_134 rfl rfl ?_
                  refine X_goto 139 dX12_look_135 rfl ?_
                  rw [if_neg c21] at ex20
                  rw [ex20] at hJ
                  exact hJ
              · have hw := hw.2 c18
                by_cases c22 : p1 = (5 : Int32)
                · have hw := hw.1 c22
                  refine Y_tableIn 140 (k := 5) (off := 109) c22 dX12_look_31 (by decide) (by decide) rfl rfl ?_
                  refine X_aload_n 141 dX12_look_140 rfl rfl ?_
                  refine X_getR 144 f_X12_92 (hL.ob (c := 12) (by decide) rfl) rfl (hL.rr (by decide) rfl) dX12_look_141 rfl ?_
                  refine X_iload_n 145 dX12_look_144 rfl rfl ?_
                  obtain ⟨c23, hw⟩ := hw
                  refine Y_iald 146 (k := (tn p0)) (hL.ar (t := 0) (n := 10) (by decide) rfl) c23 rfl dX12_look_145 rfl ?_
                  exact X_ret rfl rfl dX12_look_146 ⟨_, _, rfl, rfl, hw⟩
                · have hw := hw.2 c22
                  by_cases c24 : p1 = (6 : Int32)
                  · have hw := hw.1 c24
                    refine Y_tableIn 147 (k := 6) (off := 116) c24 dX12_look_31 (by decide) (by decide) rfl rfl ?_
                    refine X_aload_n 148 dX12_look_147 rfl rfl ?_
                    refine X_getR 151 f_X12_95 (hL.ob (c := 12) (by decide) rfl) rfl (hL.rr (by decide) rfl) dX12_look_148 rfl ?_
                    refine X_iload_n 152 dX12_look_151 rfl rfl ?_
                    obtain ⟨c25, hw⟩ := hw
                    refine Y_iald 153 (k := (tn p0)) (hL.ar (t := 0) (n := 10) (by decide) rfl) c25 rfl dX12_look_152 rfl ?_
                    exact X_ret rfl rfl dX12_look_153 ⟨_, _, rfl, rfl, hw⟩
                  · have hw := hw.2 c24
                    by_cases c26 : p1 = (7 : Int32)
                    · have hw := hw.1 c26
                      refine Y_tableIn 154 (k := 7) (off := 123) c26 dX12_look_31 (by decide) (by decide) rfl rfl ?_
                      refine X_aload_n 155 dX12_look_154 rfl rfl ?_
                      refine X_getR 158 f_X12_98 (hL.ob (c := 12) (by decide) rfl) rfl (hL.rr (by decide) rfl) dX12_look_155 rfl ?_
                      refine X_iload_n 159 dX12_look_158 rfl rfl ?_
                      obtain ⟨c27, hw⟩ := hw
                      refine Y_iald 160 (k := (tn p0)) (hL.ar (t := 0) (n := 10) (by decide) rfl) c27 rfl dX12_look_159 rfl ?_
                      exact X_ret rfl rfl dX12_look_160 ⟨_, _, rfl, rfl, hw⟩
                    · have hw := hw.2 c26
                      by_cases c28 : p1 = (8 : Int32)
                      · have hw := hw.1 c28
                        refine Y_tableIn 161 (k := 8) (off := 130) c28 dX12_look_31 (by decide) (by decide) rfl rfl ?_
                        refine X_aload_n 162 dX12_look_161 rfl rfl ?_
                        refine X_getR 165 f_X12_101 (hL.ob (c := 12) (by decide) rfl) rfl (hL.rr (by decide) rfl) dX12_look_162 rfl ?_
                        refine X_iload_n 166 dX12_look_165 rfl rfl ?_
                        obtain ⟨c29, hw⟩ := hw
                        refine Y_iald 167 (k := (tn p0)) (hL.ar (t := 0) (n := 10) (by decide) rfl) c29 rfl dX12_look_166 rfl ?_
                        exact X_ret rfl rfl dX12_look_167 ⟨_, _, rfl, rfl, hw⟩
                      · have hw := hw.2 c28
                        have hout : p1.toInt < 0 ∨ 8 < p1.toInt := by
                          have hc9 : ¬ p1.toInt = 0 := fun h => c9 (Int32.toInt_inj.mp (h.trans (by decide)))
                          have hc11 : ¬ p1.toInt = 1 := fun h => c11 (Int32.toInt_inj.mp (h.trans (by decide)))
                          have hc13 : ¬ p1.toInt = 2 := fun h => c13 (Int32.toInt_inj.mp (h.trans (by decide)))
                          have hc16 : ¬ p1.toInt = 3 := fun h => c16 (Int32.toInt_inj.mp (h.trans (by decide)))
                          have hc18 : ¬ p1.toInt = 4 := fun h => c18 (Int32.toInt_inj.mp (h.trans (by decide)))
                          have hc22 : ¬ p1.toInt = 5 := fun h => c22 (Int32.toInt_inj.mp (h.trans (by decide)))
                          have hc24 : ¬ p1.toInt = 6 := fun h => c24 (Int32.toInt_inj.mp (h.trans (by decide)))
                          have hc26 : ¬ p1.toInt = 7 := fun h => c26 (Int32.toInt_inj.mp (h.trans (by decide)))
                          have hc28 : ¬ p1.toInt = 8 := fun h => c28 (Int32.toInt_inj.mp (h.trans (by decide)))
                          omega
                        refine X_tableOut 168 dX12_look_31 hout rfl ?_
                        refine X_aload_n 169 dX12_look_168 rfl rfl ?_
                        refine X_getR 172 f_X12_104 (hL.ob (c := 12) (by decide) rfl) rfl (hL.rr (by decide) rfl) dX12_look_169 rfl ?_
                        refine X_iload_n 173 dX12_look_172 rfl rfl ?_
                        obtain ⟨c30, hw⟩ := hw
                        refine Y_iald 174 (k := (tn p0)) (hL.ar (t := 0) (n := 10) (by decide) rfl) c30 rfl dX12_look_173 rfl ?_
                        exact X_ret rfl rfl dX12_look_174 ⟨_, _, rfl, rfl, hw⟩
    · have hw := hw.1 c8
      refine X_aload_n 24 dX12_look_23 rfl rfl ?_
      refine X_iconst 25 (v := 1) dX12_look_24 rfl rfl ?_
      refine X_putI 28 f_X12_206 (Or.inl rfl) (hL.ob (c := 12) (by decide) rfl) rfl dX12_look_25 rfl ?_
      refine X_nmM (fun M31 eM31 => ?_)
      have hw := hw M31 eM31
      refine X_iconst 29 (v := 0) dX12_look_28 rfl rfl ?_
      exact X_ret rfl rfl dX12_look_29 ⟨_, _, rfl, rfl, hw⟩
def w_X12_month (L : Lay) (p0 : Int32) (p1 : Int32) (p2 : Int32) (M : Mem) (Q : Int32 → Mem → Prop) : Prop := ∀ M1 : Mem, M1 = si M 92 0 (0 : Int32) → (w_X12_isOver L p0 p1 M1 (fun x3 M2 => (((x3 = 0 → (Q (-1 : Int32) M2)) ∧ (¬ x3 = 0 → (w_X12_within L p2 (0 : Int32) (1 : Int32) M2 (fun x6 M5 => (((x6 = 0 → (Q (-1 : Int32) M5)) ∧ (¬ x6 = 0 → (((p2 = 0 → (vp_in (((10 : Int32) * p1) + p0) 480 ∧ (Q (mi M5 117 (tn (((10 : Int32) * p1) + p0))) M5))) ∧ (¬ p2 = 0 → (vp_in p1 24 ∧ ((((mi M5 128 (tn p1)) < 0 → (Q (-1 : Int32) M5)) ∧ (¬ (mi M5 128 (tn p1)) < 0 → (vp_in (((10 : Int32) * p1) + p0) 480 ∧ (Q (jmax (0 : Int32) (mi M5 118 (tn (((10 : Int32) * p1) + p0)))) M5)))))))))))))))))))
set_option maxRecDepth 20000 in
theorem s_X12_month {L : Lay} (hL : LY L) {p0 : Int32} {p1 : Int32} {p2 : Int32}  {M : Mem} {Q : Int32 → Mem → Prop} (hw : w_X12_month L p0 p1 p2 M Q) : MX yX12_month cX12_month (some .int) 4 4 0 0 [.ref 92, .int p0, .int p1, .int p2] (L, M) (QI L Q) := by
  unfold w_X12_month at hw
  refine MX_of (by decide) [.ref 92, .int p0, .int p1, .int p2] (by rfl) (by exact Nat.le_of_ble_eq_true rfl) ?_
  show X (FM (QI L Q)) RX12 cX12_month (some .int) 4 "month" 4 0 0 (L, M) 0 [.ref 92, .int p0, .int p1, .int p2] []
  refine X_aload_n 1 dX12_month_0 rfl rfl ?_
  refine X_iconst 2 (v := 0) dX12_month_1 rfl rfl ?_
  refine X_putI 5 f_X12_206 (Or.inl rfl) (hL.ob (c := 12) (by decide) rfl) rfl dX12_month_2 rfl ?_
  refine X_nmM (fun M1 eM1 => ?_)
  have hw := hw M1 eM1
  refine X_aload_n 6 dX12_month_5 rfl rfl ?_
  refine X_iload_n 7 dX12_month_6 rfl rfl ?_
  refine X_iload_n 8 dX12_month_7 rfl rfl ?_
  refine Y_cVZ 11 (as := [.int p0, .int p1]) m_X12_430 (s_X12_isOver hL  hw) (hL.ob (c := 12) (by decide) rfl) rfl (by decide) (Nat.le_of_ble_eq_true rfl) dX12_month_8 rfl rfl (fun x3 M2 bx3 hw => ?_)
  refine X_if_eq 23 14 (y := 0) dX12_month_11 rfl rfl (fun c4 => ?_) (fun c4 => ?_)
  · have hw := hw.1 c4
    refine X_iconst 24 (v := -1) dX12_month_23 rfl rfl ?_
    exact X_ret rfl rfl dX12_month_24 ⟨_, _, rfl, rfl, hw⟩
  · have hw := hw.2 c4
    refine X_iload_n 15 dX12_month_14 rfl rfl ?_
    refine X_iconst 16 (v := 0) dX12_month_15 rfl rfl ?_
    refine X_iconst 17 (v := 1) dX12_month_16 rfl rfl ?_
    refine Y_cSZ 20 (as := [.int p2, .int (0 : Int32), .int (1 : Int32)]) m_X12_213 (s_X12_within hL  hw) rfl (by decide) (Nat.le_of_ble_eq_true rfl) dX12_month_17 rfl rfl (fun x6 M5 bx6 hw => ?_)
    refine X_if_ne 25 23 (y := 0) dX12_month_20 rfl rfl (fun c7 => ?_) (fun c7 => ?_)
    · have hw := hw.2 c7
      refine X_iload_n 26 dX12_month_25 rfl rfl ?_
      refine X_if_ne 43 29 (y := 0) dX12_month_26 rfl rfl (fun c8 => ?_) (fun c8 => ?_)
      · have hw := hw.2 c8
        refine X_aload_n 44 dX12_month_43 rfl rfl ?_
        refine X_getR 47 f_X12_116 (hL.ob (c := 12) (by decide) rfl) rfl (hL.rr (by decide) rfl) dX12_month_44 rfl ?_
        refine X_iload_n 48 dX12_month_47 rfl rfl ?_
        obtain ⟨c9, hw⟩ := hw
        refine Y_iald 49 (k := (tn p1)) (hL.ar (t := 0) (n := 24) (by decide) rfl) c9 rfl dX12_month_48 rfl ?_
        refine X_if_ge 56 52 (y := 0) dX12_month_49 rfl rfl (fun c10 => ?_) (fun c10 => ?_)
        · have hw := hw.2 c10
          refine X_iconst 57 (v := 0) dX12_month_56 rfl rfl ?_
          refine X_aload_n 58 dX12_month_57 rfl rfl ?_
          refine X_getR 61 f_X12_86 (hL.ob (c := 12) (by decide) rfl) rfl (hL.rr (by decide) rfl) dX12_month_58 rfl ?_
          refine X_bipush 63 (v := 10) dX12_month_61 rfl rfl ?_
          refine X_iload_n 64 dX12_month_63 rfl rfl ?_
          refine X_imul 65 dX12_month_64 rfl ?_
          refine X_iload_n 66 dX12_month_65 rfl rfl ?_
          refine X_iadd 67 dX12_month_66 rfl ?_
          obtain ⟨c11, hw⟩ := hw
          refine Y_iald 68 (k := (tn (((10 : Int32) * p1) + p0))) (hL.ar (t := 0) (n := 480) (by decide) rfl) c11 rfl dX12_month_67 rfl ?_
          refine Y_mmax 71 l_X12_228 (by decide) (Nat.le_of_ble_eq_true rfl) dX12_month_68 rfl ?_
          exact X_ret rfl rfl dX12_month_71 ⟨_, _, rfl, rfl, hw⟩
        · have hw := hw.1 c10
          refine X_iconst 53 (v := -1) dX12_month_52 rfl rfl ?_
          refine X_goto 71 dX12_month_53 rfl ?_
          exact X_ret rfl rfl dX12_month_71 ⟨_, _, rfl, rfl, hw⟩
      · have hw := hw.1 c8
        refine X_aload_n 30 dX12_month_29 rfl rfl ?_
        refine X_getR 33 f_X12_83 (hL.ob (c := 12) (by decide) rfl) rfl (hL.rr (by decide) rfl) dX12_month_30 rfl ?_
        refine X_bipush 35 (v := 10) dX12_month_33 rfl rfl ?_
        refine X_iload_n 36 dX12_month_35 rfl rfl ?_
        refine X_imul 37 dX12_month_36 rfl ?_
        refine X_iload_n 38 dX12_month_37 rfl rfl ?_
        refine X_iadd 39 dX12_month_38 rfl ?_
        obtain ⟨c12, hw⟩ := hw
        refine Y_iald 40 (k := (tn (((10 : Int32) * p1) + p0))) (hL.ar (t := 0) (n := 480) (by decide) rfl) c12 rfl dX12_month_39 rfl ?_
        refine X_goto 71 dX12_month_40 rfl ?_
        exact X_ret rfl rfl dX12_month_71 ⟨_, _, rfl, rfl, hw⟩
    · have hw := hw.1 c7
      refine X_iconst 24 (v := -1) dX12_month_23 rfl rfl ?_
      exact X_ret rfl rfl dX12_month_24 ⟨_, _, rfl, rfl, hw⟩
def w_X12_lies (L : Lay) (p0 : Int32) (p1 : Int32) (M : Mem) (Q : Int32 → Mem → Prop) : Prop := ∀ M1 : Mem, M1 = si M 92 0 (0 : Int32) → (w_X12_within L p0 (0 : Int32) ((mi M1 92 34) - (1 : Int32)) M1 (fun x3 M2 => (((x3 = 0 → (Q (-1 : Int32) M2)) ∧ (¬ x3 = 0 → (w_X12_within L p1 (0 : Int32) (3 : Int32) M2 (fun x6 M5 => (((x6 = 0 → (Q (-1 : Int32) M5)) ∧ (¬ x6 = 0 → (((p1 = 0 → (vp_in p0 16 ∧ (Q (mi M5 112 (tn p0)) M5))) ∧ (¬ p1 = 0 → (((p1 = (1 : Int32) → (vp_in p0 16 ∧ (Q (mi M5 113 (tn p0)) M5))) ∧ (¬ p1 = (1 : Int32) → (((p1 = (2 : Int32) → (vp_in p0 16 ∧ (((((mi M5 112 (tn p0)) &&& (1 : Int32)) = (1 : Int32) → (Q (mi M5 114 (tn p0)) M5)) ∧ (¬ ((mi M5 112 (tn p0)) &&& (1 : Int32)) = (1 : Int32) → (Q (0 : Int32) M5)))))) ∧ (¬ p1 = (2 : Int32) → (vp_in p0 16 ∧ (Q (mi M5 115 (tn p0)) M5)))))))))))))))))))))
set_option maxRecDepth 20000 in
theorem s_X12_lies {L : Lay} (hL : LY L) {p0 : Int32} {p1 : Int32}  {M : Mem} {Q : Int32 → Mem → Prop} (hw : w_X12_lies L p0 p1 M Q) : MX yX12_lies cX12_lies (some .int) 3 2 0 0 [.ref 92, .int p0, .int p1] (L, M) (QI L Q) := by
  unfold w_X12_lies at hw
  refine MX_of (by decide) [.ref 92, .int p0, .int p1] (by rfl) (by exact Nat.le_of_ble_eq_true rfl) ?_
  show X (FM (QI L Q)) RX12 cX12_lies (some .int) 3 "lies" 2 0 0 (L, M) 0 [.ref 92, .int p0, .int p1] []
  refine X_aload_n 1 dX12_lies_0 rfl rfl ?_
  refine X_iconst 2 (v := 0) dX12_lies_1 rfl rfl ?_
  refine X_putI 5 f_X12_206 (Or.inl rfl) (hL.ob (c := 12) (by decide) rfl) rfl dX12_lies_2 rfl ?_
  refine X_nmM (fun M1 eM1 => ?_)
  have hw := hw M1 eM1
  refine X_iload_n 6 dX12_lies_5 rfl rfl ?_
  refine X_iconst 7 (v := 0) dX12_lies_6 rfl rfl ?_
  refine X_aload_n 8 dX12_lies_7 rfl rfl ?_
  refine X_getI 11 f_X12_221 (hL.ob (c := 12) (by decide) rfl) rfl dX12_lies_8 rfl ?_
  refine X_iconst 12 (v := 1) dX12_lies_11 rfl rfl ?_
  refine X_isub 13 dX12_lies_12 rfl ?_
  refine Y_cSZ 16 (as := [.int p0, .int (0 : Int32), .int (((mi M1 92 34) - (1 : Int32)))]) m_X12_213 (s_X12_within hL  hw) rfl (by decide) (Nat.le_of_ble_eq_true rfl) dX12_lies_13 rfl rfl (fun x3 M2 bx3 hw => ?_)
  refine X_if_eq 28 19 (y := 0) dX12_lies_16 rfl rfl (fun c4 => ?_) (fun c4 => ?_)
  · have hw := hw.1 c4
    refine X_iconst 29 (v := -1) dX12_lies_28 rfl rfl ?_
    exact X_ret rfl rfl dX12_lies_29 ⟨_, _, rfl, rfl, hw⟩
  · have hw := hw.2 c4
    refine X_iload_n 20 dX12_lies_19 rfl rfl ?_
    refine X_iconst 21 (v := 0) dX12_lies_20 rfl rfl ?_
    refine X_iconst 22 (v := 3) dX12_lies_21 rfl rfl ?_
    refine Y_cSZ 25 (as := [.int p1, .int (0 : Int32), .int (3 : Int32)]) m_X12_213 (s_X12_within hL  hw) rfl (by decide) (Nat.le_of_ble_eq_true rfl) dX12_lies_22 rfl rfl (fun x6 M5 bx6 hw => ?_)
    refine X_if_ne 30 28 (y := 0) dX12_lies_25 rfl rfl (fun c7 => ?_) (fun c7 => ?_)
    · have hw := hw.2 c7
      refine X_iload_n 31 dX12_lies_30 rfl rfl ?_
      refine X_if_ne 43 34 (y := 0) dX12_lies_31 rfl rfl (fun c8 => ?_) (fun c8 => ?_)
      · have hw := hw.2 c8
        refine X_iload_n 44 dX12_lies_43 rfl rfl ?_
        refine X_iconst 45 (v := 1) dX12_lies_44 rfl rfl ?_
        refine X_icmp_ne 57 48 dX12_lies_45 rfl rfl (fun c9 => ?_) (fun c9 => ?_)
        · have hw := hw.2 c9
          refine X_iload_n 58 dX12_lies_57 rfl rfl ?_
          refine X_iconst 59 (v := 2) dX12_lies_58 rfl rfl ?_
          refine X_icmp_ne 87 62 dX12_lies_59 rfl rfl (fun c10 => ?_) (fun c10 => ?_)
          · have hw := hw.2 c10
            refine X_aload_n 88 dX12_lies_87 rfl rfl ?_
            refine X_getR 91 f_X12_77 (hL.ob (c := 12) (by decide) rfl) rfl (hL.rr (by decide) rfl) dX12_lies_88 rfl ?_
            refine X_iload_n 92 dX12_lies_91 rfl rfl ?_
            obtain ⟨c11, hw⟩ := hw
            refine Y_iald 93 (k := (tn p0)) (hL.ar (t := 0) (n := 16) (by decide) rfl) c11 rfl dX12_lies_92 rfl ?_
            exact X_ret rfl rfl dX12_lies_93 ⟨_, _, rfl, rfl, hw⟩
          · have hw := hw.1 c10
            refine X_aload_n 63 dX12_lies_62 rfl rfl ?_
            refine X_getR 66 f_X12_68 (hL.ob (c := 12) (by decide) rfl) rfl (hL.rr (by decide) rfl) dX12_lies_63 rfl ?_
            refine X_iload_n 67 dX12_lies_66 rfl rfl ?_
            obtain ⟨c12, hw⟩ := hw
            refine Y_iald 68 (k := (tn p0)) (hL.ar (t := 0) (n := 16) (by decide) rfl) c12 rfl dX12_lies_67 rfl ?_
            refine X_iconst 69 (v := 1) dX12_lies_68 rfl rfl ?_
            refine X_iand 70 dX12_lies_69 rfl ?_
            refine X_iconst 71 (v := 1) dX12_lies_70 rfl rfl ?_
            refine X_icmp_ne 83 74 dX12_lies_71 rfl rfl (fun c13 => ?_) (fun c13 => ?_)
            · have hw := hw.2 c13
              refine X_iconst 84 (v := 0) dX12_lies_83 rfl rfl ?_
              refine X_goto 93 dX12_lies_84 rfl ?_
              exact X_ret rfl rfl dX12_lies_93 ⟨_, _, rfl, rfl, hw⟩
            · have hw := hw.1 c13
              refine X_aload_n 75 dX12_lies_74 rfl rfl ?_
              refine X_getR 78 f_X12_74 (hL.ob (c := 12) (by decide) rfl) rfl (hL.rr (by decide) rfl) dX12_lies_75 rfl ?_
              refine X_iload_n 79 dX12_lies_78 rfl rfl ?_
              refine Y_iald 80 (k := (tn p0)) (hL.ar (t := 0) (n := 16) (by decide) rfl) c12 rfl dX12_lies_79 rfl ?_
              refine X_goto 93 dX12_lies_80 rfl ?_
              exact X_ret rfl rfl dX12_lies_93 ⟨_, _, rfl, rfl, hw⟩
        · have hw := hw.1 c9
          refine X_aload_n 49 dX12_lies_48 rfl rfl ?_
          refine X_getR 52 f_X12_71 (hL.ob (c := 12) (by decide) rfl) rfl (hL.rr (by decide) rfl) dX12_lies_49 rfl ?_
          refine X_iload_n 53 dX12_lies_52 rfl rfl ?_
          obtain ⟨c14, hw⟩ := hw
          refine Y_iald 54 (k := (tn p0)) (hL.ar (t := 0) (n := 16) (by decide) rfl) c14 rfl dX12_lies_53 rfl ?_
          refine X_goto 93 dX12_lies_54 rfl ?_
          exact X_ret rfl rfl dX12_lies_93 ⟨_, _, rfl, rfl, hw⟩
      · have hw := hw.1 c8
        refine X_aload_n 35 dX12_lies_34 rfl rfl ?_
        refine X_getR 38 f_X12_68 (hL.ob (c := 12) (by decide) rfl) rfl (hL.rr (by decide) rfl) dX12_lies_35 rfl ?_
        refine X_iload_n 39 dX12_lies_38 rfl rfl ?_
        obtain ⟨c15, hw⟩ := hw
        refine Y_iald 40 (k := (tn p0)) (hL.ar (t := 0) (n := 16) (by decide) rfl) c15 rfl dX12_lies_39 rfl ?_
        refine X_goto 93 dX12_lies_40 rfl ?_
        exact X_ret rfl rfl dX12_lies_93 ⟨_, _, rfl, rfl, hw⟩
    · have hw := hw.1 c7
      refine X_iconst 29 (v := -1) dX12_lies_28 rfl rfl ?_
      exact X_ret rfl rfl dX12_lies_29 ⟨_, _, rfl, rfl, hw⟩
def w_X12_load (L : Lay) (p0 : Int32) (p1 : Int32) (M : Mem) (Q : Int32 → Mem → Prop) : Prop := ∀ M1 : Mem, M1 = si M 92 0 (0 : Int32) → (w_X12_within L p0 (0 : Int32) ((mi M1 92 34) - (1 : Int32)) M1 (fun x3 M2 => (((x3 = 0 → (Q (-1 : Int32) M2)) ∧ (¬ x3 = 0 → (vp_in p0 16 ∧ (w_X12_within L p1 (0 : Int32) ((mi M2 113 (tn p0)) - (1 : Int32)) M2 (fun x7 M6 => (((x7 = 0 → (Q (-1 : Int32) M6)) ∧ (¬ x7 = 0 → (vp_in (((12 : Int32) * p0) + p1) 192 ∧ (Q (mi M6 116 (tn (((12 : Int32) * p0) + p1))) M6)))))))))))))
set_option maxRecDepth 20000 in
theorem s_X12_load {L : Lay} (hL : LY L) {p0 : Int32} {p1 : Int32}  {M : Mem} {Q : Int32 → Mem → Prop} (hw : w_X12_load L p0 p1 M Q) : MX yX12_load cX12_load (some .int) 3 2 0 0 [.ref 92, .int p0, .int p1] (L, M) (QI L Q) := by
  unfold w_X12_load at hw
  refine MX_of (by decide) [.ref 92, .int p0, .int p1] (by rfl) (by exact Nat.le_of_ble_eq_true rfl) ?_
  show X (FM (QI L Q)) RX12 cX12_load (some .int) 3 "load" 2 0 0 (L, M) 0 [.ref 92, .int p0, .int p1] []
  refine X_aload_n 1 dX12_load_0 rfl rfl ?_
  refine X_iconst 2 (v := 0) dX12_load_1 rfl rfl ?_
  refine X_putI 5 f_X12_206 (Or.inl rfl) (hL.ob (c := 12) (by decide) rfl) rfl dX12_load_2 rfl ?_
  refine X_nmM (fun M1 eM1 => ?_)
  have hw := hw M1 eM1
  refine X_iload_n 6 dX12_load_5 rfl rfl ?_
  refine X_iconst 7 (v := 0) dX12_load_6 rfl rfl ?_
  refine X_aload_n 8 dX12_load_7 rfl rfl ?_
  refine X_getI 11 f_X12_221 (hL.ob (c := 12) (by decide) rfl) rfl dX12_load_8 rfl ?_
  refine X_iconst 12 (v := 1) dX12_load_11 rfl rfl ?_
  refine X_isub 13 dX12_load_12 rfl ?_
  refine Y_cSZ 16 (as := [.int p0, .int (0 : Int32), .int (((mi M1 92 34) - (1 : Int32)))]) m_X12_213 (s_X12_within hL  hw) rfl (by decide) (Nat.le_of_ble_eq_true rfl) dX12_load_13 rfl rfl (fun x3 M2 bx3 hw => ?_)
  refine X_if_eq 49 19 (y := 0) dX12_load_16 rfl rfl (fun c4 => ?_) (fun c4 => ?_)
  · have hw := hw.1 c4
    refine X_iconst 50 (v := -1) dX12_load_49 rfl rfl ?_
    exact X_ret rfl rfl dX12_load_50 ⟨_, _, rfl, rfl, hw⟩
  · have hw := hw.2 c4
    refine X_iload_n 20 dX12_load_19 rfl rfl ?_
    refine X_iconst 21 (v := 0) dX12_load_20 rfl rfl ?_
    refine X_aload_n 22 dX12_load_21 rfl rfl ?_
    refine X_getR 25 f_X12_71 (hL.ob (c := 12) (by decide) rfl) rfl (hL.rr (by decide) rfl) dX12_load_22 rfl ?_
    refine X_iload_n 26 dX12_load_25 rfl rfl ?_
    obtain ⟨c5, hw⟩ := hw
    refine Y_iald 27 (k := (tn p0)) (hL.ar (t := 0) (n := 16) (by decide) rfl) c5 rfl dX12_load_26 rfl ?_
    refine X_iconst 28 (v := 1) dX12_load_27 rfl rfl ?_
    refine X_isub 29 dX12_load_28 rfl ?_
    refine Y_cSZ 32 (as := [.int p1, .int (0 : Int32), .int (((mi M2 113 (tn p0)) - (1 : Int32)))]) m_X12_213 (s_X12_within hL  hw) rfl (by decide) (Nat.le_of_ble_eq_true rfl) dX12_load_29 rfl rfl (fun x7 M6 bx7 hw => ?_)
    refine X_if_eq 49 35 (y := 0) dX12_load_32 rfl rfl (fun c8 => ?_) (fun c8 => ?_)
    · have hw := hw.1 c8
      refine X_iconst 50 (v := -1) dX12_load_49 rfl rfl ?_
      exact X_ret rfl rfl dX12_load_50 ⟨_, _, rfl, rfl, hw⟩
    · have hw := hw.2 c8
      refine X_aload_n 36 dX12_load_35 rfl rfl ?_
      refine X_getR 39 f_X12_80 (hL.ob (c := 12) (by decide) rfl) rfl (hL.rr (by decide) rfl) dX12_load_36 rfl ?_
      refine X_bipush 41 (v := 12) dX12_load_39 rfl rfl ?_
      refine X_iload_n 42 dX12_load_41 rfl rfl ?_
      refine X_imul 43 dX12_load_42 rfl ?_
      refine X_iload_n 44 dX12_load_43 rfl rfl ?_
      refine X_iadd 45 dX12_load_44 rfl ?_
      obtain ⟨c9, hw⟩ := hw
      refine Y_iald 46 (k := (tn (((12 : Int32) * p0) + p1))) (hL.ar (t := 0) (n := 192) (by decide) rfl) c9 rfl dX12_load_45 rfl ?_
      refine X_goto 50 dX12_load_46 rfl ?_
      exact X_ret rfl rfl dX12_load_50 ⟨_, _, rfl, rfl, hw⟩
def w_X12_count_187 (L : Lay) (p0 : Int32) (K187 : Int32 → Int32 → Mem → Prop) (v2 : Int32) (v3 : Int32) (M : Mem) (Q : Int32 → Mem → Prop) : Prop := ((v3 < (mi M 92 28) → (vp_in v3 20 ∧ ((((mi M 111 (tn v3)) = 0 → (∀ x28 : Int32, x28 = v3 + (1 : Int32) → (K187 v2 x28 M))) ∧ (¬ (mi M 111 (tn v3)) = 0 → (∀ x29 : Int32, x29 = v2 + (1 : Int32) → (∀ x30 : Int32, x30 = v3 + (1 : Int32) → (K187 x29 x30 M)))))))) ∧ (¬ v3 < (mi M 92 28) → (Q v2 M)))
set_option maxRecDepth 20000 in
theorem t_X12_count_187 {L : Lay} (hL : LY L) {p0 : Int32}  {K187 : Int32 → Int32 → Mem → Prop} {v2 : Int32} {v3 : Int32}  {M : Mem} {Q : Int32 → Mem → Prop} (hw : w_X12_count_187 L p0 K187 v2 v3 M Q) (hK187 : ∀ (v2 : Int32) (v3 : Int32) (M : Mem), K187 v2 v3 M → X (FM (QI L Q)) RX12 cX12_count (some .int) 4 "count" 3 0 0 (L, M) 187 [.ref 92, junk, .int v2, .int v3] []) : X (FM (QI L Q)) RX12 cX12_count (some .int) 4 "count" 3 0 0 (L, M) 187 [.ref 92, junk, .int v2, .int v3] [] := by
  unfold w_X12_count_187 at hw
  refine X_iload_n 188 dX12_count_187 rfl rfl ?_
  refine X_aload_n 189 dX12_count_188 rfl rfl ?_
  refine X_getI 192 f_X12_210 (hL.ob (c := 12) (by decide) rfl) rfl dX12_count_189 rfl ?_
  refine X_icmp_ge 213 195 dX12_count_192 rfl rfl (fun c25 => ?_) (fun c25 => ?_)
  · have hw := hw.2 c25
    refine X_iload_n 214 dX12_count_213 rfl rfl ?_
    exact X_ret rfl rfl dX12_count_214 ⟨_, _, rfl, rfl, hw⟩
  · have hw := hw.1 c25
    refine X_aload_n 196 dX12_count_195 rfl rfl ?_
    refine X_getR 199 f_X12_64 (hL.ob (c := 12) (by decide) rfl) rfl (hL.rr (by decide) rfl) dX12_count_196 rfl ?_
    refine X_iload_n 200 dX12_count_199 rfl rfl ?_
    obtain ⟨c26, hw⟩ := hw
    refine Y_zald 201 (k := (tn v3)) (hL.ar (t := 1) (n := 20) (by decide) rfl) c26 rfl dX12_count_200 rfl ?_
    refine X_if_eq 207 204 (y := 0) dX12_count_201 rfl rfl (fun c27 => ?_) (fun c27 => ?_)
    · have hw := hw.1 c27
      obtain ⟨x28, ex28⟩ : ∃ x28 : Int32, x28 = v3 + (1 : Int32) := ⟨_, rfl⟩
      have hw := hw x28 ex28
      refine X_iinc 210 (v := x28) (ls' := [.ref 92, junk, .int v2, .int x28]) dX12_count_207 rfl rfl (by rw [ex28]; rfl) rfl (Or.inr (Or.inr ⟨_, rfl, rfl⟩)) ?_
      refine X_goto 187 dX12_count_210 rfl ?_
      exact hK187 v2 x28 M hw
    · have hw := hw.2 c27
      obtain ⟨x29, ex29⟩ : ∃ x29 : Int32, x29 = v2 + (1 : Int32) := ⟨_, rfl⟩
      have hw := hw x29 ex29
      refine X_iinc 207 (v := x29) (ls' := [.ref 92, junk, .int x29, .int v3]) dX12_count_204 rfl rfl (by rw [ex29]; rfl) rfl (Or.inr (Or.inl rfl)) ?_
      obtain ⟨x30, ex30⟩ : ∃ x30 : Int32, x30 = v3 + (1 : Int32) := ⟨_, rfl⟩
      have hw := hw x30 ex30
      refine X_iinc 210 (v := x30) (ls' := [.ref 92, junk, .int x29, .int x30]) dX12_count_207 rfl rfl (by rw [ex30]; rfl) rfl (Or.inr (Or.inr ⟨_, rfl, rfl⟩)) ?_
      refine X_goto 187 dX12_count_210 rfl ?_
      exact hK187 x29 x30 M hw
def w_X12_count (L : Lay) (p0 : Int32) (M : Mem) (Q : Int32 → Mem → Prop) : Prop := ∀ M1 : Mem, M1 = si M 92 0 (0 : Int32) → (((p0 = (0 : Int32) → (Q (mi M1 93 0) M1)) ∧ (¬ p0 = (0 : Int32) → (((p0 = (1 : Int32) → (Q (mi M1 92 28) M1)) ∧ (¬ p0 = (1 : Int32) → (((p0 = (2 : Int32) → (Q (mi M1 92 34) M1)) ∧ (¬ p0 = (2 : Int32) → (((p0 = (3 : Int32) → (Q (mi M1 94 0) M1)) ∧ (¬ p0 = (3 : Int32) → (((p0 = (4 : Int32) → (Q (mi M1 96 0) M1)) ∧ (¬ p0 = (4 : Int32) → (((p0 = (5 : Int32) → (∀ x8 : Int32, x8 = (if (mi M1 99 0) < 0 then (0 : Int32) else (1 : Int32)) → (Q x8 M1))) ∧ (¬ p0 = (5 : Int32) → (((p0 = (6 : Int32) → (∀ x11 : Int32, x11 = (if (mi M1 99 0) < 0 then (-1 : Int32) else (mi M1 100 0)) → (Q x11 M1))) ∧ (¬ p0 = (6 : Int32) → (((p0 = (7 : Int32) → (Q (mi M1 92 73) M1)) ∧ (¬ p0 = (7 : Int32) → (((p0 = (8 : Int32) → (Q (mi M1 92 80) M1)) ∧ (¬ p0 = (8 : Int32) → (((p0 = (9 : Int32) → (w_X12_bads L  M1 (fun x17 M16 => (Q x17 M16)))) ∧ (¬ p0 = (9 : Int32) → (((p0 = (10 : Int32) → (Q (mi M1 106 0) M1)) ∧ (¬ p0 = (10 : Int32) → (((p0 = (11 : Int32) → (Q (mi M1 95 0) M1)) ∧ (¬ p0 = (11 : Int32) → (((p0 = (12 : Int32) → (LP3 (fun K187 v2 v3 M => w_X12_count_187 L p0  K187 v2 v3 M Q) (0 : Int32) (0 : Int32) M1)) ∧ (¬ p0 = (12 : Int32) → (((p0 = (13 : Int32) → (Q (mi M1 92 42) M1)) ∧ (¬ p0 = (13 : Int32) → (((p0 = (14 : Int32) → (Q (mi M1 92 37) M1)) ∧ (¬ p0 = (14 : Int32) → (((p0 = (15 : Int32) → (Q (mi M1 105 0) M1)) ∧ (¬ p0 = (15 : Int32) → (((p0 = (16 : Int32) → (Q (mi M1 101 0) M1)) ∧ (¬ p0 = (16 : Int32) → (Q (-1 : Int32) M1))))))))))))))))))))))))))))))))))))))))))))))))))))
set_option maxRecDepth 20000 in
theorem s_X12_count {L : Lay} (hL : LY L) {p0 : Int32}  {M : Mem} {Q : Int32 → Mem → Prop} (hw : w_X12_count L p0 M Q) : MX yX12_count cX12_count (some .int) 4 3 0 0 [.ref 92, .int p0] (L, M) (QI L Q) := by
  unfold w_X12_count at hw
  refine MX_of (by decide) [.ref 92, .int p0, junk, junk] (by rfl) (by exact Nat.le_of_ble_eq_true rfl) ?_
  show X (FM (QI L Q)) RX12 cX12_count (some .int) 4 "count" 3 0 0 (L, M) 0 [.ref 92, .int p0, junk, junk] []
  refine X_aload_n 1 dX12_count_0 rfl rfl ?_
  refine X_iconst 2 (v := 0) dX12_count_1 rfl rfl ?_
  refine X_putI 5 f_X12_206 (Or.inl rfl) (hL.ob (c := 12) (by decide) rfl) rfl dX12_count_2 rfl ?_
  refine X_nmM (fun M1 eM1 => ?_)
  have hw := hw M1 eM1
  refine X_iload_n 6 dX12_count_5 rfl rfl ?_
  by_cases c2 : p0 = (0 : Int32)
  · have hw := hw.1 c2
    refine Y_tableIn 88 (k := 0) (off := 82) c2 dX12_count_6 (by decide) (by decide) rfl rfl ?_
    refine X_aload_n 89 dX12_count_88 rfl rfl ?_
    refine X_getR 92 f_X12_7 (hL.ob (c := 12) (by decide) rfl) rfl (hL.rr (by decide) rfl) dX12_count_89 rfl ?_
    refine X_iconst 93 (v := 0) dX12_count_92 rfl rfl ?_
    refine Y_iald 94 (k := 0) (hL.ar (t := 0) (n := 2) (by decide) rfl) (vlit (by decide)) (by decide) dX12_count_93 rfl ?_
    exact X_ret rfl rfl dX12_count_94 ⟨_, _, rfl, rfl, hw⟩
  · have hw := hw.2 c2
    by_cases c3 : p0 = (1 : Int32)
    · have hw := hw.1 c3
      refine Y_tableIn 95 (k := 1) (off := 89) c3 dX12_count_6 (by decide) (by decide) rfl rfl ?_
      refine X_aload_n 96 dX12_count_95 rfl rfl ?_
      refine X_getI 99 f_X12_210 (hL.ob (c := 12) (by decide) rfl) rfl dX12_count_96 rfl ?_
      exact X_ret rfl rfl dX12_count_99 ⟨_, _, rfl, rfl, hw⟩
    · have hw := hw.2 c3
      by_cases c4 : p0 = (2 : Int32)
      · have hw := hw.1 c4
        refine Y_tableIn 100 (k := 2) (off := 94) c4 dX12_count_6 (by decide) (by decide) rfl rfl ?_
        refine X_aload_n 101 dX12_count_100 rfl rfl ?_
        refine X_getI 104 f_X12_221 (hL.ob (c := 12) (by decide) rfl) rfl dX12_count_101 rfl ?_
        exact X_ret rfl rfl dX12_count_104 ⟨_, _, rfl, rfl, hw⟩
      · have hw := hw.2 c4
        by_cases c5 : p0 = (3 : Int32)
        · have hw := hw.1 c5
          refine Y_tableIn 105 (k := 3) (off := 99) c5 dX12_count_6 (by decide) (by decide) rfl rfl ?_
          refine X_aload_n 106 dX12_count_105 rfl rfl ?_
          refine X_getR 109 f_X12_13 (hL.ob (c := 12) (by decide) rfl) rfl (hL.rr (by decide) rfl) dX12_count_106 rfl ?_
          refine X_iconst 110 (v := 0) dX12_count_109 rfl rfl ?_
          refine Y_iald 111 (k := 0) (hL.ar (t := 0) (n := 2) (by decide) rfl) (vlit (by decide)) (by decide) dX12_count_110 rfl ?_
          exact X_ret rfl rfl dX12_count_111 ⟨_, _, rfl, rfl, hw⟩
        · have hw := hw.2 c5
          by_cases c6 : p0 = (4 : Int32)
          · have hw := hw.1 c6
            refine Y_tableIn 112 (k := 4) (off := 106) c6 dX12_count_6 (by decide) (by decide) rfl rfl ?_
            refine X_aload_n 113 dX12_count_112 rfl rfl ?_
            refine X_getR 116 f_X12_19 (hL.ob (c := 12) (by decide) rfl) rfl (hL.rr (by decide) rfl) dX12_count_113 rfl ?_
            refine X_iconst 117 (v := 0) dX12_count_116 rfl rfl ?_
            refine Y_iald 118 (k := 0) (hL.ar (t := 0) (n := 2) (by decide) rfl) (vlit (by decide)) (by decide) dX12_count_117 rfl ?_
            exact X_ret rfl rfl dX12_count_118 ⟨_, _, rfl, rfl, hw⟩
          · have hw := hw.2 c6
            by_cases c7 : p0 = (5 : Int32)
            · have hw := hw.1 c7
              refine Y_tableIn 119 (k := 5) (off := 113) c7 dX12_count_6 (by decide) (by decide) rfl rfl ?_
              refine X_aload_n 120 dX12_count_119 rfl rfl ?_
              refine X_getR 123 f_X12_28 (hL.ob (c := 12) (by decide) rfl) rfl (hL.rr (by decide) rfl) dX12_count_120 rfl ?_
              refine X_iconst 124 (v := 0) dX12_count_123 rfl rfl ?_
              refine Y_iald 125 (k := 0) (hL.ar (t := 0) (n := 2) (by decide) rfl) (vlit (by decide)) (by decide) dX12_count_124 rfl ?_
              obtain ⟨x8, ex8⟩ : ∃ x8 : Int32, x8 = (if (mi M1 99 0) < 0 then (0 : Int32) else (1 : Int32)) := ⟨_, rfl⟩
              have hw := hw x8 ex8
              have bx8 : BZ x8 := by rw [ex8]; (repeat' split) <;> first | exact Or.inl rfl | exact Or.inr rfl
              have hJ : X (FM (QI L Q)) RX12 cX12_count (some .int) 4 "count" 3 0 0 (L, M1) 133 [.ref 92, .int p0, junk, junk] [.int x8] := by
                exact X_ret rfl rfl dX12_count_133 ⟨_, _, rfl, rfl, hw⟩
              refine X_if_ge 132 128 (y := 0) dX12_count_125 rfl rfl (fun c9 => ?_) (fun c9 => ?_)
              · refine X_iconst 133 (v := 1) dX12_count_132 rfl rfl ?_
                rw [if_neg c9] at ex8
                rw [ex8] at hJ
                exact hJ
              · refine X_iconst 129 (v := 0) dX12_count_128 rfl rfl ?_
                refine X_goto 133 dX12_count_129 rfl ?_
                rw [if_pos c9] at ex8
                rw [ex8] at hJ
                exact hJ
            · have hw := hw.2 c7
              by_cases c10 : p0 = (6 : Int32)
              · have hw := hw.1 c10
                refine Y_tableIn 134 (k := 6) (off := 128) c10 dX12_count_6 (by decide) (by decide) rfl rfl ?_
                refine X_aload_n 135 dX12_count_134 rfl rfl ?_
                refine X_getR 138 f_X12_28 (hL.ob (c := 12) (by decide) rfl) rfl (hL.rr (by decide) rfl) dX12_count_135 rfl ?_
                refine X_iconst 139 (v := 0) dX12_count_138 rfl rfl ?_
                refine Y_iald 140 (k := 0) (hL.ar (t := 0) (n := 2) (by decide) rfl) (vlit (by decide)) (by decide) dX12_count_139 rfl ?_
                obtain ⟨x11, ex11⟩ : ∃ x11 : Int32, x11 = (if (mi M1 99 0) < 0 then (-1 : Int32) else (mi M1 100 0)) := ⟨_, rfl⟩
                have hw := hw x11 ex11
                have hJ : X (FM (QI L Q)) RX12 cX12_count (some .int) 4 "count" 3 0 0 (L, M1) 153 [.ref 92, .int p0, junk, junk] [.int x11] := by
                  exact X_ret rfl rfl dX12_count_153 ⟨_, _, rfl, rfl, hw⟩
                refine X_if_ge 147 143 (y := 0) dX12_count_140 rfl rfl (fun c12 => ?_) (fun c12 => ?_)
                · refine X_aload_n 148 dX12_count_147 rfl rfl ?_
                  refine X_getR 151 f_X12_31 (hL.ob (c := 12) (by decide) rfl) rfl (hL.rr (by decide) rfl) dX12_count_148 rfl ?_
                  refine X_iconst 152 (v := 0) dX12_count_151 rfl rfl ?_
                  refine Y_iald 153 (k := 0) (hL.ar (t := 0) (n := 2) (by decide) rfl) (vlit (by decide)) (by decide) dX12_count_152 rfl ?_
                  rw [if_neg c12] at ex11
                  rw [ex11] at hJ
                  exact hJ
                · refine X_iconst 144 (v := -1) dX12_count_143 rfl rfl ?_
                  refine X_goto 153 dX12_count_144 rfl ?_
                  rw [if_pos c12] at ex11
                  rw [ex11] at hJ
                  exact hJ
              · have hw := hw.2 c10
                by_cases c13 : p0 = (7 : Int32)
                · have hw := hw.1 c13
                  refine Y_tableIn 154 (k := 7) (off := 148) c13 dX12_count_6 (by decide) (by decide) rfl rfl ?_
                  refine X_aload_n 155 dX12_count_154 rfl rfl ?_
                  refine X_getI 158 f_X12_433 (hL.ob (c := 12) (by decide) rfl) rfl dX12_count_155 rfl ?_
                  exact X_ret rfl rfl dX12_count_158 ⟨_, _, rfl, rfl, hw⟩
                · have hw := hw.2 c13
                  by_cases c14 : p0 = (8 : Int32)
                  · have hw := hw.1 c14
                    refine Y_tableIn 159 (k := 8) (off := 153) c14 dX12_count_6 (by decide) (by decide) rfl rfl ?_
                    refine X_aload_n 160 dX12_count_159 rfl rfl ?_
                    refine X_getI 163 f_X12_445 (hL.ob (c := 12) (by decide) rfl) rfl dX12_count_160 rfl ?_
                    exact X_ret rfl rfl dX12_count_163 ⟨_, _, rfl, rfl, hw⟩
                  · have hw := hw.2 c14
                    by_cases c15 : p0 = (9 : Int32)
                    · have hw := hw.1 c15
                      refine Y_tableIn 164 (k := 9) (off := 158) c15 dX12_count_6 (by decide) (by decide) rfl rfl ?_
                      refine X_aload_n 165 dX12_count_164 rfl rfl ?_
                      refine Y_cVI 168 (as := []) m_X12_451 (s_X12_bads hL  hw) (hL.ob (c := 12) (by decide) rfl) rfl (by decide) (Nat.le_of_ble_eq_true rfl) dX12_count_165 rfl rfl (fun x17 M16 hw => ?_)
                      exact X_ret rfl rfl dX12_count_168 ⟨_, _, rfl, rfl, hw⟩
                    · have hw := hw.2 c15
                      by_cases c18 : p0 = (10 : Int32)
                      · have hw := hw.1 c18
                        refine Y_tableIn 169 (k := 10) (off := 163) c18 dX12_count_6 (by decide) (by decide) rfl rfl ?_
                        refine X_aload_n 170 dX12_count_169 rfl rfl ?_
                        refine X_getR 173 f_X12_49 (hL.ob (c := 12) (by decide) rfl) rfl (hL.rr (by decide) rfl) dX12_count_170 rfl ?_
                        refine X_iconst 174 (v := 0) dX12_count_173 rfl rfl ?_
                        refine Y_iald 175 (k := 0) (hL.ar (t := 0) (n := 2) (by decide) rfl) (vlit (by decide)) (by decide) dX12_count_174 rfl ?_
                        exact X_ret rfl rfl dX12_count_175 ⟨_, _, rfl, rfl, hw⟩
                      · have hw := hw.2 c18
                        by_cases c19 : p0 = (11 : Int32)
                        · have hw := hw.1 c19
                          refine Y_tableIn 176 (k := 11) (off := 170) c19 dX12_count_6 (by decide) (by decide) rfl rfl ?_
                          refine X_aload_n 177 dX12_count_176 rfl rfl ?_
                          refine X_getR 180 f_X12_16 (hL.ob (c := 12) (by decide) rfl) rfl (hL.rr (by decide) rfl) dX12_count_177 rfl ?_
                          refine X_iconst 181 (v := 0) dX12_count_180 rfl rfl ?_
                          refine Y_iald 182 (k := 0) (hL.ar (t := 0) (n := 2) (by decide) rfl) (vlit (by decide)) (by decide) dX12_count_181 rfl ?_
                          exact X_ret rfl rfl dX12_count_182 ⟨_, _, rfl, rfl, hw⟩
                        · have hw := hw.2 c19
                          by_cases c20 : p0 = (12 : Int32)
                          · have hw := hw.1 c20
                            refine Y_tableIn 183 (k := 12) (off := 177) c20 dX12_count_6 (by decide) (by decide) rfl rfl ?_
                            refine X_iconst 184 (v := 0) dX12_count_183 rfl rfl ?_
                            refine X_istore_n 185 (ls' := [.ref 92, .int p0, .int (0 : Int32), junk]) dX12_count_184 rfl rfl (Nat.le_of_ble_eq_true rfl) rfl (Or.inr (Or.inr ⟨_, rfl, rfl⟩)) ?_
                            refine X_iconst 186 (v := 0) dX12_count_185 rfl rfl ?_
                            refine X_istore_n 187 (ls' := [.ref 92, .int p0, .int (0 : Int32), .int (0 : Int32)]) dX12_count_186 rfl rfl (Nat.le_of_ble_eq_true rfl) rfl (Or.inr (Or.inr ⟨_, rfl, rfl⟩)) ?_
                            refine X_weak (ls' := [.ref 92, junk, .int (0 : Int32), .int (0 : Int32)]) (WK.s (WK.j (WK.s (WK.s WK.n)))) (Nat.le_of_ble_eq_true rfl) ?_
                            exact LP3_s hw (G := fun v2 v3 M => X (FM (QI L Q)) RX12 cX12_count (some .int) 4 "count" 3 0 0 (L, M) 187 [.ref 92, junk, .int v2, .int v3] []) (fun K187 v2 v3 M hb hK => t_X12_count_187 hL  hb  hK)
                          · have hw := hw.2 c20
                            by_cases c21 : p0 = (13 : Int32)
                            · have hw := hw.1 c21
                              refine Y_tableIn 215 (k := 13) (off := 209) c21 dX12_count_6 (by decide) (by decide) rfl rfl ?_
                              refine X_aload_n 216 dX12_count_215 rfl rfl ?_
                              refine X_getI 219 f_X12_239 (hL.ob (c := 12) (by decide) rfl) rfl dX12_count_216 rfl ?_
                              exact X_ret rfl rfl dX12_count_219 ⟨_, _, rfl, rfl, hw⟩
                            · have hw := hw.2 c21
                              by_cases c22 : p0 = (14 : Int32)
                              · have hw := hw.1 c22
                                refine Y_tableIn 220 (k := 14) (off := 214) c22 dX12_count_6 (by decide) (by decide) rfl rfl ?_
                                refine X_aload_n 221 dX12_count_220 rfl rfl ?_
                                refine X_getI 224 f_X12_224 (hL.ob (c := 12) (by decide) rfl) rfl dX12_count_221 rfl ?_
                                exact X_ret rfl rfl dX12_count_224 ⟨_, _, rfl, rfl, hw⟩
                              · have hw := hw.2 c22
                                by_cases c23 : p0 = (15 : Int32)
                                · have hw := hw.1 c23
                                  refine Y_tableIn 225 (k := 15) (off := 219) c23 dX12_count_6 (by decide) (by decide) rfl rfl ?_
                                  refine X_aload_n 226 dX12_count_225 rfl rfl ?_
                                  refine X_getR 229 f_X12_46 (hL.ob (c := 12) (by decide) rfl) rfl (hL.rr (by decide) rfl) dX12_count_226 rfl ?_
                                  refine X_iconst 230 (v := 0) dX12_count_229 rfl rfl ?_
                                  refine Y_iald 231 (k := 0) (hL.ar (t := 0) (n := 2) (by decide) rfl) (vlit (by decide)) (by decide) dX12_count_230 rfl ?_
                                  exact X_ret rfl rfl dX12_count_231 ⟨_, _, rfl, rfl, hw⟩
                                · have hw := hw.2 c23
                                  by_cases c24 : p0 = (16 : Int32)
                                  · have hw := hw.1 c24
                                    refine Y_tableIn 232 (k := 16) (off := 226) c24 dX12_count_6 (by decide) (by decide) rfl rfl ?_
                                    refine X_aload_n 233 dX12_count_232 rfl rfl ?_
                                    refine X_getR 236 f_X12_34 (hL.ob (c := 12) (by decide) rfl) rfl (hL.rr (by decide) rfl) dX12_count_233 rfl ?_
                                    refine X_iconst 237 (v := 0) dX12_count_236 rfl rfl ?_
                                    refine Y_iald 238 (k := 0) (hL.ar (t := 0) (n := 2) (by decide) rfl) (vlit (by decide)) (by decide) dX12_count_237 rfl ?_
                                    exact X_ret rfl rfl dX12_count_238 ⟨_, _, rfl, rfl, hw⟩
                                  · have hw := hw.2 c24
                                    have hout : p0.toInt < 0 ∨ 16 < p0.toInt := by
                                      have hc2 : ¬ p0.toInt = 0 := fun h => c2 (Int32.toInt_inj.mp (h.trans (by decide)))
                                      have hc3 : ¬ p0.toInt = 1 := fun h => c3 (Int32.toInt_inj.mp (h.trans (by decide)))
                                      have hc4 : ¬ p0.toInt = 2 := fun h => c4 (Int32.toInt_inj.mp (h.trans (by decide)))
                                      have hc5 : ¬ p0.toInt = 3 := fun h => c5 (Int32.toInt_inj.mp (h.trans (by decide)))
                                      have hc6 : ¬ p0.toInt = 4 := fun h => c6 (Int32.toInt_inj.mp (h.trans (by decide)))
                                      have hc7 : ¬ p0.toInt = 5 := fun h => c7 (Int32.toInt_inj.mp (h.trans (by decide)))
                                      have hc10 : ¬ p0.toInt = 6 := fun h => c10 (Int32.toInt_inj.mp (h.trans (by decide)))
                                      have hc13 : ¬ p0.toInt = 7 := fun h => c13 (Int32.toInt_inj.mp (h.trans (by decide)))
                                      have hc14 : ¬ p0.toInt = 8 := fun h => c14 (Int32.toInt_inj.mp (h.trans (by decide)))
                                      have hc15 : ¬ p0.toInt = 9 := fun h => c15 (Int32.toInt_inj.mp (h.trans (by decide)))
                                      have hc18 : ¬ p0.toInt = 10 := fun h => c18 (Int32.toInt_inj.mp (h.trans (by decide)))
                                      have hc19 : ¬ p0.toInt = 11 := fun h => c19 (Int32.toInt_inj.mp (h.trans (by decide)))
                                      have hc20 : ¬ p0.toInt = 12 := fun h => c20 (Int32.toInt_inj.mp (h.trans (by decide)))
                                      have hc21 : ¬ p0.toInt = 13 := fun h => c21 (Int32.toInt_inj.mp (h.trans (by decide)))
                                      have hc22 : ¬ p0.toInt = 14 := fun h => c22 (Int32.toInt_inj.mp (h.trans (by decide)))
                                      have hc23 : ¬ p0.toInt = 15 := fun h => c23 (Int32.toInt_inj.mp (h.trans (by decide)))
                                      have hc24 : ¬ p0.toInt = 16 := fun h => c24 (Int32.toInt_inj.mp (h.trans (by decide)))
                                      omega
                                    refine X_tableOut 239 dX12_count_6 hout rfl ?_
                                    refine X_iconst 240 (v := -1) dX12_count_239 rfl rfl ?_
                                    exact X_ret rfl rfl dX12_count_240 ⟨_, _, rfl, rfl, hw⟩
