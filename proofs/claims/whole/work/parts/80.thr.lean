-- LEVEL 3, part 63: whatIf, tried and look where they may not be called: the class throws
section THR
variable {L : Lay} {M : Mem}
theorem mx_whatIf (hL : LY L) {t : Nat} {X9 : WS} {p0 p1 p2 : Int32} (h : RX L M t X9) (v : ¬ vWi X9 p0 p1 p2) : MXX yX11_whatIf cX11_whatIf (some .int) 4 7 1 6 [.ref 0, .int p0, .int p1, .int p2] (L, M) := by
  obtain ⟨⟨n1, -, n3⟩, -⟩ := RX_n h
  have T : ∀ M' : Mem, M' = M → X (FT (L, M)) RX11 cX11_whatIf (some .int) 4 "whatIf" 7 1 6 (L, M') 26 [] [] := fun M' e => by
    subst e
    exact X_throwT (q := 32) rfl (Or.inl ⟨rfl, rfl⟩) dX11_whatIf_26 dX11_whatIf_29 (Or.inl ⟨dX11_whatIf_30, rfl⟩) dX11_whatIf_32 dX11_whatIf_35 (by decide) (Nat.le_refl _) (Nat.le_refl _) rfl
  refine MXX_of (by decide) [.ref 0, .int p0, .int p1, .int p2] (by rfl) (by exact Nat.le_of_ble_eq_true rfl) ?_
  show X (FT (L, M)) RX11 cX11_whatIf (some .int) 4 "whatIf" 7 1 6 (L, M) 0 [.ref 0, .int p0, .int p1, .int p2] []
  refine X_aload_n 1 dX11_whatIf_0 rfl rfl ?_
  refine X_iload_n 2 dX11_whatIf_1 rfl rfl ?_
  have w1 : w_X11_isSet L p0 M (fun x M1 => (x = 0 → M1 = M) ∧ (¬ x = 0 → M1 = M ∧ isS (tn (X9.1 28 0)) p0)) := c_isSB n1 n3 (fun _ => rfl) (fun q => ⟨rfl, q⟩)
  refine Y_cVZ 5 (as := [.int p0]) m_X11_222 (s_X11_isSet hL w1) (hL.ob (c := 11) (by decide) rfl) rfl (by decide) (Nat.le_of_ble_eq_true rfl) dX11_whatIf_2 rfl rfl (fun x2 M1 bx2 hw => ?_)
  refine X_if_eq 26 8 (y := 0) dX11_whatIf_5 rfl rfl (fun c3 => ?_) (fun c3 => ?_)
  · exact X_weak (ls' := []) WK.n (Nat.le_of_ble_eq_true rfl) (T M1 (hw.1 c3))
  obtain ⟨rfl, q1⟩ := hw.2 c3
  refine X_aload_n 9 dX11_whatIf_8 rfl rfl ?_
  refine X_iload_n 10 dX11_whatIf_9 rfl rfl ?_
  have w2 : w_X11_isOwner L p1 M1 (fun x M2 => (x = 0 → M2 = M1) ∧ (¬ x = 0 → M2 = M1 ∧ isN (tn (X9.1 28 0)) p1)) := c_ownB n1 n3 (fun _ => rfl) (fun q => ⟨rfl, q⟩)
  refine Y_cVZ 13 (as := [.int p1]) m_X11_81 (s_X11_isOwner hL w2) (hL.ob (c := 11) (by decide) rfl) rfl (by decide) (Nat.le_of_ble_eq_true rfl) dX11_whatIf_10 rfl rfl (fun x5 M4 bx5 hw => ?_)
  refine X_if_eq 26 16 (y := 0) dX11_whatIf_13 rfl rfl (fun c6 => ?_) (fun c6 => ?_)
  · exact X_weak (ls' := []) WK.n (Nat.le_of_ble_eq_true rfl) (T M4 (hw.1 c6))
  obtain ⟨rfl, q2⟩ := hw.2 c6
  refine X_iload_n 17 dX11_whatIf_16 rfl rfl ?_
  refine X_iconst 18 (v := 0) dX11_whatIf_17 rfl rfl ?_
  refine X_bipush 20 (v := 60) dX11_whatIf_18 rfl rfl ?_
  have w3 : w_X11_isWithin L p2 0 60 M4 (fun x M2 => (x = 0 → M2 = M4) ∧ (¬ x = 0 → M2 = M4 ∧ wi p2 0 60)) := c_wiB (fun _ => rfl) (fun q => ⟨rfl, q⟩)
  refine Y_cSZ 23 (as := [.int p2, .int (0 : Int32), .int (60 : Int32)]) m_X11_55 (s_X11_isWithin hL w3) rfl (by decide) (Nat.le_of_ble_eq_true rfl) dX11_whatIf_20 rfl rfl (fun x8 M7 bx8 hw => ?_)
  refine X_if_ne 36 26 (y := 0) dX11_whatIf_23 rfl rfl (fun c9 => ?_) (fun c9 => ?_)
  · exact absurd ⟨q1, q2, (hw.2 c9).2⟩ v
  · exact X_weak (ls' := []) WK.n (Nat.le_of_ble_eq_true rfl) (T M7 (hw.1 c9))
theorem mx_tried (hL : LY L) {p0 : Int32} (v : ¬ wi p0 0 9999) : MXX yX11_tried cX11_tried (some .int) 2 7 1 6 [.ref 0, .int p0] (L, M) := by
  have T : ∀ M' : Mem, M' = M → X (FT (L, M)) RX11 cX11_tried (some .int) 2 "tried" 7 1 6 (L, M') 11 [] [] := fun M' e => by
    subst e
    exact X_throwT (q := 17) rfl (Or.inr (Or.inl ⟨rfl, rfl⟩)) dX11_tried_11 dX11_tried_14 (Or.inl ⟨dX11_tried_15, rfl⟩) dX11_tried_17 dX11_tried_20 (by decide) (Nat.le_refl _) (Nat.le_refl _) rfl
  refine MXX_of (by decide) [.ref 0, .int p0] (by rfl) (by exact Nat.le_of_ble_eq_true rfl) ?_
  show X (FT (L, M)) RX11 cX11_tried (some .int) 2 "tried" 7 1 6 (L, M) 0 [.ref 0, .int p0] []
  refine X_iload_n 1 dX11_tried_0 rfl rfl ?_
  refine X_iconst 2 (v := 0) dX11_tried_1 rfl rfl ?_
  refine X_sipush 5 (v := 9999) dX11_tried_2 rfl rfl ?_
  have w3 : w_X11_isWithin L p0 0 9999 M (fun x M2 => (x = 0 → M2 = M) ∧ (¬ x = 0 → M2 = M ∧ wi p0 0 9999)) := c_wiB (fun _ => rfl) (fun q => ⟨rfl, q⟩)
  refine Y_cSZ 8 (as := [.int p0, .int (0 : Int32), .int (9999 : Int32)]) m_X11_55 (s_X11_isWithin hL w3) rfl (by decide) (Nat.le_of_ble_eq_true rfl) dX11_tried_5 rfl rfl (fun x2 M1 bx2 hw => ?_)
  refine X_if_ne 21 11 (y := 0) dX11_tried_8 rfl rfl (fun c3 => ?_) (fun c3 => ?_)
  · exact absurd (hw.2 c3).2 v
  · exact X_weak (ls' := []) WK.n (Nat.le_of_ble_eq_true rfl) (T M1 (hw.1 c3))
theorem mx_look (hL : LY L) {t : Nat} {X9 : WS} {p0 p1 : Int32} (h : RX L M t X9) (v : ¬ vLk X9 p0 p1) : MXX yX11_look cX11_look (some .int) 4 7 1 6 [.ref 0, .int p0, .int p1] (L, M) := by
  obtain ⟨⟨n1, -, n3⟩, -⟩ := RX_n h
  have T : ∀ M' : Mem, M' = M → X (FT (L, M)) RX11 cX11_look (some .int) 4 "look" 7 1 6 (L, M') 18 [] [] := fun M' e => by
    subst e
    exact X_throwT (q := 25) rfl (Or.inr (Or.inr ⟨rfl, rfl⟩)) dX11_look_18 dX11_look_21 (Or.inr ⟨dX11_look_22, rfl⟩) dX11_look_25 dX11_look_28 (by decide) (Nat.le_refl _) (Nat.le_refl _) rfl
  refine MXX_of (by decide) [.ref 0, .int p0, .int p1, junk] (by rfl) (by exact Nat.le_of_ble_eq_true rfl) ?_
  show X (FT (L, M)) RX11 cX11_look (some .int) 4 "look" 7 1 6 (L, M) 0 [.ref 0, .int p0, .int p1, junk] []
  refine X_aload_n 1 dX11_look_0 rfl rfl ?_
  refine X_iload_n 2 dX11_look_1 rfl rfl ?_
  have w2 : w_X11_isOwner L p0 M (fun x M2 => (x = 0 → M2 = M) ∧ (¬ x = 0 → M2 = M ∧ isN (tn (X9.1 28 0)) p0)) := c_ownB n1 n3 (fun _ => rfl) (fun q => ⟨rfl, q⟩)
  refine Y_cVZ 5 (as := [.int p0]) m_X11_81 (s_X11_isOwner hL w2) (hL.ob (c := 11) (by decide) rfl) rfl (by decide) (Nat.le_of_ble_eq_true rfl) dX11_look_2 rfl rfl (fun x2 M1 bx2 hw => ?_)
  refine X_if_eq 18 8 (y := 0) dX11_look_5 rfl rfl (fun c3 => ?_) (fun c3 => ?_)
  · exact X_weak (ls' := []) WK.n (Nat.le_of_ble_eq_true rfl) (T M1 (hw.1 c3))
  obtain ⟨rfl, q2⟩ := hw.2 c3
  refine X_iload_n 9 dX11_look_8 rfl rfl ?_
  refine X_iconst 10 (v := 0) dX11_look_9 rfl rfl ?_
  refine X_bipush 12 (v := 9) dX11_look_10 rfl rfl ?_
  have w3 : w_X11_isWithin L p1 0 9 M1 (fun x M2 => (x = 0 → M2 = M1) ∧ (¬ x = 0 → M2 = M1 ∧ wi p1 0 9)) := c_wiB (fun _ => rfl) (fun q => ⟨rfl, q⟩)
  refine Y_cSZ 15 (as := [.int p1, .int (0 : Int32), .int (9 : Int32)]) m_X11_55 (s_X11_isWithin hL w3) rfl (by decide) (Nat.le_of_ble_eq_true rfl) dX11_look_12 rfl rfl (fun x5 M4 bx5 hw => ?_)
  refine X_if_ne 29 18 (y := 0) dX11_look_15 rfl rfl (fun c6 => ?_) (fun c6 => ?_)
  · exact absurd ⟨q2, (hw.2 c6).2⟩ v
  · exact X_weak (ls' := []) WK.n (Nat.le_of_ble_eq_true rfl) (T M4 (hw.1 c6))
end THR
