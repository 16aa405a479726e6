-- LEVEL 3, part 24: the reference's copying, loop by loop
theorem m_450 {L : Lay} {n : Nat} {set p2 iss : Int32} {M0 M : Mem} {Q : Mem → Prop} (hz : hzM 0 M0) (hF : FJ PT M0 M) (h19 : ∀ i, i < 721 → mi M 119 i = mi M0 119 i)
    (h : ∀ M', FJ PT M0 M' → (∀ a k, a ≠ 119 → mi M' a k = mi M a k) → (∀ i, i < 721 → mi M' 119 (721 + i) = mi M0 119 i) → LP2 (fun K485 v5 M => w_X12_tries_485 L set (nI n) p2 iss K485 v5 M Q) 0 M') : LP2 (fun K450 v5 M => w_X12_tries_450 L set (nI n) p2 iss K450 v5 M Q) 0 M := by
  refine LP2_c0 0 721 (fun i M' => FJ PT M0 M' ∧ (∀ a k, a ≠ 119 → mi M' a k = mi M a k) ∧ (∀ j, j < i → mi M' 119 (721 + j) = mi M0 119 j)) rfl (Nat.zero_le _) ⟨hF, fun _ _ _ => rfl, fun j hj => absurd hj (by omega)⟩ ?_
  intro i M1 hi _ ⟨F1, k1, r1⟩ K hK
  unfold w_X12_tries_450
  rw [show (720 : Int32) = nI 720 from rfl, nI_lt' (by omega) (by omega), show (721 : Int32) = nI 721 from rfl, nI_add, nI_1]
  refine ⟨fun hge => h M1 F1 k1 (fun j hj => r1 j (by omega)), fun hlt => ⟨vp_in_nI (by omega) (by decide), vp_in_nI (by omega) (by decide), fun M2 e2 x hx => ?_⟩⟩
  rw [tn_nI (n := i) (by omega), tn_nI (n := 721 + i) (by omega)] at e2
  rw [hx]
  have e : mi M1 119 i = mi M0 119 i := F1.1 119 i (by unfold PT; omega)
  have hb : BZ (mi M0 119 i) := by have := hz i (by omega); rw [show 721 * 0 + i = i from by omega] at this; exact this
  rw [e, narZ_B hb] at e2
  refine hK (by omega) M2 ⟨by rw [e2]; refine F1.si ?_; unfold PT; omega, fun a k ha => by rw [e2, mi_si, if_neg (fun q => ha q.1)]; exact k1 a k ha, fun j hj => ?_⟩
  rw [e2, mi_si]
  by_cases q : j = i
  · subst q; rw [if_pos ⟨rfl, rfl⟩]
  · rw [if_neg (fun z => by omega)]; exact r1 j (by omega)
theorem m_397 {L : Lay} {n : Nat} {set p2 iss : Int32} {M0 M : Mem} {Q : Mem → Prop} (hF : FJ PT M0 M)
    (h : ∀ M', FJ PT M0 M' → (∀ a k, a ≠ 117 → a ≠ 118 → mi M' a k = mi M a k) → (∀ a i, a = 117 ∨ a = 118 → i < 240 → mi M' a (240 + i) = mi M0 a i) → LP2 (fun K450 v5 M => w_X12_tries_450 L set (nI n) p2 iss K450 v5 M Q) 0 M') : LP2 (fun K397 v5 M => w_X12_tries_397 L set (nI n) p2 iss K397 v5 M Q) 0 M := by
  refine LP2_c0 0 240 (fun i M' => FJ PT M0 M' ∧ (∀ a k, a ≠ 117 → a ≠ 118 → mi M' a k = mi M a k) ∧ (∀ a j, a = 117 ∨ a = 118 → j < i → mi M' a (240 + j) = mi M0 a j)) rfl (Nat.zero_le _) ⟨hF, fun _ _ _ _ => rfl, fun a j _ hj => absurd hj (by omega)⟩ ?_
  intro i M1 hi _ ⟨F1, k1, r1⟩ K hK
  unfold w_X12_tries_397
  rw [show (240 : Int32) = nI 240 from rfl, nI_lt' (by omega) (by omega), nI_add]
  refine ⟨fun hlt => ⟨vp_in_nI (by omega) (by decide), vp_in_nI (by omega) (by decide), fun M2 e2 M3 e3 x hx => ?_⟩, fun hge => h M1 F1 k1 (fun a j ha hj => r1 a j ha (by omega))⟩
  rw [tn_nI (n := i) (by omega), tn_nI (n := 240 + i) (by omega)] at e2 e3
  rw [hx, nI_1]
  have e : mi M1 117 i = mi M0 117 i := F1.1 117 i (by unfold PT; omega)
  have e' : mi M2 118 i = mi M0 118 i := by rw [e2, mi_si, if_neg (fun q => by omega)]; exact F1.1 118 i (by unfold PT; omega)
  rw [e] at e2
  rw [e'] at e3
  refine hK hlt M3 ⟨?_, fun a k ha hb => by rw [e3, mi_si, if_neg (fun q => hb q.1), e2, mi_si, if_neg (fun q => ha q.1)]; exact k1 a k ha hb, fun a j ha hj => ?_⟩
  · rw [e3, e2]; refine (F1.si ?_).si ?_ <;> (unfold PT; omega)
  · rw [e3, mi_si, e2, mi_si]
    by_cases q : j = i
    · subst q
      rcases ha with rfl | rfl
      · rw [if_neg (fun z => by omega), if_pos ⟨rfl, rfl⟩]
      · rw [if_pos ⟨rfl, rfl⟩]
    · rw [if_neg (fun z => by omega), if_neg (fun z => by omega)]; exact r1 a j ha (by omega)
theorem m_364 {L : Lay} {n : Nat} {set p2 iss : Int32} {M0 M : Mem} {Q : Mem → Prop} (hF : FJ PT M0 M)
    (h : ∀ M', FJ PT M0 M' → (∀ a k, a ≠ 116 → mi M' a k = mi M a k) → (∀ i, i < 96 → mi M' 116 (96 + i) = mi M0 116 i) → LP2 (fun K397 v5 M => w_X12_tries_397 L set (nI n) p2 iss K397 v5 M Q) 0 M') : LP2 (fun K364 v5 M => w_X12_tries_364 L set (nI n) p2 iss K364 v5 M Q) 0 M := by
  refine LP2_c0 0 96 (fun i M' => FJ PT M0 M' ∧ (∀ a k, a ≠ 116 → mi M' a k = mi M a k) ∧ (∀ j, j < i → mi M' 116 (96 + j) = mi M0 116 j)) rfl (Nat.zero_le _) ⟨hF, fun _ _ _ => rfl, fun j hj => absurd hj (by omega)⟩ ?_
  intro i M1 hi _ ⟨F1, k1, r1⟩ K hK
  unfold w_X12_tries_364
  rw [show (96 : Int32) = nI 96 from rfl, nI_lt' (by omega) (by omega), nI_add]
  refine ⟨fun hlt => ⟨vp_in_nI (by omega) (by decide), vp_in_nI (by omega) (by decide), fun M2 e2 x hx => ?_⟩, fun hge => h M1 F1 k1 (fun j hj => r1 j (by omega))⟩
  rw [tn_nI (n := i) (by omega), tn_nI (n := 96 + i) (by omega)] at e2
  rw [hx, nI_1]
  have e : mi M1 116 i = mi M0 116 i := F1.1 116 i (by unfold PT; omega)
  rw [e] at e2
  refine hK hlt M2 ⟨by rw [e2]; refine F1.si ?_; unfold PT; omega, fun a k ha => by rw [e2, mi_si, if_neg (fun q => ha q.1)]; exact k1 a k ha, fun j hj => ?_⟩
  rw [e2, mi_si]
  by_cases q : j = i
  · subst q; rw [if_pos ⟨rfl, rfl⟩]
  · rw [if_neg (fun z => by omega)]; exact r1 j (by omega)
theorem m_280 {L : Lay} {n : Nat} {set p2 iss : Int32} {M0 M : Mem} {Q : Mem → Prop} (hF : FJ PT M0 M)
    (h : ∀ M', FJ PT M0 M' → (∀ a k, ¬ (112 ≤ a ∧ a < 116) → mi M' a k = mi M a k) → (∀ a i, 112 ≤ a → a < 116 → i < 8 → mi M' a (8 + i) = mi M0 a i) → LP2 (fun K364 v5 M => w_X12_tries_364 L set (nI n) p2 iss K364 v5 M Q) 0 M') : LP2 (fun K280 v5 M => w_X12_tries_280 L set (nI n) p2 iss K280 v5 M Q) 0 M := by
  refine LP2_c0 0 8 (fun i M' => FJ PT M0 M' ∧ (∀ a k, ¬ (112 ≤ a ∧ a < 116) → mi M' a k = mi M a k) ∧ (∀ a j, 112 ≤ a → a < 116 → j < i → mi M' a (8 + j) = mi M0 a j)) rfl (Nat.zero_le _) ⟨hF, fun _ _ _ => rfl, fun a j _ _ hj => absurd hj (by omega)⟩ ?_
  intro i M1 hi _ ⟨F1, k1, r1⟩ K hK
  unfold w_X12_tries_280
  rw [show (8 : Int32) = nI 8 from rfl, nI_lt' (by omega) (by omega), nI_add]
  refine ⟨fun hlt => ⟨vp_in_nI (by omega) (by decide), vp_in_nI (by omega) (by decide), fun M2 e2 M3 e3 M4 e4 M5 e5 x hx => ?_⟩, fun hge => h M1 F1 k1 (fun a j ha hb hj => r1 a j ha hb (by omega))⟩
  rw [tn_nI (n := i) (by omega), tn_nI (n := 8 + i) (by omega)] at e2 e3 e4 e5
  rw [hx, nI_1]
  have g : ∀ a, 112 ≤ a → a < 116 → mi M1 a i = mi M0 a i := fun a _ _ => F1.1 a i (by unfold PT; omega)
  have q2 : mi M1 112 i = mi M0 112 i := g 112 (by omega) (by omega)
  have q3 : mi M2 113 i = mi M0 113 i := by rw [e2, mi_si, if_neg (fun q => by omega)]; exact g 113 (by omega) (by omega)
  have q4 : mi M3 114 i = mi M0 114 i := by rw [e3, mi_si, if_neg (fun q => by omega), e2, mi_si, if_neg (fun q => by omega)]; exact g 114 (by omega) (by omega)
  have q5 : mi M4 115 i = mi M0 115 i := by rw [e4, mi_si, if_neg (fun q => by omega), e3, mi_si, if_neg (fun q => by omega), e2, mi_si, if_neg (fun q => by omega)]; exact g 115 (by omega) (by omega)
  rw [q2] at e2
  rw [q3] at e3
  rw [q4] at e4
  rw [q5] at e5
  have rd : ∀ a k, mi M5 a k = if a = 115 ∧ k = 8 + i then mi M0 115 i else if a = 114 ∧ k = 8 + i then mi M0 114 i else if a = 113 ∧ k = 8 + i then mi M0 113 i else if a = 112 ∧ k = 8 + i then mi M0 112 i else mi M1 a k := fun a k => by
    rw [e5, mi_si, e4, mi_si, e3, mi_si, e2, mi_si]
  refine hK hlt M5 ⟨?_, fun a k ha => ?_, fun a j ha hb hj => ?_⟩
  · rw [e5, e4, e3, e2]; refine (((F1.si ?_).si ?_).si ?_).si ?_ <;> (unfold PT; omega)
  · rw [rd, if_neg (fun q => by omega), if_neg (fun q => by omega), if_neg (fun q => by omega), if_neg (fun q => by omega)]; exact k1 a k ha
  · rw [rd]
    by_cases q : j = i
    · subst q
      have : a = 112 ∨ a = 113 ∨ a = 114 ∨ a = 115 := by omega
      rcases this with rfl | rfl | rfl | rfl
      · rw [if_neg (fun z => by omega), if_neg (fun z => by omega), if_neg (fun z => by omega), if_pos ⟨rfl, rfl⟩]
      · rw [if_neg (fun z => by omega), if_neg (fun z => by omega), if_pos ⟨rfl, rfl⟩]
      · rw [if_neg (fun z => by omega), if_pos ⟨rfl, rfl⟩]
      · rw [if_pos ⟨rfl, rfl⟩]
    · rw [if_neg (fun z => by omega), if_neg (fun z => by omega), if_neg (fun z => by omega), if_neg (fun z => by omega)]; exact r1 a j ha hb (by omega)
