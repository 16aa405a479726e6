-- LEVEL 3, part 25: a trial of the reference, whole
theorem m_171 {L : Lay} {n : Nat} {set p2 iss : Int32} {M0 M : Mem} {Q : Mem → Prop} (hF : FJ PT M0 M)
    (h : ∀ M', FJ PT M0 M' → (∀ a k, ¬ (107 ≤ a ∧ a < 112) → mi M' a k = mi M a k) → (∀ a i, 107 ≤ a → a < 111 → i < 10 → mi M' a (10 + i) = mi M0 a i) → (∀ i, i < 10 → mi M' 111 (10 + i) = btF set i) → LP2 (fun K280 v5 M => w_X12_tries_280 L set (nI n) p2 iss K280 v5 M Q) 0 M') : LP2 (fun K171 v5 M => w_X12_tries_171 L set (nI n) p2 iss K171 v5 M Q) 0 M := by
  refine LP2_c0 0 10 (fun i M' => FJ PT M0 M' ∧ (∀ a k, ¬ (107 ≤ a ∧ a < 112) → mi M' a k = mi M a k) ∧ (∀ a j, 107 ≤ a → a < 111 → j < i → mi M' a (10 + j) = mi M0 a j) ∧ (∀ j, j < i → mi M' 111 (10 + j) = btF set j)) rfl (Nat.zero_le _) ⟨hF, fun _ _ _ => rfl, fun a j _ _ hj => absurd hj (by omega), fun j hj => absurd hj (by omega)⟩ ?_
  intro i M1 hi _ ⟨F1, k1, r1, b1⟩ K hK
  unfold w_X12_tries_171
  rw [show (10 : Int32) = nI 10 from rfl, nI_lt' (by omega) (by omega), nI_add]
  refine ⟨fun hlt => ⟨vp_in_nI (by omega) (by decide), vp_in_nI (by omega) (by decide), fun M2 e2 M3 e3 M4 e4 M5 e5 x6 h6 M6 e6 x hx => ?_⟩, fun hge => h M1 F1 k1 (fun a j ha hb hj => r1 a j ha hb (by omega)) (fun j hj => b1 j (by omega))⟩
  rw [tn_nI (n := i) (by omega), tn_nI (n := 10 + i) (by omega)] at e2 e3 e4 e5
  rw [tn_nI (n := 10 + i) (by omega)] at e6
  have h6 : x6 = btF set i := h6
  rw [hx, nI_1]
  have g : ∀ a, 107 ≤ a → a < 112 → mi M1 a i = mi M0 a i := fun a _ _ => F1.1 a i (by unfold PT; omega)
  have q2 : mi M1 107 i = mi M0 107 i := g 107 (by omega) (by omega)
  have q3 : mi M2 108 i = mi M0 108 i := by rw [e2, mi_si, if_neg (fun q => by omega)]; exact g 108 (by omega) (by omega)
  have q4 : mi M3 109 i = mi M0 109 i := by rw [e3, mi_si, if_neg (fun q => by omega), e2, mi_si, if_neg (fun q => by omega)]; exact g 109 (by omega) (by omega)
  have q5 : mi M4 110 i = mi M0 110 i := by rw [e4, mi_si, if_neg (fun q => by omega), e3, mi_si, if_neg (fun q => by omega), e2, mi_si, if_neg (fun q => by omega)]; exact g 110 (by omega) (by omega)
  rw [q2] at e2
  rw [q3] at e3
  rw [q4] at e4
  rw [q5] at e5
  rw [h6, narZ_B btF_B] at e6
  have rd : ∀ a k, mi M6 a k = if a = 111 ∧ k = 10 + i then btF set i else if a = 110 ∧ k = 10 + i then mi M0 110 i else if a = 109 ∧ k = 10 + i then mi M0 109 i else if a = 108 ∧ k = 10 + i then mi M0 108 i else if a = 107 ∧ k = 10 + i then mi M0 107 i else mi M1 a k := fun a k => by
    rw [e6, mi_si, e5, mi_si, e4, mi_si, e3, mi_si, e2, mi_si]
  refine hK hlt M6 ⟨?_, fun a k ha => ?_, fun a j ha hb hj => ?_, fun j hj => ?_⟩
  · rw [e6, e5, e4, e3, e2]; refine ((((F1.si ?_).si ?_).si ?_).si ?_).si ?_ <;> (unfold PT; omega)
  · rw [rd, if_neg (fun q => by omega), if_neg (fun q => by omega), if_neg (fun q => by omega), if_neg (fun q => by omega), if_neg (fun q => by omega)]; exact k1 a k ha
  · rw [rd, if_neg (fun q => by omega)]
    by_cases q : j = i
    · subst q
      have : a = 107 ∨ a = 108 ∨ a = 109 ∨ a = 110 := by omega
      rcases this with rfl | rfl | rfl | rfl
      · rw [if_neg (fun z => by omega), if_neg (fun z => by omega), if_neg (fun z => by omega), if_pos ⟨rfl, rfl⟩]
      · rw [if_neg (fun z => by omega), if_neg (fun z => by omega), if_pos ⟨rfl, rfl⟩]
      · rw [if_neg (fun z => by omega), if_pos ⟨rfl, rfl⟩]
      · rw [if_pos ⟨rfl, rfl⟩]
    · rw [if_neg (fun z => by omega), if_neg (fun z => by omega), if_neg (fun z => by omega), if_neg (fun z => by omega)]; exact r1 a j ha hb (by omega)
  · rw [rd]
    by_cases q : j = i
    · subst q; rw [if_pos ⟨rfl, rfl⟩]
    · rw [if_neg (fun z => by omega), if_neg (fun z => by omega), if_neg (fun z => by omega), if_neg (fun z => by omega), if_neg (fun z => by omega)]; exact b1 j (by omega)
theorem m_tries {L : Lay} {t n : Nat} {set p2 iss : Int32} {X : WS} {M : Mem} {Q : Mem → Prop} (hX : wsM 0 M X) (ho : okX t X) (ht : t ≤ 720) (hi : iss = -1 ∨ ∃ k, k ≤ 9999 ∧ iss = nI k) (hn : n < 2 ^ 30)
    (h : ∀ M', wsM 1 M' (trI (fun d => if p2 = 0 then mi M 127 d else 3) iss t (bkX X set) n) → FJ PT M M' → Q M') : w_X12_tries L set (nI n) p2 iss M Q := by
  unfold w_X12_tries
  intro M1 e1 M2 e2 M3 e3 M4 e4 M5 e5 M6 e6 M7 e7 M8 e8 M9 e9 Ma ea Mb eb Mc ec Md ed Me ee
  have z0 : c14 M M 93 := ⟨fun a h1 h2 => absurd h1 (by omega), FJ.rf⟩
  have z := c14_s (c14_s (c14_s (c14_s (c14_s (c14_s (c14_s (c14_s (c14_s (c14_s (c14_s (c14_s (c14_s (c14_s z0 (by omega) e1) (by omega) e2) (by omega) e3) (by omega) e4) (by omega) e5) (by omega) e6) (by omega) e7) (by omega) e8) (by omega) e9) (by omega) ea) (by omega) eb) (by omega) ec) (by omega) ed) (by omega) ee
  have z : c14 M Me 107 := z
  have Fe : FJ PT M Me := z.2.mono (fun a k q => by unfold PT; omega)
  have h93 : tn (mi M 93 0) = t := by rw [rM_93 (s := 0), hX.1, ho.2.1, tn_nI (by omega)]
  refine m_171 Fe (fun Mf F1 k1 r1 b1 => m_280 F1 (fun Mg F2 k2 r2 => m_364 F2 (fun Mh F3 k3 r3 => m_397 F3 (fun Mi F4 k4 r4 => m_450 hX.2.2.2.2.2.2.2.2.1 F4 (fun i hi => F4.1 119 i (by unfold PT; omega)) (fun Mj F5 k5 r5 => ?_)))))
  have cp : cpW M set Mj := by
    refine ⟨fun a h1 h2 => ?_, fun a i h1 h2 h3 => ?_, fun i h1 => ?_, fun a i h1 h2 h3 => ?_, fun i h1 => ?_, fun a i h1 h2 => ?_, r5⟩
    · rw [k5 a _ (by omega), k4 a _ (by omega) (by omega), k3 a _ (by omega), k2 a _ (by omega), k1 a _ (by omega)]; exact z.1 a h1 h2
    · rw [k5 a _ (by omega), k4 a _ (by omega) (by omega), k3 a _ (by omega), k2 a _ (by omega)]; exact r1 a i h1 h2 h3
    · rw [k5 111 _ (by omega), k4 111 _ (by omega) (by omega), k3 111 _ (by omega), k2 111 _ (by omega)]; exact b1 i h1
    · rw [k5 a _ (by omega), k4 a _ (by omega) (by omega), k3 a _ (by omega)]; exact r2 a i h1 h2 h3
    · rw [k5 116 _ (by omega), k4 116 _ (by omega) (by omega)]; exact r3 i h1
    · rw [k5 a _ (by omega)]; exact r4 a i h1 h2
  have hX1 := cpW_x cp F5 hX (by omega)
  refine m_run hX1 (ok_bk ho) ht hi hn (fun M' a1 a2 => h M' ?_ (F5.tr a2))
  have e127 : (fun d => if p2 = 0 then mi Mj 127 d else 3) = fun d => if p2 = 0 then mi M 127 d else 3 := funext fun d => by rw [F5.1 127 d (by unfold PT; omega)]
  rw [e127] at a1
  exact a1
