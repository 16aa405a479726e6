-- LEVEL 3, part 30: a trial's world is a copy of the world
theorem c_copy {L : Lay} {t : Nat} {X : WS} {M : Mem} {Q : Mem → Prop} (hX : wsC L 1 M X) (ho : okX t X) (hz : zrX X.1) (h36 : z36 (tn (X.1 28 0)) (tn (X.1 34 0)) M)
    (h : ∀ M', wsC L 36 M' X → mi M' 36 14 = -1 → (∀ a k, ¬ (36 ≤ a ∧ a < 71 ∧ a ≠ 40) → mi M' a k = mi M a k) → (∀ a k, ¬ (a = 36 ∧ 9 ≤ k ∧ k ≤ 12) → mp M' a k = mp M a k) → M'.2.2 = M.2.2 → Q M') : w_X10_copyFrom L 36 1 M Q := by
  obtain ⟨x1, x2, x3, x4, x5, x6⟩ := hX
  obtain ⟨⟨n1, n2, n3, n4, -, -, -, -, -, -, -, gc⟩, -, -⟩ := ho
  unfold w_X10_copyFrom
  intro M1 e1 M2 e2
  have r2 : ∀ a k, ¬ (a = 36 ∧ (k = 0 ∨ k = 2)) → mi M2 a k = mi M a k := fun a k q => by
    rw [e2, mi_si, if_neg (fun z => by omega), e1, mi_si, if_neg (fun z => by omega)]
  have p2 : ∀ a k, mp M2 a k = mp M a k := fun a k => by rw [e2, e1]; rfl
  have w28 : mi M 1 2 = X.1 28 0 := by rw [rC_28 (w := 1), x1]
  have w34 : mi M 1 4 = X.1 34 0 := by rw [rC_34 (w := 1), x1]
  have z2 : mi M2 36 2 = mi M 1 2 := by rw [e2, mi_si, if_pos ⟨rfl, rfl⟩, e1, mi_si, if_neg (fun z => by omega)]
  have z0 : mi M2 36 0 = mi M 1 0 := by rw [e2, mi_si, if_neg (fun z => by omega), e1, mi_si, if_pos ⟨rfl, rfl⟩]
  refine c_18 (M0 := M) (n := tn (X.1 28 0)) n2 (by rw [z2, w28]; exact n1) (fun o hoo => ?_) (fun M3 b1 F3 M4 e4 => ?_)
  · rw [r2 _ _ (fun q => by have := q.1; unfold oA at this; omega)]
    have := (gc o hoo).2.2
    rw [← x1, ← rC_111 hoo] at this; exact this
  · have f3 : mi M3 1 4 = mi M 1 4 := by rw [F3.1 1 4 (by omega)]; exact r2 1 4 (by omega)
    have r4 : ∀ a k, ¬ (a = 36 ∧ k = 4) → mi M4 a k = mi M3 a k := fun a k q => by rw [e4, mi_si, if_neg q]
    have r4' : ∀ a k, ¬ (a = 36 ∧ (k = 0 ∨ k = 2 ∨ k = 4)) → ¬ (45 ≤ a ∧ a < 45 + tn (X.1 28 0)) → mi M4 a k = mi M a k := fun a k q1 q2 => by
      rw [r4 a k (fun z => by omega), F3.1 a k q2, r2 a k (fun z => by omega)]
    have p4 : ∀ a k, mp M4 a k = mp M a k := fun a k => by
      have : mp M4 a k = mp M3 a k := by rw [e4]; rfl
      rw [this, F3.mp, p2]
    have z4 : mi M4 36 4 = mi M 1 4 := by rw [e4, mi_si, if_pos ⟨rfl, rfl⟩]; exact f3
    refine c_57 (n := tn (X.1 34 0)) n4 (by rw [z4, w34]; exact n3) (fun M5 c1 c2 c3 c4 c5 c6 c7 c8 => ?_)
    have g : ∀ a k, ¬ (36 ≤ a ∧ a < 71 ∧ a ≠ 40) → mi M5 a k = mi M a k := fun a k q => by
      rw [c6 a k (by omega) (by omega) (by omega), r4' a k (by omega) (by omega)]
    have gp : ∀ a k, ¬ (a = 36 ∧ 9 ≤ k ∧ k ≤ 12) → mp M5 a k = mp M a k := fun a k q => by rw [c7 a k q, p4]
    have gq : ∀ q, 9 ≤ q → q ≤ 12 → mp M5 36 q = mp M 1 q := fun q h1 h2 => by rw [c5 q h1 h2, p4]
    have row : ∀ b, ¬ (36 ≤ b ∧ b < 71 ∧ b ≠ 40) → M5.1 b = M.1 b := fun b q => funext fun k => g b k q
    have rowp : ∀ b, b ≠ 36 → M5.2.1 b = M.2.1 b := fun b q => funext fun k => gp b k (fun z => q z.1)
    have cv : cpV (tn (X.1 28 0)) (tn (X.1 34 0)) M M5 := by
      refine ⟨fun j hj => ?_, fun j hj => ?_, fun o hoo j hj => ?_, fun i hi => ⟨fun j hj => ?_, fun j hj => ?_⟩, fun a j hj => ?_, gq 11 (by omega) (by omega)⟩
      · by_cases q : j = 5 ∨ j = 6 ∨ j = 7 ∨ j = 13
        · rw [c2 j q]; exact r4' 1 j (by omega) (by omega)
        · rw [c6 36 j (by omega) (by omega) (by omega)]
          by_cases q4 : j = 4
          · rw [q4]; exact z4
          · rw [r4 36 j (by omega), F3.1 36 j (by omega)]
            have : j = 0 ∨ j = 2 := by omega
            rcases this with rfl | rfl
            · exact z0
            · exact z2
      · rw [c4 j hj]; exact r4' 4 j (by omega) (by omega)
      · rw [c6 _ _ (fun q => by have := q.1; unfold oA at this; omega) (by unfold oA; omega) (by unfold oA; omega), r4 _ _ (fun q => by have := q.1; unfold oA at this; omega), b1 o hoo j hj, r2 _ _ (fun q => by have := q.1; unfold oA at this; omega)]
      · rw [(c1 i hi).1 j hj]; exact r4' _ _ (fun q => by have := q.1; unfold sA at this; omega) (by unfold sA; omega)
      · rw [(c1 i hi).2 j hj]; exact r4' _ _ (fun q => by have := q.1; unfold sA at this; omega) (by unfold sA; omega)
      · rw [c6 a j (by omega) (by omega) (by omega)]; exact r4' a j (by omega) (by omega)
    refine h M5 ⟨cpV_v cv x1 hz h36 x6, ?_, ?_, ?_, ?_, fun i q1 q2 => ?_⟩ c3 g gp ?_
    · rw [gq 9 (by omega) (by omega)]; exact lawC_cg (fun b hb _ => row b (by omega)) x2
    · rw [gq 10 (by omega) (by omega)]; exact lawC_cg (fun b hb _ => row b (by omega)) x3
    · rw [gq 11 (by omega) (by omega)]; exact optC_cg (fun b hb _ => row b (by omega)) (fun b hb _ => rowp b (by omega)) x4
    · rw [gq 12 (by omega) (by omega)]; exact optC_cg (fun b hb _ => row b (by omega)) (fun b hb _ => rowp b (by omega)) x5
    · rw [cv.2.2.2.2.1 (oA 36 i) 8 (by unfold oA; omega)]
      exact h36 109 i (by unfold tlS; omega) q2
    · have : M4.2.2 = M.2.2 := by rw [e4]; show M3.2.2 = _; rw [congrArg Prod.snd F3.2, e2, e1]; rfl
      rw [c8, this]
