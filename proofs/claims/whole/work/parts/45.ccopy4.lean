-- LEVEL 3, part 29: the class's copy of a world, whole
theorem kS0 : ∀ f, f < 130 → kd f = 0 → slt f = 0 ∨ slt f = 2 ∨ slt f = 4 ∨ slt f = 5 ∨ slt f = 6 ∨ slt f = 7 ∨ slt f = 13 := by decide +kernel
theorem kS1 : ∀ f, f < 130 → kd f = 1 → slt f < 5 := by decide +kernel
theorem kS2 : ∀ f, f < 130 → kd f = 2 → slt f < 12 := by decide +kernel
theorem kS3 : ∀ f, f < 130 → kd f = 3 → slt f < 6 := by decide +kernel
def z36 (n k : Nat) (M : Mem) : Prop := ∀ f i, tlS n k f i → i < rg f → mi M (cA 36 f i) (cB f i) = 0
def cpV (n k : Nat) (M M' : Mem) : Prop := (∀ j, j = 0 ∨ j = 2 ∨ j = 4 ∨ j = 5 ∨ j = 6 ∨ j = 7 ∨ j = 13 → mi M' 36 j = mi M 1 j) ∧ (∀ j, j < 5 → mi M' 39 j = mi M 4 j) ∧ (∀ o, o < n → ∀ j, j < 12 → mi M' (oA 36 o) j = mi M (oA 1 o) j) ∧
  (∀ i, i < k → (∀ j, j < 6 → mi M' (sA 36 i) j = mi M (sA 1 i) j) ∧ ∀ j, j < 12 → mi M' (sA 36 i + 1) j = mi M (sA 1 i + 1) j) ∧ (∀ a j, (45 + n ≤ a ∧ a < 55) ∨ (55 + 2 * k ≤ a ∧ a < 71) → mi M' a j = mi M a j) ∧ mp M' 36 11 = mp M 1 11
theorem cpV_v {M M' : Mem} {S : SS} (h : cpV (tn (S 28 0)) (tn (S 34 0)) M M') (hS : vwC 1 M = S) (hz : zrX S) (h36 : z36 (tn (S 28 0)) (tn (S 34 0)) M) (h109 : ∀ i, tn (S 28 0) ≤ i → i < 10 → mi M (oA 1 i) 8 = 0) : vwC 36 M' = S := by
  obtain ⟨a1, a2, a3, a4, a5, a6⟩ := h
  rw [← hS]
  funext f i
  rw [vwC_def, vwC_def, a6]
  by_cases c : f = 109
  · rw [if_pos c, if_pos c]
    by_cases q : i < 10 ∧ mp M 1 11 ≠ none
    · rw [if_pos q, if_pos q]
      by_cases r : i < tn (S 28 0)
      · exact a3 i r 8 (by omega)
      · rw [a5 (oA 36 i) 8 (by unfold oA; omega), h109 i (by omega) q.1]
        exact h36 109 i (by unfold tlS; omega) q.1
    · rw [if_neg q, if_neg q]
  rw [if_neg c, if_neg c]
  by_cases hi : i < rg f
  · rw [if_pos hi, if_pos hi]
    have k := rg_kd hi
    have b := kd_lt k
    have kk : kd f = 0 ∨ kd f = 1 ∨ kd f = 2 ∨ kd f = 3 ∨ kd f = 4 := by omega
    -- behind the last one
    have tail : tlS (tn (S 28 0)) (tn (S 34 0)) f i → (∀ j, mi M' (cA 36 f i) j = mi M (cA 36 f i) j) → mi M' (cA 36 f i) (cB f i) = mi M (cA 1 f i) (cB f i) := fun t e => by
      rw [e, h36 f i t hi, ← vwC_at c hi, hS]; exact (hz f i t).symm
    have r0 : rg f = rgk (kd f) := rfl
    rcases kk with q | q | q | q | q
    · have e1 : ∀ w, cA w f i = w := fun w => by unfold cA; rw [q]; rfl
      have e2 : cB f i = slt f := by unfold cB; rw [q]; rfl
      rw [e1, e1, e2]; exact a1 _ (kS0 f b q)
    · have e1 : ∀ w, cA w f i = w + 3 := fun w => by unfold cA; rw [q]; rfl
      have e2 : cB f i = slt f := by unfold cB; rw [q]; rfl
      rw [e1, e1, e2]; exact a2 _ (kS1 f b q)
    · have e1 : ∀ w, cA w f i = w + 9 + i := fun w => by unfold cA; rw [q]; rfl
      have e2 : cB f i = slt f := by unfold cB; rw [q]; rfl
      have hi10 : i < 10 := by rw [r0, q] at hi; exact hi
      have kr := kR2 f b q
      by_cases r : i < tn (S 28 0)
      · rw [e1, e1, e2]; exact a3 i r _ (kS2 f b q)
      · exact tail (by unfold tlS; omega) (fun j => by rw [e1]; exact a5 _ j (by omega))
    · have e1 : ∀ w, cA w f i = w + 19 + 2 * i := fun w => by unfold cA; rw [q]; rfl
      have e2 : cB f i = slt f := by unfold cB; rw [q]; rfl
      have hi8 : i < 8 := by rw [r0, q] at hi; exact hi
      have kr := kR3 f b q
      by_cases r : i < tn (S 34 0)
      · rw [e1, e1, e2]; exact (a4 i r).1 _ (kS3 f b q)
      · exact tail (by unfold tlS; omega) (fun j => by rw [e1]; exact a5 _ j (by omega))
    · have e1 : ∀ w, cA w f i = w + 19 + 2 * (i / 12) + 1 := fun w => by unfold cA; rw [q]; rfl
      have e2 : cB f i = i % 12 := by unfold cB; rw [q]; rfl
      have hi9 : i < 96 := by rw [r0, q] at hi; exact hi
      have kr := kR4 f b q
      by_cases r : i / 12 < tn (S 34 0)
      · rw [e1, e1, e2]; exact (a4 _ r).2 _ (by omega)
      · exact tail (by unfold tlS; omega) (fun j => by rw [e1]; exact a5 _ j (by omega))
  · rw [if_neg hi, if_neg hi]
