-- LEVEL 3, part 27: a ship is copied; the loops over owners and ships
theorem c_cpS {L : Lay} {x y : Nat} {M : Mem} {Q : Mem → Prop} (h1 : x ≠ y) (h2 : x ≠ y + 1) (h3 : x + 1 ≠ y) (h : ∀ M', (∀ j, j < 6 → mi M' x j = mi M y j) → (∀ j, j < 12 → mi M' (x + 1) j = mi M (y + 1) j) → FJ (fun a k => a = x ∨ a = x + 1) M M' → Q M') : w_X9_copyFrom L x y M Q := by
  unfold w_X9_copyFrom
  intro M1 e1 M2 e2 M3 e3 M4 e4 M5 e5 M6 e6
  have z : cO x y M M6 6 := cO_s h1 (cO_s h1 (cO_s h1 (cO_s h1 (cO_s h1 (cO_s h1 cO_0 e1) e2) e3) e4) e5) e6
  refine ⟨by decide, fun M8 e8 => ?_⟩
  have t0 : tn (0 : Int32) = 0 := rfl
  have t12 : tn (nI 12) = 12 := tn_nI (by omega)
  rw [t0, t12] at e8
  have rd : ∀ a k, mi M8 a k = if a = x + 1 then (if k < 12 then mi M6 (y + 1) k else mi M6 a k) else mi M6 a k := fun a k => by
    rw [e8]
    show (if a = x + 1 then va_cpy (M6.1 (y + 1)) (M6.1 (x + 1)) 0 0 12 k else M6.1 a k) = _
    by_cases q : a = x + 1
    · rw [if_pos q, if_pos q, q]
      unfold va_cpy
      by_cases r : k < 12
      · rw [if_pos ⟨by omega, by omega⟩, if_pos r, show 0 + (k - 0) = k from by omega]; rfl
      · rw [if_neg (fun z => by omega), if_neg r]; rfl
    · rw [if_neg q, if_neg q]; rfl
  refine h M8 (fun j hj => ?_) (fun j hj => ?_) ⟨fun a k q => ?_, ?_⟩
  · rw [rd, if_neg (by omega)]; exact z.1 j hj
  · rw [rd, if_pos rfl, if_pos hj]; exact z.2.1 (y + 1) j (fun q => h2 q.1.symm)
  · rw [rd, if_neg (fun w => q (Or.inr w))]; exact z.2.1 a k (fun w => q (Or.inl w.1))
  · rw [e8]; exact z.2.2
-- owners
theorem c_18 {L : Lay} {n : Nat} {M0 M : Mem} {Q : Mem → Prop} (hn : n ≤ 10) (h28 : mi M 36 2 = nI n) (hb : ∀ o, o < 10 → BZ (mi M (oA 1 o) 5))
    (h : ∀ M', (∀ o, o < n → ∀ j, j < 12 → mi M' (oA 36 o) j = mi M (oA 1 o) j) → FJ (fun a _ => 45 ≤ a ∧ a < 45 + n) M M' → ∀ M4, M4 = si M' 36 4 (mi M' 1 4) → LP2 (fun K57 v2 M => w_X10_copyFrom_57 L 36 1 K57 v2 M Q) 0 M4) : LP2 (fun K18 v2 M => w_X10_copyFrom_18 L 36 1 K18 v2 M Q) 0 M := by
  refine LP2_c0 0 n (fun i M' => (∀ o, o < i → ∀ j, j < 12 → mi M' (oA 36 o) j = mi M (oA 1 o) j) ∧ FJ (fun a _ => 45 ≤ a ∧ a < 45 + i) M M') rfl (Nat.zero_le _) ⟨fun o ho => absurd ho (by omega), FJ.rf⟩ ?_
  intro i M1 hi _ ⟨r1, F1⟩ K hK
  unfold w_X10_copyFrom_18
  rw [F1.1 36 2 (by omega), h28, nI_lt' (by omega) (by omega)]
  refine ⟨fun hlt => ⟨vp_in_nI (by omega) (by decide), ?_⟩, fun hge M4 e4 => ?_⟩
  · rw [tn_nI (n := i) (by omega)]
    have f1 : ∀ j, mi M1 (oA 1 i) j = mi M (oA 1 i) j := fun j => F1.1 _ _ (by unfold oA; omega)
    refine c_cpO (by unfold oA; omega) (by rw [f1]; exact hb i (by omega)) (fun M2 z x hx => ?_)
    rw [hx, nI_1]
    refine hK hlt M2 ⟨fun o ho j hj => ?_, (F1.mono (fun a k q => by omega)).tr (z.2.mono (fun a k q => by have := q.1; unfold oA at this; omega))⟩
    by_cases q : o = i
    · subst q; rw [z.1 j hj]; exact f1 j
    · rw [z.2.1 _ _ (fun w => by have := w.1; unfold oA at this; omega)]; exact r1 o (by omega) j hj
  · have : i = n := by omega
    subst this
    exact h M1 r1 F1 M4 e4
