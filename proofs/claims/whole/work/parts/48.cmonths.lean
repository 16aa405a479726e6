-- LEVEL 3, part 32: the class keeps a month
theorem c_keep {L : Lay} {t n : Nat} {M : Mem} {Q : Mem → Prop} (h93 : mi M 1 0 = nI t) (ht : t ≤ 720) (h30 : 30 ≤ t) (h28 : mi M 1 2 = nI n) (hn : n ≤ 10) (hob : ∀ a, mp M 1 11 = some a → OB L a 4)
    (h : ∀ M', (∀ i, i < n → mi M' 77 (10 * (t / 30 - 1) + i) = mi M (oA 1 i) 7 ∧ mi M' 78 (10 * (t / 30 - 1) + i) = if mp M 1 11 = none then 0 else mi M (oA 1 i) 8) → (∀ a k, ¬ ((a = 77 ∨ a = 78) ∧ 10 * (t / 30 - 1) ≤ k ∧ k < 10 * (t / 30 - 1) + n) → mi M' a k = mi M a k) →
      (∀ a k, mp M' a k = if a = 76 ∧ k = t / 30 - 1 then mp M 1 11 else mp M a k) → M'.2.2 = M.2.2 → Q M') : w_X2_keep L 1 M Q := by
  unfold w_X2_keep
  intro x1 e1
  have hx : x1 = nI (t / 30 - 1) := by
    rw [e1, h93, show (30 : Int32) = nI 30 from rfl, pk_div (by omega) (by omega) (by omega), show (1 : Int32) = nI 1 from rfl, pk_sub (by omega)]
  subst hx
  rw [show (24 : Int32) = nI 24 from rfl, nI_lt' (by omega) (by omega), tn_nI (n := t / 30 - 1) (by omega)]
  refine ⟨fun q => absurd q (nI_pos (by omega)), fun _ => ⟨fun _ => ⟨vp_in_nI (by omega) (by decide), hob, fun M6 e6 => ?_⟩, fun q => absurd (by omega) q⟩⟩
  have i6 : ∀ a k, mi M6 a k = mi M a k := fun a k => by rw [e6]; rfl
  have p6 : ∀ a k, mp M6 a k = if a = 76 ∧ k = t / 30 - 1 then mp M 1 11 else mp M a k := fun a k => by rw [e6, mp_sq]
  have p611 : mp M6 1 11 = mp M 1 11 := by rw [p6, if_neg (fun q => by omega)]
  refine LP3_c1 0 n (fun i (v2 : Int32) M' => v2 = nI (t / 30 - 1) ∧ (∀ j, j < i → mi M' 77 (10 * (t / 30 - 1) + j) = mi M (oA 1 j) 7 ∧ mi M' 78 (10 * (t / 30 - 1) + j) = if mp M 1 11 = none then 0 else mi M (oA 1 j) 8) ∧
    FJ (fun a k => (a = 77 ∨ a = 78) ∧ 10 * (t / 30 - 1) ≤ k ∧ k < 10 * (t / 30 - 1) + i) M6 M') rfl (Nat.zero_le _) ⟨rfl, fun j hj => absurd hj (by omega), FJ.rf⟩ ?_
  intro i v2 M1 hi _ ⟨ev, r1, F1⟩ K hK
  subst ev
  unfold w_X2_keep_33
  rw [F1.1 1 2 (by omega), i6, h28, nI_lt' (by omega) (by omega)]
  refine ⟨fun hlt => ?_, fun hge => ?_⟩
  · unfold w_X2_place
    have e10 : nI (t / 30 - 1) * 10 + nI i = nI (10 * (t / 30 - 1) + i) := by
      rw [show (10 : Int32) = nI 10 from rfl, pk_mul, nI_add, Nat.mul_comm]
    rw [e10]
    dsimp only
    rw [tn_nI (n := i) (by omega), tn_nI (n := 10 * (t / 30 - 1) + i) (by omega)]
    refine ⟨vp_in_nI (by omega) (by decide), vp_in_nI (by omega) (by decide), fun M2 e2 => ?_⟩
    have o : ∀ k, mi M1 (oA 1 i) k = mi M (oA 1 i) k := fun k => by rw [F1.1 _ _ (by unfold oA; omega), i6]
    have fin : ∀ (z : Int32) (M3 : Mem), z = (if mp M 1 11 = none then 0 else mi M (oA 1 i) 8) → M3 = si M2 78 (10 * (t / 30 - 1) + i) z → ∀ x : Int32, x = nI i + 1 → K (nI (t / 30 - 1)) x M3 := fun z M3 hz e3 x hx => by
      rw [hx, nI_1]
      refine hK hlt _ M3 ⟨rfl, fun j hj => ?_, ?_⟩
      · rw [e3, mi_si, if_neg (fun q => by omega), mi_si, e2, mi_si, mi_si]
        by_cases q : j = i
        · subst q; rw [if_pos ⟨rfl, rfl⟩, if_pos ⟨rfl, rfl⟩, o 7]; exact ⟨rfl, hz⟩
        · rw [if_neg (fun w => by omega), if_neg (fun w => by omega), if_neg (fun w => by omega)]; exact r1 j (by omega)
      · rw [e3, e2]; exact ((F1.mono (fun a k q => by omega)).si ⟨Or.inl rfl, by omega, by omega⟩).si ⟨Or.inr rfl, by omega, by omega⟩
    have m2 : mp M2 1 11 = mp M 1 11 := by rw [e2]; show mp M1 1 11 = _; rw [F1.mp, p611]
    have o2 : mi M2 (oA 1 i) 8 = mi M (oA 1 i) 8 := by rw [e2, mi_si, if_neg (fun q => by have := q.1; unfold oA at this; omega), o]
    rw [m2]
    refine ⟨fun q => ⟨vp_in_nI (by omega) (by decide), fun M3 e3 x hx => fin 0 M3 (by rw [if_pos q]) e3 x hx⟩, fun a q => ⟨vp_in_nI (by omega) (by decide), fun M3 e3 x hx => fin _ M3 ?_ e3 x hx⟩⟩
    rw [if_neg (by rw [q]; exact fun z => by cases z), o2]
  · have : i = n := by omega
    subst this
    exact h M1 r1 (fun a k q => by rw [F1.1 a k q, i6]) (fun a k => by rw [F1.mp, p6]) (by rw [congrArg Prod.snd F1.2, e6]; rfl)
