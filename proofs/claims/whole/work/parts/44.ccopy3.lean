-- LEVEL 3, part 28: ships, the rest of a world
theorem c_57 {L : Lay} {n : Nat} {M : Mem} {Q : Mem → Prop} (hn : n ≤ 8) (h34 : mi M 36 4 = nI n)
    (h : ∀ M', (∀ k, k < n → (∀ j, j < 6 → mi M' (sA 36 k) j = mi M (sA 1 k) j) ∧ ∀ j, j < 12 → mi M' (sA 36 k + 1) j = mi M (sA 1 k + 1) j) → (∀ j, j = 5 ∨ j = 6 ∨ j = 7 ∨ j = 13 → mi M' 36 j = mi M 1 j) → mi M' 36 14 = -1 → (∀ j, j < 5 → mi M' 39 j = mi M 4 j) →
      (∀ q, 9 ≤ q → q ≤ 12 → mp M' 36 q = mp M 1 q) → (∀ a k, ¬ (a = 36 ∧ ((5 ≤ k ∧ k ≤ 7) ∨ k = 13 ∨ k = 14)) → a ≠ 39 → ¬ (55 ≤ a ∧ a < 55 + 2 * n) → mi M' a k = mi M a k) → (∀ a k, ¬ (a = 36 ∧ 9 ≤ k ∧ k ≤ 12) → mp M' a k = mp M a k) → M'.2.2 = M.2.2 → Q M') :
    LP2 (fun K57 v2 M => w_X10_copyFrom_57 L 36 1 K57 v2 M Q) 0 M := by
  refine LP2_c0 0 n (fun i M' => (∀ k, k < i → (∀ j, j < 6 → mi M' (sA 36 k) j = mi M (sA 1 k) j) ∧ ∀ j, j < 12 → mi M' (sA 36 k + 1) j = mi M (sA 1 k + 1) j) ∧ FJ (fun a _ => 55 ≤ a ∧ a < 55 + 2 * i) M M') rfl (Nat.zero_le _) ⟨fun o ho => absurd ho (by omega), FJ.rf⟩ ?_
  intro i M1 hi _ ⟨r1, F1⟩ K hK
  unfold w_X10_copyFrom_57
  rw [F1.1 36 4 (by omega), h34, nI_lt' (by omega) (by omega)]
  refine ⟨fun hlt => ⟨vp_in_nI (by omega) (by decide), ?_⟩, fun hge => ?_⟩
  · rw [tn_nI (n := i) (by omega)]
    refine c_cpS (by unfold sA; omega) (by unfold sA; omega) (by unfold sA; omega) (fun M2 z1 z2 F2 x hx => ?_)
    rw [hx, nI_1]
    refine hK hlt M2 ⟨fun k hk => ?_, (F1.mono (fun a k q => by omega)).tr (F2.mono (fun a k q => by unfold sA at q; omega))⟩
    by_cases q : k = i
    · subst q
      refine ⟨fun j hj => ?_, fun j hj => ?_⟩
      · rw [z1 j hj]; exact F1.1 _ _ (by unfold sA; omega)
      · rw [z2 j hj]; exact F1.1 _ _ (by unfold sA; omega)
    · have := r1 k (by omega)
      refine ⟨fun j hj => ?_, fun j hj => ?_⟩
      · rw [F2.1 _ _ (by unfold sA; omega)]; exact this.1 j hj
      · rw [F2.1 _ _ (by unfold sA; omega)]; exact this.2 j hj
  · have : i = n := by omega
    subst this
    intro M9 e9 Ma ea Mb eb
    refine c_cpC (by decide) (fun Mc zc Md ed Me ee Mf ef Mg eg Mh eh Mi ei => ?_)
    have p0 : ∀ a k, mp Mc a k = mp M a k := fun a k => by
      rw [zc.2.mp]; rw [eb, ea, e9]; exact F1.mp
    have pd : ∀ a k, mp Mi a k = if a = 36 ∧ k = 12 then mp M 1 12 else if a = 36 ∧ k = 11 then mp M 1 11 else if a = 36 ∧ k = 10 then mp M 1 10 else if a = 36 ∧ k = 9 then mp M 1 9 else mp M a k := fun a k => by
      have g1 : mp Mi a k = mp Mg a k := by rw [ei, eh]; rfl
      have q9 : mp Mc 1 9 = mp M 1 9 := p0 1 9
      have qa : mp Md 1 10 = mp M 1 10 := by rw [ed, mp_sq, if_neg (fun q => by omega)]; exact p0 1 10
      have qb : mp Me 1 11 = mp M 1 11 := by rw [ee, mp_sq, if_neg (fun q => by omega), ed, mp_sq, if_neg (fun q => by omega)]; exact p0 1 11
      have qc : mp Mf 1 12 = mp M 1 12 := by rw [ef, mp_sq, if_neg (fun q => by omega), ee, mp_sq, if_neg (fun q => by omega), ed, mp_sq, if_neg (fun q => by omega)]; exact p0 1 12
      rw [g1, eg, mp_sq, qc, ef, mp_sq, qb, ee, mp_sq, qa, ed, mp_sq, q9, p0]
    have id' : ∀ a k, mi Mg a k = mi Mc a k := fun a k => by rw [eg, ef, ee, ed]; rfl
    have lo : ∀ a k, ¬ (a = 36 ∧ 5 ≤ k ∧ k ≤ 7) → mi Mb a k = mi M1 a k := fun a k q => by
      rw [eb, mi_si, if_neg (fun z => by omega), ea, mi_si, if_neg (fun z => by omega), e9, mi_si, if_neg (fun z => by omega)]
    have hc : ∀ a k, a ≠ 39 → mi Mc a k = mi Mb a k := fun a k q => zc.2.1 a k (fun w => q w.1)
    have all : ∀ a k, ¬ (a = 36 ∧ ((5 ≤ k ∧ k ≤ 7) ∨ k = 13 ∨ k = 14)) → a ≠ 39 → mi Mi a k = mi M1 a k := fun a k q r => by
      rw [ei, mi_si, if_neg (fun z => by omega), eh, mi_si, if_neg (fun z => by omega), id', hc a k r, lo a k (fun z => by omega)]
    have f1 : ∀ j, mi M1 1 j = mi M 1 j := fun j => F1.1 1 j (by omega)
    refine h Mi (fun k hk => ⟨fun j hj => ?_, fun j hj => ?_⟩) (fun j hj => ?_) (by rw [ei, mi_si, if_pos ⟨rfl, rfl⟩]) (fun j hj => ?_) (fun q h1 h2 => ?_) (fun a k q1 q2 q3 => ?_) (fun a k q => ?_) ?_
    · rw [all _ _ (fun q => by have := q.1; unfold sA at this; omega) (by unfold sA; omega)]; exact (r1 k hk).1 j hj
    · rw [all _ _ (fun q => by have := q.1; unfold sA at this; omega) (by unfold sA; omega)]; exact (r1 k hk).2 j hj
    · rw [ei, mi_si, if_neg (fun z => by omega), eh, mi_si]
      by_cases w : j = 13
      · rw [if_pos ⟨rfl, w⟩, id', hc 1 13 (by decide), lo 1 13 (by omega), w]; exact f1 13
      · rw [if_neg (fun z => w z.2), id', hc 36 j (by decide), eb, mi_si]
        have a5 : mi M9 36 5 = mi M 1 5 := by rw [e9, mi_si, if_pos ⟨rfl, rfl⟩]; exact f1 5
        have a6 : mi Ma 36 6 = mi M 1 6 := by rw [ea, mi_si, if_pos ⟨rfl, rfl⟩, e9, mi_si, if_neg (fun z => by omega)]; exact f1 6
        have a7 : mi Ma 1 7 = mi M 1 7 := by rw [ea, mi_si, if_neg (fun z => by omega), e9, mi_si, if_neg (fun z => by omega)]; exact f1 7
        rcases hj with q | q | q | q
        · rw [if_neg (fun z => by omega), ea, mi_si, if_neg (fun z => by omega), q]; exact a5
        · rw [if_neg (fun z => by omega), q]; exact a6
        · rw [if_pos ⟨rfl, q⟩, q]; exact a7
        · exact absurd q w
    · rw [ei, mi_si, if_neg (fun z => by omega), eh, mi_si, if_neg (fun z => by omega), id', zc.1 j hj, lo 4 j (by omega)]; exact F1.1 4 j (by omega)
    · rw [pd]
      have : q = 9 ∨ q = 10 ∨ q = 11 ∨ q = 12 := by omega
      rcases this with rfl | rfl | rfl | rfl <;> rfl
    · rw [all a k q1 q2]; exact F1.1 a k q3
    · rw [pd, if_neg (fun z => by omega), if_neg (fun z => by omega), if_neg (fun z => by omega), if_neg (fun z => by omega)]
    · have g : Mi.2.2 = Mc.2.2 := by rw [ei, eh, eg, ef, ee, ed]; rfl
      have g2 : Mc.2.2 = M1.2.2 := by rw [congrArg Prod.snd zc.2.2, eb, ea, e9]; rfl
      rw [g, g2]; exact congrArg Prod.snd F1.2
