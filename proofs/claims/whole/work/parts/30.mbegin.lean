-- LEVEL 3, part 14: the month's first day in the reference
theorem vwM_ne {s f i : Nat} {M M' : Mem} (hf : f ≠ 109) (h : ∀ a k, a ≠ 99 → a ≠ 109 → mi M' a k = mi M a k) : vwM s M' f i = vwM s M f i := by
  rw [vwM_def, vwM_def, if_neg hf, if_neg hf, h 93 s (by decide) (by decide)]
  have e117 : ∀ k, mi M' 117 k = mi M 117 k := fun k => h 117 k (by decide) (by decide)
  have e118 : ∀ k, mi M' 118 k = mi M 118 k := fun k => h 118 k (by decide) (by decide)
  have e119 : ∀ k, mi M' 119 k = mi M 119 k := fun k => h 119 k (by decide) (by decide)
  simp only [e117, e118, e119]
  by_cases hi : i < rg f
  · have rr := mA_rng f (kd_lt (rg_kd hi)) (rg_kd hi)
    rw [h (mA f) _ rr.2.2.1 (fun q => hf (rr.2.2.2.2.2.2.2.1 q))]
  · simp only [if_neg hi]
theorem vwM_n {s f i : Nat} {M M' : Mem} (hf : f ≠ 109) (h : ∀ a k, 92 ≤ a → a < 127 → (a = 92 → k = 28 ∨ k = 34) → a ≠ 99 → a ≠ 101 → a ≠ 102 → a ≠ 103 → a ≠ 104 → a ≠ 109 → mi M' a k = mi M a k) : vwM s M' f i = vwM s M f i := by
  let N : Mem := (fun a k => if a = 99 ∨ a = 109 then M.1 a k else M'.1 a k, M'.2)
  have hN : ∀ a k, mi N a k = if a = 99 ∨ a = 109 then mi M a k else mi M' a k := fun _ _ => rfl
  have e1 : vwM s N f i = vwM s M' f i := vwM_ne hf (fun a k h1 h2 => by rw [hN, if_neg (by omega)])
  have e2 : vwM s N = vwM s M := vwM_cg fun a k h1 h2 h3 h4 h5 h6 h7 _ _ _ _ _ _ _ => by
    rw [hN]
    by_cases c : a = 99 ∨ a = 109
    · rw [if_pos c]
    · rw [if_neg c]; exact h a k h1 h2 h3 (by omega) h4 h5 h6 h7 (by omega)
  rw [← e1, e2]
theorem PX_v {s : Nat} {M M' : Mem} (h : FJ PX M M') : vwM s M' = vwM s M := vwM_cg fun a k _ _ _ _ _ _ _ _ _ _ _ _ _ _ => h.1 a k (by unfold PX; omega)
theorem PX_f {s : Nat} {M M' : Mem} (h : FJ PX M M') : fmF s M' = fmF s M := by
  unfold fmF
  rw [PX_v h, h.1 92 68 (by unfold PX; omega), h.1 92 69 (by unfold PX; omega)]
theorem PX_z {s : Nat} {M M' : Mem} (h : FJ PX M M') (hz : hzM s M) : hzM s M' := fun d hd => by rw [h.1 119 _ (by unfold PX; omega)]; exact hz d hd
theorem PX_p {M M' : Mem} {p : Nat} {P : Pc} (h : FJ PX M M') (hp : pacM M p P) : pacM M' p P := pacM_cg (fun a j q => h.1 a j (by unfold slM at q; unfold PX; omega)) hp
theorem m_val {L : Lay} {T s p k : Nat} {x : Ex} {M : Mem} {Q : Int32 → Mem → Prop} (hs : s < 2) (hg : gdT T (vwM s M)) (hz : hzM s M) (ha : mi M 92 68 = -1 ∨ ∃ o, o < 10 ∧ mi M 92 68 = nI o) (hp : p < 26) (hk : k < 11) (hl : lineM M p k (some x))
    (h : ∀ M', FJ PX M M' → Q (x (fmF s M)) M') : w_X12_worth L (nI s) (nI p) (nI k) M Q := by
  rcases hl with ⟨-, q⟩ | ⟨a, n, y, h1, h2, h3, h4, h5, h6⟩
  · cases q
  · cases h5
    obtain ⟨v1, v2, v3⟩ := vd_ok h6 (fmF s M)
    refine m_worth (r := fmF s M) (by omega) h1 h2 (by omega) (fun M' f Q' hF f1 f2 hQ => ?_) v1 v2 (fun M' hF => by rw [v3]; exact h M' hF)
    refine m_fact hs (by rw [PX_v hF]; exact hg) (PX_z hF hz) (by rw [hF.1 92 68 (by unfold PX; omega)]; exact ha) f1 f2 (by rw [PX_f hF]; exact hQ)
theorem vd_bit : ∀ j, j < 64 → ∀ k, k < 6 → ((nI j &&& nI (2 ^ k)) = 0 ↔ vdF (nI j) k = false) := by decide +kernel
def vOK (v : Int32) : Prop := ∃ j, j < 64 ∧ v = nI j
theorem vd_b {v : Int32} {k : Nat} (h : vOK v) (hk : k < 6) : ((v &&& nI (2 ^ k)) = 0) = (vdF v k = false) := by
  obtain ⟨j, hj, e⟩ := h
  rw [e]; exact propext (vd_bit j hj k hk)
theorem m_told {L : Lay} {s p k : Nat} {e : Option Ex} {v : Int32} {M : Mem} {Q : Int32 → Mem → Prop} (hs : s < 2) (hp : p < 26) (hk : k < 6) (h99 : mi M 99 s = nI p) (hv : mi M 103 s = v) (ho : vOK v) (hl : lineM M p k e)
    (h : Q (if (if vdF v k = true then none else e).isSome = true then 1 else 0) M) : w_X12_isTold L (nI s) (nI k) (nI (2 ^ k)) M Q := by
  unfold w_X12_isTold
  rw [tn_nI (n := s) (by omega), h99, ixm11, tn_nI (n := 11 * p + k) (by omega), hv]
  refine ⟨vp_in_nI hs (by decide), vp_in_nI (by omega) (by decide), fun c => ?_, fun c x hx => ?_⟩
  · rcases hl with ⟨q1, q2⟩ | ⟨a, n, y, h1, h2, h3, h4, -⟩
    · subst q2
      rw [if_neg (by split <;> decide)] at h; exact h
    · rw [h1] at c; exact absurd c (nI_pos (by omega))
  · rcases hl with ⟨q1, q2⟩ | ⟨a, n, y, h1, h2, h3, h4, h5, h6⟩
    · exact absurd q1 c
    · subst h5
      have hb := vd_b ho hk
      by_cases q : vdF v k = true
      · rw [if_pos q] at h
        rw [hx, if_neg (by rw [hb, q]; decide)]; exact h
      · have q' : vdF v k = false := by simpa using q
        rw [if_neg q] at h
        rw [hx, if_pos (by rw [hb]; exact q')]; exact h
theorem m_within {L : Lay} {T s p k : Nat} {x : Ex} {M : Mem} {Q : Int32 → Mem → Prop} (hs : s < 2) (hg : gdT T (vwM s M)) (hz : hzM s M) (ha : mi M 92 68 = -1 ∨ ∃ o, o < 10 ∧ mi M 92 68 = nI o) (hp : p < 26) (hk : k < 11) (hl : lineM M p k (some x))
    (h : ∀ M', FJ PX M M' → Q (liF (x (fmF s M))) M') : w_X12_worthWithin L (nI s) (nI p) (nI k) M Q := by
  unfold w_X12_worthWithin
  exact m_val hs hg hz ha hp hk hl (fun M' hF => h M' hF)
-- vended anew: the last step
theorem m_zero {L : Lay} {T s : Nat} {p1 : Int32} {M : Mem} {Q : Mem → Prop} (hs : s < 2) (hg : gdT T (vwM s M))
    (h : ∀ M', vwM s M' = (fun f i => if f = 108 ∧ i < tn (vwM s M 28 0) then 0 else vwM s M f i) → FJ (fun a k => a = 108 ∧ 10 * s ≤ k ∧ k < 10 * s + 10) M M' → Q M') : w_X12_begins_534 L (nI s) p1 M Q := by
  unfold w_X12_begins_534
  have hg' := hg
  obtain ⟨n1, n2, -⟩ := hg'
  generalize hS : vwM s M = S at *
  refine LP2_c0 0 (tn (S 28 0)) (fun i M' => vwM s M' = (fun f j => if f = 108 ∧ j < i then 0 else S f j) ∧ FJ (fun a k => a = 108 ∧ 10 * s ≤ k ∧ k < 10 * s + 10) M M') rfl (Nat.zero_le _) ⟨by rw [hS]; funext f j; rw [if_neg (by omega)], FJ.rf⟩ ?_
  intro i M1 hi _ ⟨hv, hF⟩ K hK
  have eo : ∀ f j, f ≠ 108 → vwM s M1 f j = S f j := fun f j c => by rw [hv]; exact if_neg (fun q => c q.1)
  unfold w_X12_begins_537
  rw [rM_28 (s := s), eo 28 0 (by decide)]
  refine ⟨fun hlt => ?_, fun hge => ?_⟩
  · rw [ltN n1 (by omega)] at hlt
    have hi10 : i < 10 := by omega
    rw [ixm10, tn_nI (by omega)]
    refine ⟨vp_in_nI (by omega) (by decide), fun M2 e2 x hx => ?_⟩
    rw [hx, nI_1]
    refine hK hlt M2 ⟨?_, by rw [e2]; exact hF.si (by omega)⟩
    rw [e2, sM_108 hi10, hv]
    funext f j
    show (if f = 108 ∧ j = i then 0 else if f = 108 ∧ j < i then 0 else S f j) = _
    by_cases c : f = 108
    · by_cases d : j = i
      · rw [if_pos ⟨c, d⟩, if_pos ⟨c, by omega⟩]
      · rw [if_neg (fun q => d q.2)]
        by_cases g : j < i
        · rw [if_pos ⟨c, g⟩, if_pos ⟨c, by omega⟩]
        · rw [if_neg (fun q => g q.2), if_neg (by omega)]
    · rw [if_neg (fun q => c q.1), if_neg (fun q => c q.1), if_neg (fun q => c q.1)]
  · rw [ltN n1 (by omega)] at hge
    have ei : i = tn (S 28 0) := by omega
    subst ei
    exact h M1 hv hF
-- how many have a weight
def czN (W : Nat → Nat) : Nat → Nat
  | 0 => 0
  | n + 1 => czN W n + if W n = 0 then 0 else 1
theorem parts_sum2 {W : Nat → Nat} {I s : Nat} (hs : 0 < s) : ∀ n, I * smN W n ≤ smN (fun k => I * W k / s) n * s + czN W n * (s - 1) := by
  intro n
  induction n with
  | zero => simp [smN]
  | succ n ih =>
    have h4 := Nat.lt_div_mul_add (a := I * W n) hs
    unfold smN czN
    rw [Nat.add_mul, Nat.mul_add, Nat.add_mul]
    by_cases q : W n = 0
    · rw [if_pos q, q, Nat.mul_zero, Nat.zero_div, Nat.zero_mul, Nat.zero_mul]; omega
    · rw [if_neg q, Nat.one_mul]; omega
theorem parts_left2 {W : Nat → Nat} {I n : Nat} (hs : 0 < smN W n) : I - smN (fun k => I * W k / smN W n) n ≤ czN W n := by
  have h2 := parts_sum2 (I := I) (W := W) hs n
  apply Nat.le_of_not_lt
  intro hlt
  generalize smN (fun k => I * W k / smN W n) n = B at *
  generalize smN W n = s at *
  have h5 : I * s ≤ (B + czN W n) * s := by
    rw [Nat.add_mul]
    have : czN W n * (s - 1) ≤ czN W n * s := Nat.mul_le_mul_left _ (Nat.sub_le _ _)
    omega
  have h6 : I ≤ B + czN W n := Nat.le_of_mul_le_mul_right h5 hs
  omega
-- claims that are still open
def cpF (cl : Nat → Int32) : Nat → Nat
  | 0 => 0
  | n + 1 => cpF cl n + if cl n < 0 then 0 else 1
theorem cpF_upd {cl : Nat → Int32} {j : Nat} : ∀ n, (j < n → cpF (upd cl j (-1)) n + (if cl j < 0 then 0 else 1) = cpF cl n) ∧ (n ≤ j → cpF (upd cl j (-1)) n = cpF cl n) := by
  intro n
  induction n with
  | zero => exact ⟨fun h => absurd h (by omega), fun _ => rfl⟩
  | succ n ih =>
    refine ⟨fun h => ?_, fun h => ?_⟩
    · unfold cpF
      by_cases q : j = n
      · subst q
        rw [ih.2 (Nat.le_refl _)]
        have : upd cl j (-1) j = -1 := pk_us
        rw [this, if_pos (show (-1 : Int32) < 0 by decide)]
        omega
      · have e : upd cl j (-1) n = cl n := pk_un (fun z => q z.symm)
        rw [e]
        have := ih.1 (by omega)
        omega
    · unfold cpF
      have e : upd cl j (-1) n = cl n := pk_un (by omega)
      rw [e, ih.2 (by omega)]
theorem ag_some {cl : Nat → Int32} : ∀ n, n < 2 ^ 31 → 0 < cpF cl n → ∃ j, j < n ∧ agF cl n = nI j ∧ ¬ cl j < 0 := by
  intro n
  induction n with
  | zero => intro _ h; exact absurd h (Nat.lt_irrefl 0)
  | succ n ih =>
    intro hn h
    unfold agF
    by_cases c : ¬ cl n < 0 ∧ (agF cl n = -1 ∨ cl (tn (agF cl n)) < cl n)
    · rw [if_pos c]; exact ⟨n, by omega, rfl, c.1⟩
    · rw [if_neg c]
      have hpos : 0 < cpF cl n := by
        apply Nat.pos_of_ne_zero
        intro hz
        unfold cpF at h
        rw [hz] at h
        by_cases q : cl n < 0
        · rw [if_pos q] at h; exact absurd h (by decide)
        · refine c ⟨q, Or.inl ?_⟩
          rcases ag_rng (cl := cl) n with a | ⟨j, hj, a⟩
          · exact a
          · exfalso
            -- an open claim below n
            have op : ∀ m, m ≤ n → ∀ j, agF cl m = nI j → j < m → 0 < cpF cl m := by
              intro m
              induction m with
              | zero => intro _ j _ hj; exact absurd hj (by omega)
              | succ m ihm =>
                intro hm j ha hj
                unfold cpF
                by_cases d : cl m < 0
                · unfold agF at ha
                  rw [if_neg (fun z => z.1 d)] at ha
                  rcases ag_rng (cl := cl) m with b | ⟨j2, hj2, b⟩
                  · rw [b] at ha
                    exact absurd ha.symm (by rw [nI_m1 (by omega)]; exact id)
                  · have := ihm (by omega) j2 b hj2; omega
                · rw [if_neg d]; omega
            have := op n (Nat.le_refl _) j a hj
            omega
      obtain ⟨j, h1, h2, h3⟩ := ih (by omega) hpos
      exact ⟨j, by omega, h2, h3⟩
