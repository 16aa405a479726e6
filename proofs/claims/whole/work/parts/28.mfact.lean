-- LEVEL 3, part 12: the reference's facts
def hzM (s : Nat) (M : Mem) : Prop := ∀ d, d ≤ 720 → BZ (mi M 119 (721 * s + d))
def fmF (s : Nat) (M : Mem) : Fx := if mi M 92 68 < 0 then (fun j => if j = 6 then mi M 92 69 else gfF (vwM s M) j) else owF (vwM s M) (tn (mi M 92 68)) (mi M 92 69)
theorem fmF_n {s : Nat} {M : Mem} (h : mi M 92 68 < 0) (j : Nat) : fmF s M j = if j = 6 then mi M 92 69 else gfF (vwM s M) j := by unfold fmF; rw [if_pos h]
theorem fmF_o {s : Nat} {M : Mem} (h : ¬ mi M 92 68 < 0) (j : Nat) : fmF s M j = owF (vwM s M) (tn (mi M 92 68)) (mi M 92 69) j := by unfold fmF; rw [if_neg h]
theorem fm_all {s : Nat} {M : Mem} {j : Nat} (h : 7 ≤ j) : fmF s M j = gfF (vwM s M) j := by
  by_cases q : mi M 92 68 < 0
  · rw [fmF_n q, if_neg (by omega)]
  · rw [fmF_o q]
    match j, h with
    | j + 7, _ => rfl
theorem vw117 {s o t : Nat} {M : Mem} (ht : mi M 93 s = nI t) (ht2 : t ≤ 720) (ho : o < 10) : vwM s M 117 o = if t / 30 = 0 then 0 else mi M 117 (240 * s + 10 * (t / 30 - 1) + o) := by
  rw [vwM_def, if_neg (c := 117 = 109) (by decide), if_pos (c := 117 = 117) rfl, ht, tn_nI (by omega)]
  by_cases q : t / 30 = 0
  · rw [if_pos q, if_neg (fun z => z.2 q)]
  · rw [if_neg q, if_pos ⟨ho, q⟩]
theorem vw118 {s o t : Nat} {M : Mem} (ht : mi M 93 s = nI t) (ht2 : t ≤ 720) (ho : o < 10) : vwM s M 118 o = if t / 30 = 0 then 0 else jmax 0 (mi M 118 (240 * s + 10 * (t / 30 - 1) + o)) := by
  rw [vwM_def, if_neg (c := 118 = 109) (by decide), if_neg (c := 118 = 117) (by decide), if_pos (c := 118 = 118) rfl, ht, tn_nI (by omega)]
  by_cases q : t / 30 = 0
  · rw [if_pos q, if_neg (fun z => z.2 q)]
  · rw [if_neg q, if_pos ⟨ho, q⟩]
theorem vw119 {s t : Nat} {M : Mem} (ht : mi M 93 s = nI t) (ht2 : t ≤ 720) : vwM s M 119 0 = hbF (fun d => mi M 119 (721 * s + d)) t := by
  rw [vwM_def, if_neg (c := 119 = 109) (by decide), if_neg (c := 119 = 117) (by decide), if_neg (c := 119 = 118) (by decide), if_pos (c := 119 = 119) rfl, if_pos (c := 0 = 0) rfl, ht, tn_nI (by omega)]
theorem m_fact {L : Lay} {T s f : Nat} {M : Mem} {Q : Int32 → Mem → Prop} (hs : s < 2) (hg : gdT T (vwM s M)) (hz : hzM s M) (ha : mi M 92 68 = -1 ∨ ∃ o, o < 10 ∧ mi M 92 68 = nI o) (f1 : 1 ≤ f) (f2 : f ≤ 14) (h : Q (fmF s M (f - 1)) M) : w_X12_fact L (nI s) (nI f) M Q := by
  have hg' := hg
  obtain ⟨n1, n2, n3, n4, n5, n6, -⟩ := hg'
  have t93 : mi M 93 s = nI (tn (vwM s M 93 0)) := by rw [rM_93]; exact n5
  unfold w_X12_fact
  rw [tn_nI (n := s) (by omega), t93]
  generalize hS : vwM s M = S at *
  generalize ht : tn (S 93 0) = t at *
  refine ⟨vp_in_nI hs (by decide), fun x2 hx2 x3 hx3 x4 hx4 => ?_⟩
  have ex2 : x2 = nI (t / 30) := by rw [hx2, show (30 : Int32) = nI 30 from rfl, pk_div (by omega) (by omega) (by omega)]
  subst ex2
  have asks : (x3 = 0 ∧ mi M 92 68 < 0) ∨ (x3 = 1 ∧ ∃ o, o < 10 ∧ mi M 92 68 = nI o) := by
    rcases ha with q | ⟨o, ho, q⟩
    · left; rw [hx3, q, if_pos (by decide)]; exact ⟨rfl, by decide⟩
    · right; rw [hx3, q, if_neg (nI_pos (by omega))]; exact ⟨rfl, o, ho, rfl⟩
  have ne : ∀ k, k < 2 ^ 31 → ¬ f = k → ¬ nI f = nI k := fun k hk hne q => hne ((nI_eq (by omega) hk).mp q)
  have own : ∀ (g : Nat → Int32), (∀ o, o < 10 → owF S o (mi M 92 69) (f - 1) = g o) → f ≤ 6 → ((x3 = 0 → Q 0 M) ∧ (∀ o, o < 10 → mi M 92 68 = nI o → x3 = 1 → Q (g o) M)) := fun g hgo hf6 => by
    refine ⟨fun c => ?_, fun o ho e c => ?_⟩
    · rcases asks with ⟨q1, q2⟩ | ⟨q1, -⟩
      · rw [fmF_n q2, if_neg (by omega), gfF_0 (Or.inl (by omega))] at h; exact h
      · exact absurd (q1.symm.trans c) (by decide)
    · rw [fmF_o (by rw [e]; exact nI_pos (by omega)), hS, e, tn_nI (by omega), hgo o ho] at h; exact h
  have two : ∀ (A : Prop), ((x3 = 0 → Q 0 M) ∧ (∀ o, o < 10 → mi M 92 68 = nI o → x3 = 1 → A)) → ((x3 = 0 → Q 0 M) ∧ (¬ x3 = 0 → A)) := fun A hA => by
    refine ⟨hA.1, fun c => ?_⟩
    rcases asks with ⟨q1, q2⟩ | ⟨q1, o, ho, q2⟩
    · exact absurd q1 c
    · exact hA.2 o ho q2 q1
  refine ⟨fun c => ?_, fun c1 => ?_⟩
  · have e : f = 1 := (nI_eq (by omega) (by omega)).mp c
    subst e
    have := own (fun o => S 121 o) (fun o _ => rfl) (by decide)
    refine two _ ⟨this.1, fun o ho e q => ?_⟩
    rw [e, tn_nI (by omega), rM_121 (s := s) ho, hS]
    exact ⟨vp_in_nI ho (by decide), this.2 o ho e q⟩
  refine ⟨fun c => ?_, fun c2 => ?_⟩
  · have e : f = 2 := (nI_eq (by omega) (by omega)).mp c
    subst e
    have := own (fun o => S 120 o) (fun o _ => rfl) (by decide)
    refine two _ ⟨this.1, fun o ho e q => ?_⟩
    rw [e, tn_nI (by omega), rM_120 (s := s) ho, hS]
    exact ⟨vp_in_nI ho (by decide), this.2 o ho e q⟩
  refine ⟨fun c => ?_, fun c3 => ?_⟩
  · have e : f = 3 := (nI_eq (by omega) (by omega)).mp c
    subst e
    have := own (fun o => S 122 o) (fun o _ => rfl) (by decide)
    refine two _ ⟨this.1, fun o ho e q => ?_⟩
    rw [e, tn_nI (by omega), rM_122 (s := s) ho, hS]
    exact ⟨vp_in_nI ho (by decide), this.2 o ho e q⟩
  refine ⟨fun c => ?_, fun c4 => ?_⟩
  · have e : f = 4 := (nI_eq (by omega) (by omega)).mp c
    subst e
    have := own (fun o => S 107 o) (fun o _ => rfl) (by decide)
    refine two _ ⟨this.1, fun o ho e q => ?_⟩
    rw [e, ixm10, tn_nI (by omega), rM_107 ho, hS]
    exact ⟨vp_in_nI (by omega) (by decide), this.2 o ho e q⟩
  have e4 : ∀ o, o < 10 → mi M 92 68 = nI o → 0 < t / 30 → x4 = nI (240 * s + 10 * (t / 30 - 1) + o) := fun o ho e hp => by
    rw [hx4, e, show (1 : Int32) = nI 1 from rfl, pk_sub (by omega), show (240 : Int32) = nI 240 from rfl, show (10 : Int32) = nI 10 from rfl, pk_mul, pk_mul, nI_add, nI_add]
  refine ⟨fun c => ?_, fun c5 => ?_⟩
  · have e : f = 5 := (nI_eq (by omega) (by omega)).mp c
    subst e
    have := own (fun o => S 117 o) (fun o _ => rfl) (by decide)
    refine two _ ⟨this.1, fun o ho e q => ?_⟩
    have hv := vw117 (o := o) t93 (by omega) ho
    rw [hS] at hv
    have hq := this.2 o ho e q
    rw [hv] at hq
    refine ⟨fun z => ?_, fun z => ?_⟩
    · rw [nI_0lt (by omega)] at z
      rw [if_neg (by omega)] at hq
      rw [e4 o ho e z, tn_nI (by omega)]
      exact ⟨vp_in_nI (by omega) (by decide), hq⟩
    · rw [nI_0lt (by omega)] at z
      rw [if_pos (by omega)] at hq; exact hq
  refine ⟨fun c => ?_, fun c6 => ?_⟩
  · have e : f = 6 := (nI_eq (by omega) (by omega)).mp c
    subst e
    have := own (fun o => S 118 o) (fun o _ => rfl) (by decide)
    refine two _ ⟨this.1, fun o ho e q => ?_⟩
    have hv := vw118 (o := o) t93 (by omega) ho
    rw [hS] at hv
    have hq := this.2 o ho e q
    rw [hv] at hq
    refine ⟨fun z => ?_, fun z => ?_⟩
    · rw [nI_0lt (by omega)] at z
      rw [if_neg (by omega)] at hq
      rw [e4 o ho e z, tn_nI (by omega)]
      exact ⟨vp_in_nI (by omega) (by decide), hq⟩
    · rw [nI_0lt (by omega)] at z
      rw [if_pos (by omega)] at hq; exact hq
  refine ⟨fun c => ?_, fun c7 => ?_⟩
  · have e : f = 7 := (nI_eq (by omega) (by omega)).mp c
    subst e
    have : fmF s M (7 - 1) = mi M 92 69 := by
      by_cases q : mi M 92 68 < 0
      · rw [fmF_n q]; rfl
      · rw [fmF_o q]; rfl
    rw [this] at h; exact h
  have big : 7 ≤ f - 1 → Q (gfF S (f - 1)) M := fun hf => by rw [fm_all hf, hS] at h; exact h
  refine ⟨fun c => ?_, fun c8 => ?_⟩
  · have e : f = 8 := (nI_eq (by omega) (by omega)).mp c
    subst e
    exact m_price hs (by rw [hS]; exact big (by decide))
  refine ⟨fun c => ?_, fun c9 => ?_⟩
  · have e : f = 9 := (nI_eq (by omega) (by omega)).mp c
    subst e
    rw [rM_96, hS]; exact big (by decide)
  refine ⟨fun c => ?_, fun c10 => ?_⟩
  · have e : f = 10 := (nI_eq (by omega) (by omega)).mp c
    subst e
    rw [rM_97, hS]; exact big (by decide)
  refine ⟨fun c => ?_, fun c11 => ?_⟩
  · have e : f = 11 := (nI_eq (by omega) (by omega)).mp c
    subst e
    refine LP3_c1 0 (tn (S 34 0)) (fun i (v6 : Int32) M' => M' = M ∧ v6 = nI (cnF (fun k => decide (S 112 k = 0)) i)) rfl (Nat.zero_le _) ⟨rfl, rfl⟩ ?_
    intro i v6 M' hi _ ⟨em, ev⟩ K hK
    subst em ev
    unfold w_X12_fact_271
    rw [rM_34 (s := s), hS]
    refine ⟨fun hlt => ?_, fun hge => ?_⟩
    · rw [ltN n3 (by omega)] at hlt
      rw [ixm8, tn_nI (n := 8 * s + i) (by omega), rM_112 (by omega), hS]
      refine ⟨vp_in_nI (by omega) (by decide), fun q x hx y hy => ?_, fun q y hy => ?_⟩
      · rw [hy, nI_1]
        refine hK hlt x M' ⟨rfl, ?_⟩
        rw [hx]; conv => rhs; unfold cnF
        rw [if_pos (by simp [q]), nI_succ]
      · rw [hy, nI_1]
        refine hK hlt _ M' ⟨rfl, ?_⟩
        conv => rhs; unfold cnF
        rw [if_neg (by simp [q]), Nat.add_zero]
    · rw [ltN n3 (by omega)] at hge
      have ei : i = tn (S 34 0) := by omega
      subst ei
      exact big (by decide)
  refine ⟨fun c => ?_, fun c12 => ?_⟩
  · have e : f = 12 := (nI_eq (by omega) (by omega)).mp c
    subst e
    intro x hx
    -- the hungry days, from the first of thirty
    let g : Nat → Nat := fun d => if mi M 119 (721 * s + d) = 0 then 0 else 1
    have hgd : ∀ d, 1 ≤ d → d ≤ t → mi M 119 (721 * s + d) = nI (g d) ∧ g d < 2 := fun d _ h2 => by
      show _ = nI (if mi M 119 (721 * s + d) = 0 then 0 else 1) ∧ (if mi M 119 (721 * s + d) = 0 then 0 else 1) < 2
      rcases hz d (by omega) with q | q
      · rw [if_pos q, q]; exact ⟨rfl, by decide⟩
      · rw [if_neg (by rw [q]; decide), q]; exact ⟨rfl, by decide⟩
    have hall := hb_all (f := fun d => mi M 119 (721 * s + d)) (g := g) (t := t) hgd
    have hv := vw119 (s := s) t93 (by omega)
    rw [hS] at hv
    have hb := big (by decide)
    have e11 : gfF S (12 - 1) = bcF (S 119 0) := rfl
    rw [e11, hv, hall] at hb
    have ex : x = nI (max 1 (t - 29)) := by
      rw [hx]; unfold jmax
      by_cases q : t < 31
      · have : ¬ (1 : Int32) < nI t - 29 := by
          have h5 : (nI t - 29).toInt = (t : Int) - 29 := pk_sub_toInt (a := t) (b := 29) (by omega) (by decide)
          rw [Int32.lt_iff_toInt_lt, h5]
          have : (1 : Int32).toInt = 1 := rfl
          omega
        rw [if_neg this, Nat.max_eq_left (by omega)]; rfl
      · have e29 : nI t - 29 = nI (t - 29) := by rw [show (29 : Int32) = nI 29 from rfl, pk_sub (by omega)]
        rw [e29, if_pos (by rw [show (1 : Int32) = nI 1 from rfl, nI_lt' (by omega) (by omega)]; omega), Nat.max_eq_right (by omega)]
    have hmono : ∀ a b, a ≤ b → smN g a ≤ smN g b := by
      intro a b hab
      induction b with
      | zero => have : a = 0 := by omega
                subst this; exact Nat.le_refl _
      | succ b ih =>
        by_cases q : a = b + 1
        · rw [q]; exact Nat.le_refl _
        · exact Nat.le_trans (ih (by omega)) (Nat.le_add_right _ _)
    refine LP3_c1 (max 1 (t - 29)) (t + 1) (fun i (v6 : Int32) M' => M' = M ∧ v6 = nI (smN g i - smN g (max 1 (t - 29)))) ex (by omega) ⟨rfl, by rw [Nat.sub_self]; rfl⟩ ?_
    intro i v6 M' hi hi0 ⟨em, ev⟩ K hK
    subst em ev
    have hlow := hmono _ _ hi0
    unfold w_X12_fact_325
    rw [tn_nI (n := s) (by omega), t93]
    refine ⟨vp_in_nI hs (by decide), fun hgt => ?_, fun hle => ?_⟩
    · rw [nI_lt' (by omega) (by omega)] at hgt
      have ei : i = t + 1 := by omega
      subst ei
      exact hb
    · rw [nI_lt' (by omega) (by omega)] at hle
      rw [ixm721, tn_nI (n := 721 * s + i) (by omega)]
      refine ⟨vp_in_nI (by omega) (by decide), fun q y hy => ?_, fun q x hx y hy => ?_⟩
      · rw [hy, nI_1]
        refine hK (by omega) _ M' ⟨rfl, ?_⟩
        have : smN g (i + 1) = smN g i := by show smN g i + (if mi M' 119 (721 * s + i) = 0 then 0 else 1) = _; rw [if_pos q, Nat.add_zero]
        rw [this]
      · rw [hy, nI_1]
        refine hK (by omega) _ M' ⟨rfl, ?_⟩
        have : smN g (i + 1) = smN g i + 1 := by show smN g i + (if mi M' 119 (721 * s + i) = 0 then 0 else 1) = _; rw [if_neg q]
        rw [this, hx, nI_1]
        exact congrArg nI (by omega)
  refine ⟨fun c => ?_, fun c13 => ?_⟩
  · have e : f = 13 := (nI_eq (by omega) (by omega)).mp c
    subst e
    have hb := big (by decide)
    have e12 : gfF S (13 - 1) = S 93 0 / 30 := rfl
    rw [e12, n5, show (30 : Int32) = nI 30 from rfl, pk_div (by omega) (by omega) (by omega)] at hb
    exact hb
  have e : f = 14 := by
    rcases (show f = 1 ∨ f = 2 ∨ f = 3 ∨ f = 4 ∨ f = 5 ∨ f = 6 ∨ f = 7 ∨ f = 8 ∨ f = 9 ∨ f = 10 ∨ f = 11 ∨ f = 12 ∨ f = 13 ∨ f = 14 by omega) with q | q | q | q | q | q | q | q | q | q | q | q | q | q
    · subst q; exact absurd rfl c1
    · subst q; exact absurd rfl c2
    · subst q; exact absurd rfl c3
    · subst q; exact absurd rfl c4
    · subst q; exact absurd rfl c5
    · subst q; exact absurd rfl c6
    · subst q; exact absurd rfl c7
    · subst q; exact absurd rfl c8
    · subst q; exact absurd rfl c9
    · subst q; exact absurd rfl c10
    · subst q; exact absurd rfl c11
    · subst q; exact absurd rfl c12
    · subst q; exact absurd rfl c13
    · exact q
  subst e
  refine LP3_c1 0 (tn (S 28 0)) (fun i (v6 : Int32) M' => M' = M ∧ v6 = nI (cnF (fun o => !decide (S 111 o = 0)) i)) rfl (Nat.zero_le _) ⟨rfl, rfl⟩ ?_
  intro i v6 M' hi _ ⟨em, ev⟩ K hK
  subst em ev
  unfold w_X12_fact_372
  rw [rM_28 (s := s), hS]
  refine ⟨fun hlt => ?_, fun hge => ?_⟩
  · rw [ltN n1 (by omega)] at hlt
    rw [ixm10, tn_nI (n := 10 * s + i) (by omega), rM_111 (by omega), hS]
    refine ⟨vp_in_nI (by omega) (by decide), fun q y hy => ?_, fun q x hx y hy => ?_⟩
    · rw [hy, nI_1]
      refine hK hlt _ M' ⟨rfl, ?_⟩
      conv => rhs; unfold cnF
      rw [if_neg (by simp [q]), Nat.add_zero]
    · rw [hy, nI_1]
      refine hK hlt _ M' ⟨rfl, ?_⟩
      rw [hx]; conv => rhs; unfold cnF
      rw [if_pos (by simp [q]), nI_succ]
  · rw [ltN n1 (by omega)] at hge
    have ei : i = tn (S 28 0) := by omega
    subst ei
    exact big (by decide)
