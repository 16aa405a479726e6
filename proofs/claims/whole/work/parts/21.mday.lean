-- LEVEL 3, part 4: a day of the reference (world s, behind the month's beginning)
theorem m_price {L : Lay} {s : Nat} {q : Int32} {M : Mem} {Q : Int32 → Mem → Prop} (hs : s < 2) (h : Q (prF (vwM s M) q) M) : w_X12_priceAt L (nI s) q M Q := by
  unfold w_X12_priceAt w_X12_priceAt_43
  rw [tn_nI (by omega), rM_96 (s := s), rM_97 (s := s), rM_98 (s := s)]
  refine ⟨vp_in_nI hs (by decide), fun x hx => ?_⟩
  subst hx
  unfold prF at h
  refine ⟨fun h0 => ⟨vp_in_nI hs (by decide), ?_⟩, fun h0 => ⟨h0, vp_in_nI hs (by decide), ?_⟩⟩
  · rw [if_pos h0] at h; exact h
  · rw [if_neg h0] at h; exact h
theorem m_room {L : Lay} {s k : Nat} {M : Mem} {Q : Int32 → Mem → Prop} (hs : s < 2) (hk : k < 8) (h : Q (if roF (vwM s M) k then 1 else 0) M) : w_X12_hasRoom L (nI s) (nI k) M Q := by
  unfold w_X12_hasRoom
  rw [ixm8, tn_nI (by omega), tn_nI (by omega), rM_125 (s := s) hk, rM_113 hk]
  refine ⟨vp_in_nI (by omega) (by decide), vp_in_nI hk (by decide), fun x hx => ?_⟩
  have : x = if roF (vwM s M) k then 1 else 0 := by
    rw [hx]; unfold roF
    by_cases q : vwM s M 125 k < 8 * vwM s M 113 k + 8
    · rw [if_pos q, decide_eq_true q]; rfl
    · rw [if_neg q, decide_eq_false q]; rfl
  rw [this]; exact h
theorem m_stop {L : Lay} {s o : Nat} {M : Mem} {Q : Int32 → Mem → Prop} (hs : s < 2) (ho : o < 10) (h : Q (if stF (vwM s M) (!decide (mi M 99 s < 0)) o then 1 else 0) M) : w_X12_isStopped L (nI s) (nI o) M Q := by
  unfold w_X12_isStopped
  rw [tn_nI (by omega), ixm10, tn_nI (by omega)]
  refine ⟨vp_in_nI hs (by decide), fun h0 => ?_, fun h0 => ⟨vp_in_nI (by omega) (by decide), ?_⟩⟩
  · unfold stF at h
    rw [decide_eq_true h0] at h
    exact h
  · rw [rM_111 ho, rM_108 ho, rM_109 ho h0]
    unfold stF at h
    rw [decide_eq_false h0] at h
    refine ⟨fun h1 x hx => ?_, fun h1 => ?_⟩
    · rw [decide_eq_true h1] at h
      rw [hx]
      by_cases q : vwM s M 109 o < vwM s M 108 o + 8
      · rw [if_pos q]; rw [decide_eq_true q] at h; exact h
      · rw [if_neg q]; rw [decide_eq_false q] at h; exact h
    · rw [decide_eq_false h1] at h; exact h
theorem m_next {L : Lay} {T s k : Nat} {M : Mem} {Q : Int32 → Mem → Prop} (hs : s < 2) (hk : k < 8) (hg : gdT T (vwM s M)) (held : Bool) (hh : held = !decide (mi M 99 s < 0)) (h : Q (ofF (vwM s M) held (vwM s M 126 k)) M) : w_X12_ownerFor L (nI s) (nI k) M Q := by
  unfold w_X12_ownerFor
  have hg' := hg
  obtain ⟨h1, h2, -, -, -, -, -, -, h3, h4, -, -⟩ := hg'
  refine LP2_c0 0 (tn (vwM s M 28 0)) (fun r M' => M' = M ∧ ofF (vwM s M) held (vwM s M 126 k) = ofG (vwM s M) held (vwM s M 126 k) (tn (vwM s M 28 0) - r) r) rfl (Nat.zero_le _) ⟨rfl, rfl⟩ ?_
  intro r M' hr _ ⟨e, hp⟩ K hK
  subst e
  unfold w_X12_ownerFor_2
  rw [rM_28 (s := s), tn_nI (n := s) (by omega), rM_95 (s := s)]
  refine ⟨fun hlt => ?_, fun hge => ?_⟩
  · rw [h1, nI_lt' (by omega) (by omega)] at hlt
    have hn0 : ¬ vwM s M' 28 0 = 0 := by rw [h1]; exact nI_ne0 (by omega) (by omega)
    refine ⟨vp_in_nI hs (by decide), hn0, fun x hx => ?_⟩
    have e : x = nI ((tn (vwM s M' 95 0) + r) % tn (vwM s M' 28 0)) := by
      rw [hx]
      generalize tn (vwM s M' 95 0) = t at *
      generalize tn (vwM s M' 28 0) = n at *
      rw [h3, h1, nI_add]; exact jrem_nI (by omega) (by omega) (by omega)
    have hlt2 : (tn (vwM s M' 95 0) + r) % tn (vwM s M' 28 0) < tn (vwM s M' 28 0) := Nat.mod_lt _ (by omega)
    rw [show tn (vwM s M' 28 0) - r = (tn (vwM s M' 28 0) - (r + 1)) + 1 from by omega] at hp
    unfold ofG at hp
    rw [← hx, e] at hp
    rw [e]
    generalize hq : (tn (vwM s M' 95 0) + r) % tn (vwM s M' 28 0) = o at *
    rw [tn_nI (by omega)] at hp ⊢
    have ho : o < 10 := by omega
    have goOn : okF (vwM s M') held (vwM s M' 126 k) o = false → ∀ x : Int32, x = nI r + 1 → K x M' := fun hf x hx => by
      rw [hf] at hp
      rw [hx, nI_1]
      exact hK hlt M' ⟨rfl, hp⟩
    have stop : okF (vwM s M') held (vwM s M' 126 k) o = true → Q (nI o) M' := fun hf => by
      rw [hf] at hp
      rw [hp] at h
      exact h
    rw [tn_nI (n := k) (by omega), rM_120 (s := s) ho, rM_126 (s := s) hk, ixm10, tn_nI (by omega), rM_107 ho]
    refine ⟨vp_in_nI ho (by decide), vp_in_nI hk (by decide), fun q => goOn (by unfold okF; simp [q]), fun q => ⟨vp_in_nI (by omega) (by decide), fun q2 => goOn (by unfold okF; simp [q2]), fun q2 => ?_⟩⟩
    refine m_stop hs ho ?_
    rw [← hh]
    by_cases hst : stF (vwM s M') held o = true
    · rw [if_pos hst]
      exact ⟨fun q3 => absurd q3 (by decide), fun _ => goOn (by unfold okF; simp [hst])⟩
    · rw [if_neg hst]
      exact ⟨fun _ => stop (by unfold okF; simp [hst, q, q2]), fun q3 => absurd rfl q3⟩
  · rw [h1, nI_lt' (by omega) (by omega)] at hge
    rw [show tn (vwM s M' 28 0) - r = 0 from by omega] at hp
    rw [hp] at h; exact h
-- one load
theorem m_loads {L : Lay} {T s : Nat} {M : Mem} {Q : Int32 → Mem → Prop} (hs : s < 2) (hg : gdT T (vwM s M)) (held : Bool) (hh : held = !decide (mi M 99 s < 0))
    (h0 : (pkG (vwM s M) held (tn (vwM s M 34 0))).1 < 0 → Q 0 M)
    (h1 : ∀ M' b o, b < 8 → roF (vwM s M) b = true → o < tn (vwM s M 28 0) → pkG (vwM s M) held (tn (vwM s M 34 0)) = (nI b, nI o) → vwM s M' = ldU (vwM s M) (nI b) (nI o) → FJ (PD s) M M' → Q 1 M') : w_X12_loads L (nI s) M Q := by
  unfold w_X12_loads
  have hg' := hg
  obtain ⟨n1, n2, n3, n4, -, -, -, -, -, -, n5, -⟩ := hg'
  refine LP4_c2 0 (tn (vwM s M 34 0)) (fun k (u v : Int32) M' => M' = M ∧ (u, v) = pkG (vwM s M) held k) rfl (Nat.zero_le _) ⟨rfl, rfl⟩ ?_
  intro k u v M' hk _ ⟨e, hp⟩ K hK
  subst e
  unfold w_X12_loads_7
  rw [rM_34 (s := s), n3]
  have spec := pk_spec (S := vwM s M') (held := held) k (by omega)
  refine ⟨fun hlt => ?_, fun hge => ?_⟩
  · rw [nI_lt' (by omega) (by omega)] at hlt
    have hk8 : k < 8 := by omega
    have next : ∀ x : Int32, x = nI k + 1 → ∀ u' v', (u', v') = pkG (vwM s M') held (k + 1) → K u' v' x M' := fun x hx u' v' e => by
      rw [hx, nI_1]; exact hK hlt u' v' M' ⟨rfl, e⟩
    have skip : (¬ vwM s M' 112 k = 0 ∨ roF (vwM s M') k = false ∨ (¬ (pkG (vwM s M') held k).1 < 0 ∧ ¬ vwM s M' 115 k < vwM s M' 115 (tn (pkG (vwM s M') held k).1)) ∨ ofF (vwM s M') held (vwM s M' 126 k) < 0) → (u, v) = pkG (vwM s M') held (k + 1) := fun q => by
      rw [hp]; conv => rhs; unfold pkG
      rw [if_pos q]
    rw [ixm8, tn_nI (by omega), rM_112 hk8]
    refine ⟨vp_in_nI (by omega) (by decide), fun h2 => ?_, fun h2 x hx => next x hx u v (skip (Or.inl h2))⟩
    refine m_room hs hk8 ?_
    by_cases hr : roF (vwM s M') k = true
    · rw [if_pos hr]
      refine ⟨fun q => absurd q (by decide), fun _ => ?_⟩
      have take : (¬ (¬ (pkG (vwM s M') held k).1 < 0 ∧ ¬ vwM s M' 115 k < vwM s M' 115 (tn (pkG (vwM s M') held k).1))) → w_X12_loads_74 L (nI s) K u v (nI k) M' Q := fun hb => by
        unfold w_X12_loads_74
        refine m_next hs hk8 hg held hh ?_
        refine ⟨fun q x hx => next x hx u v (skip (Or.inr (Or.inr (Or.inr q)))), fun q x hx => next x hx _ _ ?_⟩
        conv => rhs; unfold pkG
        rw [if_neg]
        rintro (z | z | z | z)
        · exact z h2
        · rw [hr] at z; exact absurd z (by decide)
        · exact hb z
        · exact q z
      have eu : u = (pkG (vwM s M') held k).1 := by rw [← hp]
      refine ⟨fun q => take (fun z => z.1 (by rw [← eu]; exact q)), fun q => ?_⟩
      rcases spec with ⟨s1, s2⟩ | ⟨b, hb, s1, s2, s3⟩
      · rw [s1] at eu; rw [eu] at q; exact absurd (by decide) q
      · rw [s1] at eu
        subst eu
        rw [ixm8, tn_nI (by omega), rM_115 (show b < 8 by omega), rM_115 hk8]
        refine ⟨vp_in_nI (by omega) (by decide), fun z => take (fun y => y.2 (by rw [s1]; show _ < vwM s M' 115 (tn (nI b)); rw [tn_nI (by omega)]; exact z)), fun z x hx => next x hx _ _ (skip (Or.inr (Or.inr (Or.inl ⟨by rw [s1]; exact nI_pos (by omega), by rw [s1]; show ¬ _ < vwM s M' 115 (tn (nI b)); rw [tn_nI (by omega)]; exact z⟩))))⟩
    · rw [if_neg hr]
      exact ⟨fun _ x hx => next x hx u v (skip (Or.inr (Or.inl (by simpa using hr)))), fun q => absurd rfl q⟩
  · rw [nI_lt' (by omega) (by omega)] at hge
    have ek : k = tn (vwM s M' 34 0) := by omega
    subst ek
    have eu : u = (pkG (vwM s M') held (tn (vwM s M' 34 0))).1 := by rw [← hp]
    have ev : v = (pkG (vwM s M') held (tn (vwM s M' 34 0))).2 := by rw [← hp]
    refine ⟨fun q => h0 (by rw [← eu]; exact q), fun q => ?_⟩
    rcases spec with ⟨s1, s2⟩ | ⟨b, hb, s1, s2, s3⟩
    · rw [s1] at eu; rw [eu] at q; exact absurd (by decide) q
    · have hb8 : b < 8 := by omega
      rcases of_rng0 hg (held := held) (ls := vwM s M' 126 b) with e | ⟨o, ho, e, hok⟩
      · have := s2.2.2; rw [e] at this; exact absurd (by decide) this
      have ho10 : o < 10 := by omega
      rw [s1] at eu ev
      have ev : v = nI o := ev.trans e
      have eu : u = nI b := eu
      subst eu ev
      have hr := s2.2.1
      have hsb := n5 b hb8
      rw [roF_iff hsb, decide_eq_true_iff] at hr
      obtain ⟨t1, t2, t3, t4, -⟩ := hsb
      rw [ixm8, tn_nI (by omega), rM_113 hb8]
      have hl : tn (vwM s M' 113 b) < 12 := by omega
      have e12 : ((96 : Int32) * nI s + (12 : Int32) * nI b + vwM s M' 113 b) = nI (96 * s + (12 * b + tn (vwM s M' 113 b))) := by
        rw [t1, show (96 : Int32) = nI 96 from rfl, show (12 : Int32) = nI 12 from rfl, pk_mul, pk_mul, nI_add, nI_add, tn_nI (by omega), Nat.add_assoc]
      rw [e12, tn_nI (by omega)]
      refine ⟨vp_in_nI (by omega) (by decide), vp_in_nI (by omega) (by decide), fun M5 e5 M6 e6 => ?_⟩
      rw [ixm10, tn_nI (by omega)]
      have v5 : vwM s M5 = u2 (vwM s M') 116 (12 * b + tn (vwM s M' 113 b)) (nI o) := by rw [e5]; exact sM_116 (by omega)
      have v6 : vwM s M6 = u2 (vwM s M5) 113 b (vwM s M' 113 b + 1) := by
        rw [e6, sM_113 hb8, rM_113 hb8, v5, u2_f (g := 113) (by decide)]
      refine ⟨vp_in_nI (by omega) (by decide), fun M8 e8 M9 e9 x ex => ?_⟩
      have v8 : vwM s M8 = u2 (vwM s M6) 107 o (vwM s M' 107 o - 8) := by
        rw [e8, sM_107 ho10, rM_107 ho10, v6, v5, u2_f (g := 107) (by decide), u2_f (g := 107) (by decide)]
      have v9 : vwM s M9 = u2 (vwM s M8) 108 o (vwM s M' 108 o + 8) := by
        rw [e9, sM_108 ho10, rM_108 ho10, v8, v6, v5, u2_f (g := 108) (by decide), u2_f (g := 108) (by decide), u2_f (g := 108) (by decide)]
      refine ⟨vp_in_nI hs (by decide), fun M12 e12' => ?_⟩
      rw [tn_nI (by omega)] at e12'
      have x28 : mi M9 92 28 = vwM s M' 28 0 := by rw [rM_28 (s := s), v9, v8, v6, v5, u2_f (by decide), u2_f (by decide), u2_f (by decide), u2_f (by decide)]
      refine h1 M12 b o hb8 s2.2.1 ho (by rw [s1, e]) ?_ ?_
      · rw [e12', sM_95, v9, v8, v6, v5, ex, x28]
        unfold ldU
        rw [tn_nI (by omega), tn_nI (by omega)]
      · rw [e12', e9, e8, e6, e5]
        refine ((((FJ.rf.si ?_).si ?_).si ?_).si ?_).si ?_ <;> unfold PD <;> omega
theorem m_sells {L : Lay} {T s k : Nat} {M : Mem} {Q : Mem → Prop} (hs : s < 2) (hk : k < 8) (hg : gdT T (vwM s M))
    (h : ∀ M', vwM s M' = slF (vwM s M) k (mi M 104 s) → FJ (PD s) M M' → Q M') : w_X12_sells L (nI s) (nI k) M Q := by
  unfold w_X12_sells
  rw [tn_nI (by omega), rM_96]
  refine ⟨vp_in_nI hs (by decide), fun x ex => ?_⟩
  have hg' := hg
  obtain ⟨-, n1, -, -, -, -, -, -, -, -, n5, -⟩ := hg'
  obtain ⟨s1, s2, s3, s4, -, -, s7⟩ := n5 k hk
  generalize hS : vwM s M = S at *
  refine LP3_c1 0 (tn (S 113 k)) (fun i (u : Int32) M' => u = x ∧ vwM s M' = u2 (slG S k (mi M 104 s) i) 105 0 (S 105 0 + nI i) ∧ FJ (PD s) M M') rfl (Nat.zero_le _) ⟨rfl, ?_, FJ.rf⟩ ?_
  · rw [hS, nI_0, Int32.add_zero]; exact u2_self.symm
  intro i u M1 hi _ ⟨eu, hv, hF⟩ K hK
  subst eu
  unfold w_X12_sells_10
  have eo : ∀ f j, f ≠ 110 → f ≠ 105 → vwM s M1 f j = S f j := fun f j a b => by rw [hv, u2_f b, slG_f a]
  have e113 : vwM s M1 113 k = nI (tn (S 113 k)) := by rw [eo 113 k (by decide) (by decide), ← s1]
  rw [ixm8, tn_nI (n := 8 * s + k) (by omega), rM_113 hk, e113]
  refine ⟨vp_in_nI (by omega) (by decide), fun hlt => ?_, fun hge => ?_⟩
  · rw [nI_lt' (by omega) (by omega)] at hlt
    obtain ⟨c1, c2⟩ := s7 i hlt
    have hi12 : i < 12 := by omega
    have e12 : ((96 : Int32) * nI s + (12 : Int32) * nI k + nI i) = nI (96 * s + (12 * k + i)) := by
      rw [show (96 : Int32) = nI 96 from rfl, show (12 : Int32) = nI 12 from rfl, pk_mul, pk_mul, nI_add, nI_add, Nat.add_assoc]
    rw [e12, tn_nI (by omega), rM_116 (by omega), eo 116 _ (by decide) (by decide)]
    refine ⟨vp_in_nI (by omega) (by decide), fun y ey => ?_⟩
    rw [ey, c1, tn_nI (n := tn (S 116 (12 * k + i))) (by omega)]
    generalize hO : tn (S 116 (12 * k + i)) = o at *
    have ho : o < 10 := by omega
    refine ⟨vp_in_nI ho (by decide), ?_⟩
    refine m_price hs ?_
    rw [ixm10, tn_nI (n := 10 * s + o) (by omega), tn_nI (n := s) (by omega)]
    refine ⟨vp_in_nI (by omega) (by decide), vp_in_nI hs (by decide), fun M2 e2 M3 e3 z hz => ?_⟩
    rw [rM_110 ho, rM_120 (s := s) ho, rM_123 (s := s) ho, rM_124 (s := s) ho, eo 120 _ (by decide) (by decide), eo 123 _ (by decide) (by decide), eo 124 _ (by decide) (by decide),
      pr_cong (S := S) (eo 96 0 (by decide) (by decide)) (eo 97 0 (by decide) (by decide)) (eo 98 0 (by decide) (by decide)), show mi M1 104 s = mi M 104 s from hF.1 104 s (by unfold PD; omega)] at e2
    have v2 : vwM s M2 = u2 (vwM s M1) 110 o (vwM s M1 110 o + 8 * (prF S (S 120 o) - prF S (S 120 o) * S 124 o / 100 - mi M 104 s - S 123 o)) := by rw [e2, sM_110 ho]
    have v3 : vwM s M3 = u2 (vwM s M2) 105 0 (S 105 0 + nI (i + 1)) := by
      rw [e3, sM_105, rM_105, v2, u2_f (g := 105) (by decide), hv, u2_s, nI_succ, Int32.add_assoc]
    rw [hz, nI_1]
    refine hK hlt _ M3 ⟨rfl, ?_, ?_⟩
    · rw [v3, v2, hv]
      conv => rhs; unfold slG
      rw [hO, u2_f (g := 110) (f := 105) (by decide)]
      funext f j
      simp only [u2]
      by_cases q : f = 105 ∧ j = 0
      · rw [if_pos q, if_pos q]
      · rw [if_neg q, if_neg q, if_neg q]
    · rw [e3, e2]
      refine (hF.si ?_).si ?_ <;> unfold PD <;> omega
  · rw [nI_lt' (by omega) (by omega)] at hge
    have ei : i = tn (S 113 k) := by omega
    subst ei
    rw [tn_nI (n := s) (by omega)]
    refine ⟨vp_in_nI hs (by decide), fun M6 e6 M7 e7 => ?_⟩
    have v6 : vwM s M6 = u2 (vwM s M1) 96 0 (jmin 99999 (S 96 0 + 8 * S 113 k)) := by rw [e6, sM_96, ex, ← s1]
    refine h M7 ?_ ?_
    · rw [e7, sM_113 hk, v6, hv]
      unfold slF
      rw [← s1]
      funext f j
      simp only [u2]
      by_cases q1 : f = 113 ∧ j = k
      · rw [if_pos q1, if_pos q1]
      · rw [if_neg q1, if_neg q1]
        by_cases q2 : f = 96 ∧ j = 0
        · rw [if_pos q2, if_neg (fun q => by omega), if_pos q2]
        · rw [if_neg q2]
          by_cases q3 : f = 105 ∧ j = 0
          · rw [if_pos q3, if_pos q3]
          · rw [if_neg q3, if_neg q3, if_neg q2]
    · rw [e7, e6]
      refine (hF.si ?_).si ?_ <;> unfold PD <;> omega
theorem m_sails {L : Lay} {T s k : Nat} {d wd : Int32} {M : Mem} {Q : Mem → Prop} (hs : s < 2) (hk : k < 8) (hg : gdT T (vwM s M)) {t : Nat} (hd : d = nI (t + 1)) (ht : t ≤ 720) (hc : tn (vwM s M 115 k) ≤ t)
    (h : ∀ M', vwM s M' = saF (vwM s M) d wd (mi M 104 s) k → FJ (PD s) M M' → Q M') : w_X12_sails L (nI s) (nI k) d wd M Q := by
  have h112 : ∀ M1 : Mem, mi M1 112 (8 * s + k) = vwM s M1 112 k := fun _ => rM_112 hk
  have h114 : ∀ M1 : Mem, mi M1 114 (8 * s + k) = vwM s M1 114 k := fun _ => rM_114 hk
  have h115 : ∀ M1 : Mem, mi M1 115 (8 * s + k) = vwM s M1 115 k := fun _ => rM_115 hk
  have hin : vp_in (nI (8 * s + k)) 16 := vp_in_nI (by omega) (by decide)
  generalize hS : vwM s M = S at *
  have sail : ((S 112 k = 0 ∧ wd = 1 ∧ (roF S k = false ∨ (0 < S 113 k ∧ ¬ d - S 115 k < 10))) ∨ (S 112 k = 2 ∧ wd = 2 ∧ ¬ S 115 k = d)) → w_X12_sails_85 L (nI s) (nI k) d wd (nI (8 * s + k)) M Q := fun hy => by
    unfold w_X12_sails_85
    rw [tn_nI (by omega), h112, hS]
    refine ⟨hin, fun M5 e5 M6 e6 => h M6 ?_ ?_⟩
    · rw [e6, sM_114 hk, e5, sM_112 hk, hS]; unfold saF; rw [if_pos hy]
    · rw [e6, e5]; refine (FJ.rf.si ?_).si ?_ <;> unfold PD <;> omega
  have go : ¬ ((S 112 k = 0 ∧ wd = 1 ∧ (roF S k = false ∨ (0 < S 113 k ∧ ¬ d - S 115 k < 10))) ∨ (S 112 k = 2 ∧ wd = 2 ∧ ¬ S 115 k = d)) → ((S 112 k = 1 ∧ wd = 1) ∨ (S 112 k = 3 ∧ wd = 2)) → w_X12_sails_139 L (nI s) (nI k) d wd (nI (8 * s + k)) M Q := fun hn hy => by
    unfold w_X12_sails_139
    rw [tn_nI (by omega)]
    refine ⟨hin, fun M4 e4 => ?_⟩
    rw [h114, hS] at e4
    have v4 : vwM s M4 = u2 S 114 k (S 114 k - 1) := by rw [e4, sM_114 hk, hS]
    have F4 : FJ (PD s) M M4 := by rw [e4]; refine FJ.rf.si ?_; unfold PD; omega
    rw [h114, h112, v4, u2_s, u2_f (g := 112) (by decide)]
    refine ⟨fun hp => h M4 ?_ F4, fun hp x hx M7 e7 M8 e8 => ?_⟩
    · rw [v4]; unfold saF; rw [if_neg hn, if_pos hy, if_pos hp]
    · have v8 : vwM s M8 = u2 (u2 (u2 S 114 k (S 114 k - 1)) 112 k x) 115 k d := by rw [e8, sM_115 hk, e7, sM_112 hk, v4]
      have F8 : FJ (PD s) M M8 := by rw [e8, e7]; refine (F4.si ?_).si ?_ <;> unfold PD <;> omega
      rw [h112, v8, u2_f (g := 112) (by decide), u2_s]
      by_cases hat : S 112 k = 1
      · rw [if_pos hat] at hx
        subst hx
        refine ⟨fun _ => ?_, fun q => absurd rfl q⟩
        have g8 : gdT (T + t + 1) (vwM s M8) := by rw [v8]; exact gd_came hg hk hd ht (by omega) (by omega)
        refine m_sells hs hk g8 (fun M9 hv9 hF9 => h M9 ?_ (F8.tr hF9))
        rw [hv9, v8, show mi M8 104 s = mi M 104 s from F8.1 104 s (by unfold PD; omega)]
        unfold saF; rw [if_neg hn, if_pos hy, if_neg hp, if_pos hat]
      · rw [if_neg hat] at hx
        subst hx
        refine ⟨fun q => absurd q (by decide), fun _ => h M8 ?_ F8⟩
        rw [v8]; unfold saF; rw [if_neg hn, if_pos hy, if_neg hp, if_neg hat]
  have rest : ¬ ((S 112 k = 0 ∧ wd = 1 ∧ (roF S k = false ∨ (0 < S 113 k ∧ ¬ d - S 115 k < 10))) ∨ (S 112 k = 2 ∧ wd = 2 ∧ ¬ S 115 k = d)) → w_X12_sails_105 L (nI s) (nI k) d wd (nI (8 * s + k)) M Q := fun hn => by
    have still : ¬ ((S 112 k = 1 ∧ wd = 1) ∨ (S 112 k = 3 ∧ wd = 2)) → Q M := fun hq => h M (by rw [hS]; unfold saF; rw [if_neg hn, if_neg hq]) FJ.rf
    have r122 : ¬ (S 112 k = 1 ∧ wd = 1) → w_X12_sails_122 L (nI s) (nI k) d wd (nI (8 * s + k)) M Q := fun hq => by
      unfold w_X12_sails_122
      rw [tn_nI (by omega), h112, hS]
      exact ⟨hin, fun q1 => ⟨fun q2 => go hn (Or.inr ⟨q1, q2⟩), fun q2 => still (fun r => r.elim hq (fun r => q2 r.2))⟩, fun q1 => still (fun r => r.elim hq (fun r => q1 r.1))⟩
    unfold w_X12_sails_105
    rw [tn_nI (by omega), h112, hS]
    exact ⟨hin, fun q1 => ⟨fun q2 => go hn (Or.inl ⟨q1, q2⟩), fun q2 => r122 (fun r => q2 r.2)⟩, fun q1 => r122 (fun r => q1 r.1)⟩
  have r57 : ¬ (S 112 k = 0 ∧ wd = 1 ∧ (roF S k = false ∨ (0 < S 113 k ∧ ¬ d - S 115 k < 10))) → w_X12_sails_57 L (nI s) (nI k) d wd (nI (8 * s + k)) M Q := fun hn => by
    unfold w_X12_sails_57
    rw [tn_nI (by omega), h112, h115, hS]
    refine ⟨hin, fun q1 => ⟨fun q2 => ⟨fun q3 => rest (fun r => r.elim hn (fun r => r.2.2 q3)), fun q3 => sail (Or.inr ⟨q1, q2, q3⟩)⟩, fun q2 => rest (fun r => r.elim hn (fun r => q2 r.2.1))⟩, fun q1 => rest (fun r => r.elim hn (fun r => q1 r.1))⟩
  unfold w_X12_sails
  rw [ixm8]
  intro x hx
  subst hx
  rw [tn_nI (by omega), h112, hS]
  refine ⟨hin, fun q1 => ⟨fun q2 => ?_, fun q2 => r57 (fun r => q2 r.2.1)⟩, fun q1 => r57 (fun r => q1 r.1)⟩
  refine m_room hs hk ?_
  rw [hS]
  by_cases hr : roF S k = true
  · rw [if_pos hr]
    refine ⟨fun q => absurd q (by decide), fun _ => ?_⟩
    rw [rM_113 hk, h115, hS]
    refine ⟨fun q3 => ⟨fun q4 => r57 (fun r => r.2.2.elim (fun z => by rw [hr] at z; exact absurd z (by decide)) (fun z => z.2 q4)), fun q4 => sail (Or.inl ⟨q1, q2, Or.inr ⟨q3, q4⟩⟩)⟩, fun q3 => r57 (fun r => r.2.2.elim (fun z => by rw [hr] at z; exact absurd z (by decide)) (fun z => q3 z.1))⟩
  · rw [if_neg hr]
    exact ⟨fun _ => sail (Or.inl ⟨q1, q2, Or.inl (by simpa using hr)⟩), fun q => absurd rfl q⟩
-- the city's use, the day's end
def PE (s t a k : Nat) : Prop := PD s a k ∨ ((a = 117 ∨ a = 118) ∧ 240 * s ≤ k ∧ k < 240 * s + 240) ∨ (a = 119 ∧ k = 721 * s + (t + 1)) ∨ (a = 128 ∧ s = 0)
def zmM (s : Nat) (M : Mem) : Prop := ∀ j i, j < 24 → tn (mi M 92 28) ≤ i → i < 10 → mi M 117 (240 * s + 10 * j + i) = 0 ∧ mi M 118 (240 * s + 10 * j + i) = 0
theorem zm_v {s : Nat} {M : Mem} (h : zmM s M) (ht : tn (mi M 93 s) ≤ 720) {i : Nat} (h1 : tn (mi M 92 28) ≤ i) (h2 : i < 10) : vwM s M 117 i = 0 ∧ vwM s M 118 i = 0 := by
  rw [vwM_def, vwM_def, if_neg (c := 117 = 109) (by decide), if_pos (c := 117 = 117) rfl, if_neg (c := 118 = 109) (by decide), if_neg (c := 118 = 117) (by decide), if_pos (c := 118 = 118) rfl]
  by_cases q : tn (mi M 93 s) / 30 = 0
  · rw [if_neg (c := i < 10 ∧ _) (fun (r : i < 10 ∧ ¬ tn (mi M 93 s) / 30 = 0) => r.2 q), if_neg (c := i < 10 ∧ _) (fun (r : i < 10 ∧ ¬ tn (mi M 93 s) / 30 = 0) => r.2 q)]; exact ⟨rfl, rfl⟩
  · have := h (tn (mi M 93 s) / 30 - 1) i (by omega) h1 h2
    rw [if_pos (c := i < 10 ∧ _) ⟨h2, q⟩, if_pos (c := i < 10 ∧ _) ⟨h2, q⟩, this.1, this.2]; exact ⟨rfl, rfl⟩
theorem narZ01 {c : Prop} [Decidable c] : narZ (if c then 1 else 0) = if c then 1 else 0 := by by_cases h : c <;> simp only [h, if_true, if_false] <;> decide
theorem jrem30 {t : Nat} (ht : t < 2 ^ 31) : (jrem (nI t) 30 = 0) = (t % 30 = 0) := by
  rw [show (30 : Int32) = nI 30 from rfl, jrem_nI ht (by omega) (by omega), ← nI_0, nI_eq' (by omega) (by omega)]
theorem m_93 {s t : Nat} {M : Mem} (ht : t < 720) (h93 : mi M 93 s = nI t) (f i : Nat) (h7 : f = 117 ∨ f = 118 → (t + 1) % 30 ≠ 0) :
    vwM s (si M 93 s (nI (t + 1))) f i = if f = 93 ∧ i = 0 then nI (t + 1) else if f = 119 ∧ i = 0 then ((jshl (vwM s M 119 0) 1 ||| mi M 119 (721 * s + (t + 1))) &&& 1073741823) else vwM s M f i := by
  have e93 : mi (si M 93 s (nI (t + 1))) 93 s = nI (t + 1) := by rw [mi_si, if_pos ⟨rfl, rfl⟩]
  have ne : ∀ a k, a ≠ 93 → mi (si M 93 s (nI (t + 1))) a k = mi M a k := fun a k ha => by rw [mi_si, if_neg (fun q => ha q.1)]
  have t1 : tn (nI (t + 1)) = t + 1 := tn_nI (by omega)
  have t0 : tn (nI t) = t := tn_nI (by omega)
  rw [vwM_def, vwM_def, vwM_def, e93, h93, t1, t0]
  simp only [ne 109 _ (by decide), ne 99 _ (by decide), ne 117 _ (by decide), ne 118 _ (by decide), ne 119 _ (by decide)]
  by_cases c1 : f = 109
  · rw [if_pos c1, if_pos c1, if_neg (c := f = 93 ∧ i = 0) (fun q => by omega), if_neg (c := f = 119 ∧ i = 0) (fun q => by omega)]
  rw [if_neg c1, if_neg c1]
  by_cases c2 : f = 117
  · have := h7 (Or.inl c2)
    have e : (t + 1) / 30 = t / 30 := by omega
    rw [if_pos c2, if_pos c2, if_neg (c := f = 93 ∧ i = 0) (fun q => by omega), if_neg (c := f = 119 ∧ i = 0) (fun q => by omega), e]
  rw [if_neg c2, if_neg c2]
  by_cases c3 : f = 118
  · have := h7 (Or.inr c3)
    have e : (t + 1) / 30 = t / 30 := by omega
    rw [if_pos c3, if_pos c3, if_neg (c := f = 93 ∧ i = 0) (fun q => by omega), if_neg (c := f = 119 ∧ i = 0) (fun q => by omega), e]
  rw [if_neg c3, if_neg c3]
  by_cases c4 : f = 119
  · rw [if_pos c4, if_pos c4, if_neg (c := f = 93 ∧ i = 0) (fun q => by omega)]
    by_cases q : i = 0
    · rw [if_pos q, if_pos (c := f = 119 ∧ i = 0) ⟨c4, q⟩]; rfl
    · rw [if_neg q, if_neg (fun r => q r.2), if_neg q]
  rw [if_neg c4, if_neg c4, if_neg (c := f = 119 ∧ i = 0) (fun q => c4 q.1)]
  by_cases hi : i < rg f
  · rw [if_pos hi, if_pos hi]
    by_cases c5 : f = 93
    · subst c5
      have hi1 : i < 1 := hi
      obtain rfl : i = 0 := by omega
      rw [if_pos ⟨rfl, rfl⟩]
      exact e93
    · rw [if_neg (fun q => c5 q.1), ne _ _ (fun q => c5 ((mA_rng f (kd_lt (rg_kd hi)) (rg_kd hi)).2.2.2.2.2.2.2.2.2.2.2 q))]
  · rw [if_neg hi, if_neg hi, if_neg]
    rintro ⟨rfl, rfl⟩
    exact hi (by decide)
theorem enF_at {S : SS} {t : Nat} (ht : S 93 0 = nI t) (hb : t < 2 ^ 30) (f i : Nat) : enF S f i = if f = 93 ∧ i = 0 then nI (t + 1) else if (t + 1) % 30 = 0 ∧ f = 117 ∧ i < tn (S 28 0) then S 108 i else if (t + 1) % 30 = 0 ∧ f = 118 ∧ i < tn (S 28 0) then S 109 i else S f i := by
  have e : (jrem (S 93 0 + 1) 30 = 0) ↔ ((t + 1) % 30 = 0) := by rw [ht, nI_1, jrem30 (by omega)]
  have e1 : S 93 0 + 1 = nI (t + 1) := by rw [ht, nI_1]
  unfold enF
  by_cases q : (t + 1) % 30 = 0
  · rw [if_pos (e.mpr q)]
    show (if f = 93 ∧ i = 0 then S 93 0 + 1 else if f = 117 ∧ i < tn (S 28 0) then S 108 i else if f = 118 ∧ i < tn (S 28 0) then S 109 i else S f i) = _
    rw [e1]
    simp only [q, true_and]
  · rw [if_neg (fun z => q (e.mp z)), e1]
    simp only [q, false_and, if_false]
    rfl
-- from the use of the city on
theorem m_end {L : Lay} {T s t : Nat} {wd p1 p2 : Int32} {M : Mem} {Q : Mem → Prop} (hs : s < 2) (hg : gdT T (vwM s M)) (ht : t < 720) (h93 : vwM s M 93 0 = nI t) (hz : zmM s M) (hal : ∀ i, i < 10 → ¬ vwM s M 109 i < 0)
    (h : ∀ M', vwM s M' = enF (usF (vwM s M) wd) → FJ (PE s t) M M' → BZ (mi M' 119 (721 * s + (t + 1))) → zmM s M' → (s = 0 → (t + 1) % 30 = 0 → mi M' 128 ((t + 1) / 30 - 1) = mi M 99 0) → (∀ j, (j ≠ (t + 1) / 30 - 1 ∨ (t + 1) % 30 ≠ 0) → mi M' 128 j = mi M 128 j) → (∀ j i, j < 24 → i < 10 → (j ≠ (t + 1) / 30 - 1 ∨ (t + 1) % 30 ≠ 0 ∨ tn (vwM s M 28 0) ≤ i) → mi M' 117 (240 * s + 10 * j + i) = mi M 117 (240 * s + 10 * j + i) ∧ mi M' 118 (240 * s + 10 * j + i) = mi M 118 (240 * s + 10 * j + i)) → ((t + 1) % 30 = 0 → ∀ i, i < tn (vwM s M 28 0) → mi M' 117 (240 * s + 10 * ((t + 1) / 30 - 1) + i) = vwM s M 108 i ∧ mi M' 118 (240 * s + 10 * ((t + 1) / 30 - 1) + i) = if mi M 99 s < 0 then -1 else vwM s M 109 i) → Q M')
    (y : Int32) (hy : y = if wd = 3 then 2 * vwM s M 97 0 else vwM s M 97 0) : w_X12_day_223 L (nI s) p1 p2 (nI (t + 1)) y M Q := by
  have hg' := hg
  obtain ⟨n1, n2, -⟩ := hg'
  unfold w_X12_day_223
  rw [tn_nI (n := s) (by omega), rM_96]
  refine ⟨vp_in_nI hs (by decide), fun x hx => ?_⟩
  have hx0 : (x = 0) = (vwM s M 96 0 < y) := by
    rw [hx]
    by_cases q : vwM s M 96 0 < y
    · rw [if_pos q]; exact propext ⟨fun _ => q, fun _ => rfl⟩
    · rw [if_neg q]; exact propext ⟨fun r => absurd r (by decide), fun r => absurd r q⟩
  -- behind the stock: hungry, the count, the day
  have tail : ∀ (z : Int32), z = (if vwM s M 96 0 < y then vwM s M 96 0 else y) → w_X12_day_266 L (nI s) p1 p2 (nI (t + 1)) x z (vwM s M 96 0) (nI s) M Q := fun z hz2 => by
    unfold w_X12_day_266
    rw [tn_nI (n := s) (by omega), ixm721, tn_nI (n := 721 * s + (t + 1)) (by omega)]
    refine ⟨vp_in_nI hs (by decide), fun M4 e4 x5 e5 => ⟨vp_in_nI (by omega) (by decide), fun M7 e7 => ?_⟩⟩
    have d5 : x5 = if vwM s M 96 0 < y then 1 else 0 := by
      rw [e5]; simp only [hx0]
    have v4 : vwM s M4 = u2 (vwM s M) 96 0 (if vwM s M 96 0 < y then 0 else vwM s M 96 0 - y) := by
      rw [e4, sM_96, hz2]
      by_cases q : vwM s M 96 0 < y
      · rw [if_pos q, if_pos q, Int32.sub_self]
      · rw [if_neg q, if_neg q]
    have F4 : FJ (PE s t) M M4 := by rw [e4]; refine FJ.rf.si ?_; unfold PE PD; omega
    have t4 : mi M4 93 s = nI t := by rw [rM_93, v4, u2_f (by decide)]; exact h93
    have v7 : vwM s M7 = vwM s M4 := by
      rw [e7]
      exact vwM_cg fun a k _ _ _ _ _ _ _ _ _ _ _ _ _ h9 => by
        rw [mi_si, if_neg]
        rintro ⟨rfl, rfl⟩
        have := h9 rfl
        rw [t4, tn_nI (by omega)] at this
        omega
    have F7 : FJ (PE s t) M M7 := by rw [e7]; refine F4.si ?_; unfold PE PD; omega
    have g7 : mi M7 119 (721 * s + (t + 1)) = if vwM s M 96 0 < y then 1 else 0 := by rw [e7, mi_si, if_pos ⟨rfl, rfl⟩, d5, narZ01]
    have last : ∀ M8 : Mem, vwM s M8 = u2 (vwM s M7) 106 0 (vwM s M 106 0 + (if vwM s M 96 0 < y then 1 else 0)) → FJ (PE s t) M M8 → mi M8 119 (721 * s + (t + 1)) = (if vwM s M 96 0 < y then 1 else 0) → (∀ a k, a = 117 ∨ a = 118 ∨ a = 99 ∨ a = 128 → mi M8 a k = mi M a k) → w_X12_day_306 L (nI s) p1 p2 (nI (t + 1)) M8 Q := by
      intro M8 v8 F8 g8 k8
      unfold w_X12_day_306
      rw [tn_nI (n := s) (by omega)]
      refine ⟨vp_in_nI hs (by decide), fun M9 e9 => ?_⟩
      have t8 : mi M8 93 s = nI t := by rw [rM_93, v8, u2_f (by decide), v7, v4, u2_f (by decide)]; exact h93
      have us : ∀ f i, (f = 93 ∧ i = 0) ∨ (f = 119 ∧ i = 0) ∨ vwM s M8 f i = usF (vwM s M) wd f i := fun f i => by
        rw [v8, v7, v4]
        unfold usF
        rw [← hy]
        by_cases c1 : f = 119 ∧ i = 0
        · exact Or.inr (Or.inl c1)
        · refine Or.inr (Or.inr ?_)
          simp only [u2]
          by_cases c2 : f = 106 ∧ i = 0
          · rw [if_pos c2, if_pos c2]
          · rw [if_neg c2, if_neg c2, if_neg c1]
      have us119 : (jshl (vwM s M8 119 0) 1 ||| mi M8 119 (721 * s + (t + 1))) &&& 1073741823 = usF (vwM s M) wd 119 0 := by
        rw [g8, v8, v7, v4, u2_f (by decide), u2_f (by decide)]
        unfold usF
        rw [← hy, u2_f (by decide), u2_s]
      have us93 : usF (vwM s M) wd 93 0 = nI t := by unfold usF; rw [u2_f (by decide), u2_f (by decide), u2_f (by decide)]; exact h93
      have us28 : usF (vwM s M) wd 28 0 = vwM s M 28 0 := by unfold usF; rw [u2_f (by decide), u2_f (by decide), u2_f (by decide)]
      have us108 : ∀ i, usF (vwM s M) wd 108 i = vwM s M 108 i := fun i => by unfold usF; rw [u2_f (by decide), u2_f (by decide), u2_f (by decide)]
      have us109 : ∀ i, usF (vwM s M) wd 109 i = vwM s M 109 i := fun i => by unfold usF; rw [u2_f (by decide), u2_f (by decide), u2_f (by decide)]
      have F9 : FJ (PE s t) M M9 := by rw [e9]; refine F8.si ?_; unfold PE PD; omega
      have k9 : ∀ a k, a = 117 ∨ a = 118 ∨ a = 99 ∨ a = 128 → mi M9 a k = mi M a k := fun a k ha => by rw [e9, mi_si, if_neg (fun q => by omega)]; exact k8 a k ha
      have b9 : BZ (mi M9 119 (721 * s + (t + 1))) := by
        rw [e9, mi_si, if_neg (fun q => by omega), g8]
        by_cases q : vwM s M 96 0 < y
        · rw [if_pos q]; exact Or.inr rfl
        · rw [if_neg q]; exact Or.inl rfl
      have o9 : mi M9 92 28 = mi M 92 28 := F9.1 92 28 (by unfold PE PD; omega)
      rw [jrem30 (by omega)]
      refine ⟨fun h30 => ?_, fun h30 => h M9 ?_ F9 b9 (fun j i hj h1 h2 => by rw [k9 117 _ (by simp), k9 118 _ (by simp)]; exact hz j i hj (by rw [← o9]; exact h1) h2) (fun _ q => absurd q h30) (fun j _ => k9 128 j (by simp)) (fun j i _ _ _ => ⟨k9 117 _ (by simp), k9 118 _ (by simp)⟩) (fun q => absurd q h30)⟩
      · intro x hx
        have hx2 : x = nI ((t + 1) / 30 - 1) := by
          rw [hx, show (30 : Int32) = nI 30 from rfl, pk_div (by omega) (by omega) (by omega), show (1 : Int32) = nI 1 from rfl, pk_sub (by omega)]
        subst hx2
        have hm24 : (t + 1) / 30 - 1 < 24 := by omega
        have tn9 : tn (mi M9 93 s) = t + 1 := by rw [e9, mi_si, if_pos ⟨rfl, rfl⟩, tn_nI (by omega)]
        have n28 : vwM s M 28 0 = mi M 92 28 := rM_28.symm
        refine LP3_c1 0 (tn (vwM s M 28 0)) (fun i (u : Int32) M' => u = nI ((t + 1) / 30 - 1) ∧ FJ (PE s t) M M' ∧
            (∀ a k, (a ≠ 117 ∧ a ≠ 118) → mi M' a k = mi M9 a k) ∧
            (∀ k, (k < 240 * s + 10 * ((t + 1) / 30 - 1) ∨ 240 * s + 10 * ((t + 1) / 30 - 1) + i ≤ k) → mi M' 117 k = mi M 117 k ∧ mi M' 118 k = mi M 118 k) ∧
            (∀ j, j < i → mi M' 117 (240 * s + 10 * ((t + 1) / 30 - 1) + j) = vwM s M 108 j ∧ mi M' 118 (240 * s + 10 * ((t + 1) / 30 - 1) + j) = if mi M 99 s < 0 then -1 else vwM s M 109 j)) rfl (Nat.zero_le _)
            ⟨rfl, F9, fun _ _ _ => rfl, fun k _ => ⟨k9 117 k (by simp), k9 118 k (by simp)⟩, fun j hj => absurd hj (by omega)⟩ ?_
        intro i u M1 hi _ ⟨eu, hF, p1', p2', p3'⟩ K hK
        subst eu
        have s28 : mi M1 92 28 = vwM s M 28 0 := by rw [p1' 92 28 (by decide), o9, rM_28 (s := s)]
        unfold w_X12_day_335
        rw [s28, n1]
        refine ⟨fun hlt => ?_, fun hge => ?_⟩
        · rw [nI_lt' (by omega) (by omega)] at hlt
          have hi10 : i < 10 := by omega
          have e48 : ((240 : Int32) * nI s + (10 : Int32) * nI ((t + 1) / 30 - 1) + nI i) = nI (240 * s + 10 * ((t + 1) / 30 - 1) + i) := by
            rw [show (240 : Int32) = nI 240 from rfl, show (10 : Int32) = nI 10 from rfl, pk_mul, pk_mul, nI_add, nI_add]
          rw [e48, ixm10, tn_nI (n := 10 * s + i) (by omega), tn_nI (n := 240 * s + 10 * ((t + 1) / 30 - 1) + i) (by omega), tn_nI (n := s) (by omega)]
          refine ⟨vp_in_nI (by omega) (by decide), vp_in_nI (by omega) (by decide), fun M2 e2 => ⟨vp_in_nI hs (by decide), ?_⟩⟩
          have a108 : mi M1 108 (10 * s + i) = vwM s M 108 i := by
            rw [p1' 108 _ (by decide), e9, mi_si, if_neg (fun q => by omega), rM_108 hi10, v8, u2_f (by decide), v7, v4, u2_f (by decide)]
          have a99 : mi M2 99 s = mi M 99 s := by rw [e2, mi_si, if_neg (fun q => by omega), p1' 99 _ (by decide)]; exact k9 99 s (by simp)
          have q117 : ∀ k, mi M2 117 k = if k = 240 * s + 10 * ((t + 1) / 30 - 1) + i then vwM s M 108 i else mi M1 117 k := fun k => by
            rw [e2, mi_si, a108]
            by_cases q : k = 240 * s + 10 * ((t + 1) / 30 - 1) + i
            · rw [if_pos ⟨rfl, q⟩, if_pos q]
            · rw [if_neg (fun r => q r.2), if_neg q]
          have fin : ∀ (z : Int32) (M3 : Mem), z = (if mi M 99 s < 0 then -1 else vwM s M 109 i) → M3 = si M2 118 (240 * s + 10 * ((t + 1) / 30 - 1) + i) z → ∀ x : Int32, x = nI i + 1 → K (nI ((t + 1) / 30 - 1)) x M3 := fun z M3 hz3 e3 x hx => by
            rw [hx, nI_1]
            have r118 : ∀ k, mi M3 118 k = if k = 240 * s + 10 * ((t + 1) / 30 - 1) + i then z else mi M1 118 k := fun k => by
              rw [e3, mi_si, e2]
              by_cases q : k = 240 * s + 10 * ((t + 1) / 30 - 1) + i
              · rw [if_pos ⟨rfl, q⟩, if_pos q]
              · rw [if_neg (fun r => q r.2), if_neg q, mi_si, if_neg (fun r => by omega)]
            have r117 : ∀ k, mi M3 117 k = mi M2 117 k := fun k => by rw [e3, mi_si, if_neg (fun r => by omega)]
            refine hK hlt _ M3 ⟨rfl, ?_, fun a k ha => ?_, fun k hk => ?_, fun j hj => ?_⟩
            · rw [e3, e2]; refine (hF.si ?_).si ?_ <;> unfold PE PD <;> omega
            · rw [e3, mi_si, if_neg (fun r => ha.2 r.1), e2, mi_si, if_neg (fun r => ha.1 r.1)]; exact p1' a k ha
            · rw [r117, q117, r118, if_neg (by omega), if_neg (by omega)]; exact p2' k (by omega)
            · rw [r117, q117, r118]
              by_cases q : j = i
              · subst q; rw [if_pos rfl, if_pos rfl]; exact ⟨rfl, hz3⟩
              · rw [if_neg (by omega), if_neg (by omega)]; exact p3' j (by omega)
          rw [a99]
          refine ⟨fun q M3 e3 x hx => fin (-1) M3 (by rw [if_pos q]) e3 x hx, fun q M3 e3 x hx => fin (mi M2 109 (10 * s + i)) M3 ?_ e3 x hx⟩
          rw [if_neg q, e2, mi_si, if_neg (fun r => by omega), p1' 109 _ (by decide), e9, mi_si, if_neg (fun r => by omega), rM_109 hi10 (by rw [k8 99 s (by simp)]; exact q), v8, u2_f (by decide), v7, v4, u2_f (by decide)]
        · rw [nI_lt' (by omega) (by omega)] at hge
          have ei : i = tn (vwM s M 28 0) := by omega
          subst ei
          have fin : ∀ M6 : Mem, (∀ a k, a ≠ 128 → mi M6 a k = mi M1 a k) → FJ (PE s t) M M6 → (∀ j, j ≠ (t + 1) / 30 - 1 → mi M6 128 j = mi M 128 j) → (s = 0 → mi M6 128 ((t + 1) / 30 - 1) = mi M 99 0) → (s ≠ 0 → ∀ j, mi M6 128 j = mi M 128 j) → Q M6 := fun M6 r6 F6 u6 w6 z6 => by
            have tn6 : tn (mi M6 93 s) = t + 1 := by rw [r6 93 s (by decide), p1' 93 s (by decide)]; exact tn9
            have o6 : mi M6 92 28 = mi M 92 28 := F6.1 92 28 (by unfold PE PD; omega)
            have A117 : ∀ k, mi M6 117 k = mi M1 117 k := fun k => r6 117 k (by decide)
            have A118 : ∀ k, mi M6 118 k = mi M1 118 k := fun k => r6 118 k (by decide)
            refine h M6 ?_ F6 (by rw [r6 119 _ (by decide), p1' 119 _ (by decide)]; exact b9) (fun j i hj h1 h2 => ?_) (fun e0 _ => w6 e0) (fun j hj => ?_) (fun j i hj hi2 hc => ?_) (fun _ i hi2 => ?_)
            · funext f i
              rw [enF_at us93 (by omega), us28, us108, us109]
              by_cases c1 : f = 93 ∧ i = 0
              · obtain ⟨rfl, rfl⟩ := c1
                rw [if_pos ⟨rfl, rfl⟩, ← rM_93, r6 93 s (by decide), p1' 93 s (by decide), e9, mi_si, if_pos ⟨rfl, rfl⟩]
              · rw [if_neg c1]
                by_cases c2 : f = 117
                · subst c2
                  rw [if_neg (c := (t + 1) % 30 = 0 ∧ 117 = 118 ∧ _) (fun q => by omega), vwM_def (M := M6), if_neg (c := 117 = 109) (by decide), if_pos (c := 117 = 117) rfl, tn6]
                  by_cases hi10 : i < 10
                  · rw [if_pos (c := i < 10 ∧ _) ⟨hi10, by omega⟩, A117]
                    by_cases hin : i < tn (vwM s M 28 0)
                    · rw [if_pos (c := (t + 1) % 30 = 0 ∧ 117 = 117 ∧ _) ⟨h30, rfl, hin⟩, (p3' i hin).1]
                    · rw [if_neg (c := (t + 1) % 30 = 0 ∧ 117 = 117 ∧ _) (fun q => hin q.2.2), (p2' _ (by omega)).1]
                      have z1 := hz ((t + 1) / 30 - 1) i hm24 (by rw [← n28]; omega) hi10
                      rw [z1.1]
                      have z2 := zm_v (s := s) hz (by rw [rM_93, h93, tn_nI (by omega)]; omega) (i := i) (by rw [← n28]; omega) hi10
                      rcases us 117 i with q | q | q
                      · omega
                      · omega
                      · rw [← q, v8, u2_f (by decide), v7, v4, u2_f (by decide), z2.1]
                  · rw [if_neg (c := i < 10 ∧ _) (fun q => hi10 q.1), if_neg (c := (t + 1) % 30 = 0 ∧ 117 = 117 ∧ _) (fun q => by omega)]
                    rcases us 117 i with q | q | q
                    · omega
                    · omega
                    · rw [← q, vwM_def (M := M8), if_neg (c := 117 = 109) (by decide), if_pos (c := 117 = 117) rfl, if_neg (c := i < 10 ∧ _) (fun q => hi10 q.1)]
                · by_cases c3 : f = 118
                  · subst c3
                    rw [if_neg (c := (t + 1) % 30 = 0 ∧ 118 = 117 ∧ _) (fun q => by omega), vwM_def (M := M6), if_neg (c := 118 = 109) (by decide), if_neg (c := 118 = 117) (by decide), if_pos (c := 118 = 118) rfl, tn6]
                    by_cases hi10 : i < 10
                    · rw [if_pos (c := i < 10 ∧ _) ⟨hi10, by omega⟩, A118]
                      by_cases hin : i < tn (vwM s M 28 0)
                      · rw [if_pos (c := (t + 1) % 30 = 0 ∧ 118 = 118 ∧ _) ⟨h30, rfl, hin⟩, (p3' i hin).2]
                        have ha := hal i hi10
                        by_cases q : mi M 99 s < 0
                        · rw [if_pos q, vwM_def (M := M), if_pos (c := 109 = 109) rfl, if_neg (c := i < 10 ∧ _) (fun (r : i < 10 ∧ ¬ mi M 99 s < 0) => r.2 q)]; decide
                        · rw [if_neg q]; exact jmax0 ha
                      · rw [if_neg (c := (t + 1) % 30 = 0 ∧ 118 = 118 ∧ _) (fun q => hin q.2.2), (p2' _ (by omega)).2]
                        have z1 := hz ((t + 1) / 30 - 1) i hm24 (by rw [← n28]; omega) hi10
                        rw [z1.2]
                        have z2 := zm_v (s := s) hz (by rw [rM_93, h93, tn_nI (by omega)]; omega) (i := i) (by rw [← n28]; omega) hi10
                        rcases us 118 i with q | q | q
                        · omega
                        · omega
                        · rw [← q, v8, u2_f (by decide), v7, v4, u2_f (by decide), z2.2]; rfl
                    · rw [if_neg (c := i < 10 ∧ _) (fun q => hi10 q.1), if_neg (c := (t + 1) % 30 = 0 ∧ 118 = 118 ∧ _) (fun q => by omega)]
                      rcases us 118 i with q | q | q
                      · omega
                      · omega
                      · rw [← q, vwM_def (M := M8), if_neg (c := 118 = 109) (by decide), if_neg (c := 118 = 117) (by decide), if_pos (c := 118 = 118) rfl, if_neg (c := i < 10 ∧ _) (fun q => hi10 q.1)]
                  · rw [if_neg (fun q => c2 q.2.1), if_neg (fun q => c3 q.2.1)]
                    have e69 : vwM s M6 f i = vwM s M9 f i := by
                      rw [vwM_def, vwM_def, if_neg c2, if_neg c3, if_neg (c := f = 117) c2, if_neg (c := f = 118) c3]
                      have ee : ∀ a k, a ≠ 128 → a ≠ 117 → a ≠ 118 → mi M6 a k = mi M9 a k := fun a k h1 h2 h3 => by rw [r6 a k h1]; exact p1' a k ⟨h2, h3⟩
                      simp only [ee 99 _ (by decide) (by decide) (by decide), ee 109 _ (by decide) (by decide) (by decide), ee 119 _ (by decide) (by decide) (by decide), ee 93 _ (by decide) (by decide) (by decide)]
                      by_cases hj : i < rg f
                      · have rr := mA_rng f (kd_lt (rg_kd hj)) (rg_kd hj)
                        rw [ee (mA f) _ (by omega) (fun q => c2 (rr.2.2.2.2.2.2.2.2.1 q)) (fun q => c3 (rr.2.2.2.2.2.2.2.2.2.1 q))]
                      · simp only [if_neg hj]
                    rw [e69, e9, m_93 ht t8 f i (fun q => absurd q (by omega)), if_neg c1]
                    by_cases c4 : f = 119 ∧ i = 0
                    · obtain ⟨rfl, rfl⟩ := c4
                      rw [if_pos ⟨rfl, rfl⟩, us119]
                    · rw [if_neg c4]
                      rcases us f i with q | q | q
                      · exact absurd q c1
                      · exact absurd q c4
                      · exact q
            · rw [A117, A118]
              have hn : tn (vwM s M 28 0) ≤ i := by rw [n28, ← o6]; exact h1
              have := p2' (240 * s + 10 * j + i) (by omega)
              rw [this.1, this.2]
              exact hz j i hj (by rw [← n28]; exact hn) h2
            · by_cases q : s = 0
              · rcases hj with r | r
                · exact u6 j r
                · exact absurd h30 r
              · exact z6 q j
            · rw [A117, A118]
              have := p2' (240 * s + 10 * j + i) (by omega)
              exact ⟨this.1, this.2⟩
            · rw [A117, A118]; exact p3' i hi2
          have k128 : ∀ j, mi M1 128 j = mi M 128 j := fun j => (p1' 128 j (by decide)).trans (k9 128 j (by simp))
          refine ⟨fun hs0 => ⟨vp_in_nI hm24 (by decide), fun M6 e6 => ?_⟩, fun hs0 => fin M1 (fun _ _ _ => rfl) hF (fun j _ => k128 j) (fun q => absurd (by rw [q]; rfl) hs0) (fun _ j => k128 j)⟩
          have s0 : s = 0 := by
            have : nI s = nI 0 := hs0
            exact (nI_eq (by omega) (by omega)).mp this
          rw [tn_nI (by omega)] at e6
          refine fin M6 (fun a k ha => by rw [e6, mi_si, if_neg (fun q => ha q.1)]) ?_ (fun j hj => by rw [e6, mi_si, if_neg (fun q => hj q.2)]; exact k128 j) (fun _ => ?_) (fun q => absurd s0 q)
          · rw [e6]; refine hF.si ?_; unfold PE; omega
          · rw [e6, mi_si, if_pos ⟨rfl, rfl⟩, p1' 99 0 (by decide)]; exact k9 99 0 (by simp)
      · funext f i
        rw [enF_at us93 (by omega), us28, us108, us109, if_neg (c := (t + 1) % 30 = 0 ∧ f = 117 ∧ _) (fun q => h30 q.1), if_neg (c := (t + 1) % 30 = 0 ∧ f = 118 ∧ _) (fun q => h30 q.1), e9, m_93 ht t8 f i (fun _ => h30)]
        by_cases c1 : f = 93 ∧ i = 0
        · rw [if_pos c1, if_pos c1]
        · rw [if_neg c1, if_neg c1]
          by_cases c4 : f = 119 ∧ i = 0
          · obtain ⟨rfl, rfl⟩ := c4
            rw [if_pos ⟨rfl, rfl⟩, us119]
          · rw [if_neg c4]
            rcases us f i with q | q | q
            · exact absurd q c1
            · exact absurd q c4
            · exact q
    have k7 : ∀ a k, a = 117 ∨ a = 118 ∨ a = 99 ∨ a = 128 → mi M7 a k = mi M a k := fun a k ha => by
      rw [e7, mi_si, if_neg (fun q => by omega), e4, mi_si, if_neg (fun q => by omega)]
    refine ⟨fun q => ⟨vp_in_nI hs (by decide), fun M8 e8 => last M8 ?_ ?_ ?_ (fun a k ha => ?_)⟩, fun q => last M7 ?_ F7 g7 k7⟩
    · rw [hx0] at q
      rw [e8, sM_106, rM_106, if_pos q, v7, v4, u2_f (g := 106) (by decide)]
    · rw [e8]; refine F7.si ?_; unfold PE PD; omega
    · rw [e8, mi_si, if_neg (fun r => by omega)]; exact g7
    · rw [e8, mi_si, if_neg (fun r => by omega)]; exact k7 a k ha
    · rw [hx0] at q
      rw [if_neg q, Int32.add_zero]
      have : vwM s M 106 0 = vwM s M7 106 0 := by rw [v7, v4, u2_f (by decide)]
      rw [this]; exact u2_self.symm
  refine ⟨fun q => tail _ ?_, fun q => tail _ ?_⟩
  · rw [hx0] at q; rw [if_pos q]
  · rw [hx0] at q; rw [if_neg q]
-- all that runs every day
theorem dy_109 {S : SS} {held : Bool} {w duty : Int32} {i : Nat} : usF (saG (S 93 0 + 1) w duty (ldG held (tn (S 94 0)) (digF S)) (tn (S 34 0))) w 109 i = S 109 i := by
  unfold usF
  rw [u2_f (by decide), u2_f (by decide), u2_f (by decide), saG_f (by decide) (by decide) (by decide) (by decide) (by decide) (by decide) (by decide), ldG_f (by decide) (by decide) (by decide) (by decide) (by decide)]
  exact if_neg (fun q => absurd q.1 (by decide))
theorem m_day {L : Lay} {s t : Nat} {wd p1 p2 : Int32} {M : Mem} {Q : Mem → Prop} (hs : s < 2) (hg : gdT t (vwM s M)) (ht : t < 720) (h93 : vwM s M 93 0 = nI t) (hz : zmM s M) (hal : ∀ i, i < 10 → ¬ vwM s M 109 i < 0) (held : Bool) (hh : held = !decide (mi M 99 s < 0))
    (h : ∀ M', vwM s M' = dyF (vwM s M) held wd (mi M 104 s) → FJ (PE s t) M M' → BZ (mi M' 119 (721 * s + (t + 1))) → zmM s M' → (s = 0 → (t + 1) % 30 = 0 → mi M' 128 ((t + 1) / 30 - 1) = mi M 99 0) → (∀ j, (j ≠ (t + 1) / 30 - 1 ∨ (t + 1) % 30 ≠ 0) → mi M' 128 j = mi M 128 j) → (∀ j i, j < 24 → i < 10 → (j ≠ (t + 1) / 30 - 1 ∨ (t + 1) % 30 ≠ 0 ∨ tn (vwM s M 28 0) ≤ i) → mi M' 117 (240 * s + 10 * j + i) = mi M 117 (240 * s + 10 * j + i) ∧ mi M' 118 (240 * s + 10 * j + i) = mi M 118 (240 * s + 10 * j + i)) → ((t + 1) % 30 = 0 → ∀ i, i < tn (vwM s M 28 0) → mi M' 117 (240 * s + 10 * ((t + 1) / 30 - 1) + i) = vwM s M' 117 i ∧ mi M' 118 (240 * s + 10 * ((t + 1) / 30 - 1) + i) = if mi M 99 s < 0 then -1 else vwM s M 109 i) → Q M') :
    w_X12_day_80 L (nI s) p1 p2 (nI (t + 1)) wd M Q := by
  unfold w_X12_day_80
  have hg' := hg
  obtain ⟨n1, n2, n3, n4, -, -, n5, n6, -, -, nsh, -⟩ := hg'
  generalize hS : vwM s M = S at *
  refine LP4_c2 0 (tn (S 28 0)) (fun k (u v : Int32) M' => u = nI (t + 1) ∧ v = wd ∧ vwM s M' = (fun f i => if f = 107 ∧ i < k then jmin 9999 (S 107 i + S 122 i) else S f i) ∧ FJ (PD s) M M') rfl (Nat.zero_le _) ⟨rfl, rfl, ?_, FJ.rf⟩ ?_
  · rw [hS]; funext f i; rw [if_neg (by omega)]
  intro k u v M1 hk _ ⟨eu, ev, hv, hF⟩ K hK
  subst eu ev
  have eo : ∀ f i, f ≠ 107 → vwM s M1 f i = S f i := fun f i a1 => by rw [hv]; show (if _ then _ else _) = _; rw [if_neg (fun q => a1 q.1)]
  unfold w_X12_day_83
  rw [rM_28 (s := s), eo 28 0 (by decide), n1]
  refine ⟨fun hlt => ?_, fun hge => ?_⟩
  · rw [nI_lt' (by omega) (by omega)] at hlt
    have hk10 : k < 10 := by omega
    rw [ixm10, tn_nI (n := 10 * s + k) (by omega), tn_nI (n := k) (by omega), rM_107 hk10, rM_122 (s := s) hk10, eo 122 k (by decide)]
    refine ⟨vp_in_nI (by omega) (by decide), vp_in_nI hk10 (by decide), fun M3 e3 x hx => ?_⟩
    rw [hx, nI_1]
    refine hK hlt _ _ M3 ⟨rfl, rfl, ?_, by rw [e3]; refine hF.si ?_; unfold PD; omega⟩
    have e107 : vwM s M1 107 k = S 107 k := by rw [hv]; show (if _ then _ else _) = _; rw [if_neg (by omega)]
    rw [e3, sM_107 hk10, e107, hv]
    funext f i
    show (if f = 107 ∧ i = k then _ else if f = 107 ∧ i < k then _ else S f i) = _
    by_cases a : f = 107
    · by_cases b : i = k
      · subst b; rw [if_pos ⟨a, rfl⟩, if_pos ⟨a, by omega⟩]
      · rw [if_neg (fun q => b q.2)]
        by_cases c : i < k
        · rw [if_pos ⟨a, c⟩, if_pos ⟨a, by omega⟩]
        · rw [if_neg (by omega), if_neg (by omega)]
    · rw [if_neg (fun q => a q.1), if_neg (fun q => a q.1), if_neg (fun q => a q.1)]
  · rw [nI_lt' (by omega) (by omega)] at hge
    have ek : k = tn (S 28 0) := by omega
    subst ek
    have hv : vwM s M1 = digF S := hv
    have g1 : gdT t (digF S) := gd_dig hg
    have q94 : digF S 94 0 = S 94 0 := if_neg (fun q => absurd q.1 (by decide))
    have q34 : digF S 34 0 = S 34 0 := if_neg (fun q => absurd q.1 (by decide))
    have q93 : digF S 93 0 = S 93 0 := if_neg (fun q => absurd q.1 (by decide))
    have q109 : ∀ i, digF S 109 i = S 109 i := fun i => if_neg (fun q => absurd q.1 (by decide))
    have q28 : digF S 28 0 = S 28 0 := if_neg (fun q => absurd q.1 (by decide))
    -- behind the keels
    have sea : ∀ M2 : Mem, vwM s M2 = ldG held (tn (S 94 0)) (digF S) → FJ (PD s) M M2 → w_X12_day_171 L (nI s) p1 p2 (nI (t + 1)) v M2 Q := by
      intro M2 hv2 hF2
      have g2 : gdT t (vwM s M2) := by rw [hv2]; exact gd_ldG _ _ g1
      have l34 : vwM s M2 34 0 = S 34 0 := by rw [hv2, ldG_f (by decide) (by decide) (by decide) (by decide) (by decide)]; exact q34
      have l93 : vwM s M2 93 0 = S 93 0 := by rw [hv2, ldG_f (by decide) (by decide) (by decide) (by decide) (by decide)]; exact q93
      have l28 : vwM s M2 28 0 = S 28 0 := by rw [hv2, ldG_f (by decide) (by decide) (by decide) (by decide) (by decide)]; exact q28
      have l109 : ∀ i, vwM s M2 109 i = S 109 i := fun i => by rw [hv2, ldG_f (by decide) (by decide) (by decide) (by decide) (by decide)]; exact q109 i
      have hd : S 93 0 + 1 = nI (t + 1) := by rw [h93, nI_1]
      unfold w_X12_day_171
      refine LP4_c2 0 (tn (S 34 0)) (fun k (u w : Int32) M' => u = nI (t + 1) ∧ w = v ∧ vwM s M' = saG (S 93 0 + 1) v (mi M 104 s) (vwM s M2) k ∧ FJ (PD s) M M') rfl (Nat.zero_le _) ⟨rfl, rfl, rfl, hF2⟩ ?_
      intro k u w M3 hk _ ⟨eu, ew, hv3, hF3⟩ K3 hK3
      subst eu ew
      have e34 : vwM s M3 34 0 = S 34 0 := by rw [hv3, saG_f (by decide) (by decide) (by decide) (by decide) (by decide) (by decide) (by decide), l34]
      have d3 : mi M3 104 s = mi M 104 s := hF3.1 104 s (by unfold PD; omega)
      unfold w_X12_day_174
      rw [rM_34 (s := s), e34, n3]
      refine ⟨fun hlt => ?_, fun hge => ?_⟩
      · rw [nI_lt' (by omega) (by omega)] at hlt
        have hk8 : k < 8 := by omega
        have g3 : gdT (t + 1) (vwM s M3) := by rw [hv3]; exact gd_saG g2 hd (by omega) (by omega) (Nat.le_refl _) k (by omega)
        refine m_sails (t := t) hs hk8 g3 rfl (by omega) ?_ (fun M4 hv4 hF4 x hx => ?_)
        · rw [hv3, saG_115 (Nat.le_refl k)]
          have := (g2.2.2.2.2.2.2.2.2.2.2.1 k hk8).2.2.2.2.2.1
          exact this
        · rw [hx, nI_1]
          refine hK3 hlt _ _ M4 ⟨rfl, rfl, ?_, hF3.tr hF4⟩
          rw [hv4, d3, hv3, ← hd]; rfl
      · rw [nI_lt' (by omega) (by omega)] at hge
        have ek : k = tn (S 34 0) := by omega
        subst ek
        have f93 : vwM s M3 93 0 = nI t := by rw [hv3, saG_f (by decide) (by decide) (by decide) (by decide) (by decide) (by decide) (by decide), l93]; exact h93
        have f28 : vwM s M3 28 0 = S 28 0 := by rw [hv3, saG_f (by decide) (by decide) (by decide) (by decide) (by decide) (by decide) (by decide), l28]
        have f109 : ∀ i, vwM s M3 109 i = S 109 i := fun i => by rw [hv3, saG_f (by decide) (by decide) (by decide) (by decide) (by decide) (by decide) (by decide), l109]
        have g3 : gdT (t + 1) (vwM s M3) := by rw [hv3]; exact gd_saG g2 hd (by omega) (by omega) (Nat.le_refl _) _ n4
        have z3 : zmM s M3 := fun j i h1 h2 h3 => by
          rw [hF3.1 92 28 (by unfold PD; omega)] at h2
          rw [hF3.1 117 _ (by unfold PD; omega), hF3.1 118 _ (by unfold PD; omega)]
          exact hz j i h1 h2 h3
        have e99 : mi M3 99 s = mi M 99 s := hF3.1 99 s (by unfold PD; omega)
        have e990 : mi M3 99 0 = mi M 99 0 := hF3.1 99 0 (by unfold PD; omega)
        have e128 : ∀ j, mi M3 128 j = mi M 128 j := fun j => hF3.1 128 j (by unfold PD; omega)
        have e117 : ∀ j, mi M3 117 j = mi M 117 j := fun j => hF3.1 117 j (by unfold PD; omega)
        have e118 : ∀ j, mi M3 118 j = mi M 118 j := fun j => hF3.1 118 j (by unfold PD; omega)
        have fin : ∀ y : Int32, y = (if w = 3 then 2 * vwM s M3 97 0 else vwM s M3 97 0) → w_X12_day_223 L (nI s) p1 p2 (nI (t + 1)) y M3 Q := fun y hy => by
          refine m_end hs g3 ht f93 z3 (fun i hi => by rw [f109]; exact hal i hi) (fun M9 hv9 hF9 hb9 hz9 a1 a2 a3 a4 => ?_) y hy
          refine h M9 ?_ ((hF3.mono (fun a k q => Or.inl q)).tr hF9) hb9 hz9 (fun s0 q => by rw [a1 s0 q, e990]) (fun j hj => by rw [a2 j hj, e128]) (fun j i hj hi hc => ?_) (fun q i hi => ?_)
          · rw [hv9, hv3, hv2]; rfl
          · have := a3 j i hj hi (by rw [f28]; exact hc)
            rw [this.1, this.2, e117, e118]; exact ⟨rfl, rfl⟩
          · have := a4 q i (by rw [f28]; exact hi)
            rw [this.1, this.2, e99, f109, hv9]
            refine ⟨?_, rfl⟩
            have us93 : usF (vwM s M3) w 93 0 = nI t := by unfold usF; rw [u2_f (by decide), u2_f (by decide), u2_f (by decide)]; exact f93
            have hlt : i < tn (usF (vwM s M3) w 28 0) := by unfold usF; rw [u2_f (by decide), u2_f (by decide), u2_f (by decide), f28]; exact hi
            rw [enF_at us93 (by omega), if_neg (c := 117 = 93 ∧ i = 0) (by omega), if_pos (c := (t + 1) % 30 = 0 ∧ 117 = 117 ∧ _) ⟨q, rfl, hlt⟩]
            unfold usF; rw [u2_f (by decide), u2_f (by decide), u2_f (by decide)]
        refine ⟨fun q => ⟨vp_in_nI hs (by decide), ?_⟩, fun q => ⟨vp_in_nI hs (by decide), ?_⟩⟩
        · rw [tn_nI (n := s) (by omega), rM_97]; exact fin _ (by rw [if_pos q])
        · rw [tn_nI (n := s) (by omega), rM_97]; exact fin _ (by rw [if_neg q])
    -- the keels
    refine LP5_c3 0 (tn (S 94 0)) (fun i (u w z : Int32) M' => u = nI (t + 1) ∧ w = v ∧ FJ (PD s) M M' ∧ gdT t (vwM s M') ∧ vwM s M' 94 0 = S 94 0 ∧ vwM s M' 34 0 = S 34 0 ∧
        ((z = 1 ∧ ldG held (tn (S 94 0)) (digF S) = ldG held (tn (S 94 0) - i) (vwM s M')) ∨ (z = 0 ∧ vwM s M' = ldG held (tn (S 94 0)) (digF S)))) rfl (Nat.zero_le _) ⟨rfl, rfl, hF, by rw [hv]; exact g1, by rw [hv]; exact q94, by rw [hv]; exact q34, Or.inl ⟨rfl, by rw [hv, Nat.sub_zero]⟩⟩ ?_
    intro i u w z M2 hi _ ⟨eu, ew, hF2, g2, i94, i34, hc⟩ K2 hK2
    subst eu ew
    unfold w_X12_day_142
    rw [tn_nI (n := s) (by omega), rM_94, i94, n5]
    refine ⟨vp_in_nI hs (by decide), fun hlt => ⟨fun hz0 => ?_, fun hz1 => ?_⟩, fun hge => ?_⟩
    · rcases hc with ⟨c0, c1⟩ | ⟨c0, c1⟩
      · exact absurd (c0.symm.trans hz0) (by decide)
      · exact sea M2 c1 hF2
    · rw [nI_lt' (by omega) (by omega)] at hlt
      rcases hc with ⟨c0, c1⟩ | ⟨c0, c1⟩
      · rw [show tn (S 94 0) - i = (tn (S 94 0) - (i + 1)) + 1 from by omega] at c1
        rw [ldG_s, i34] at c1
        refine m_loads hs g2 held (by rw [hh, hF2.1 99 s (by unfold PD; omega)]) (fun hp x hx => ?_) (fun M3 b o hb hr ho hpk hv3 hF3 x hx => ?_)
        · rw [i34] at hp
          rw [if_pos hp] at c1
          rw [hx, nI_1]
          exact hK2 hlt _ _ 0 M2 ⟨rfl, rfl, hF2, g2, i94, i34, Or.inr ⟨rfl, c1.symm⟩⟩
        · rw [i34] at hpk
          rw [hpk] at c1
          rw [if_neg (nI_pos (by omega))] at c1
          rw [hx, nI_1]
          refine hK2 hlt _ _ 1 M3 ⟨rfl, rfl, hF2.tr hF3, by rw [hv3]; exact gd_ldU g2 hb hr ho, ?_, ?_, Or.inl ⟨rfl, by rw [c1, hv3]⟩⟩
          · rw [hv3, ldU_f (by decide) (by decide) (by decide) (by decide) (by decide)]; exact i94
          · rw [hv3, ldU_f (by decide) (by decide) (by decide) (by decide) (by decide)]; exact i34
      · exact absurd c0 hz1
    · rw [nI_lt' (by omega) (by omega)] at hge
      rcases hc with ⟨c0, c1⟩ | ⟨c0, c1⟩
      · rw [show tn (S 94 0) - i = 0 from by omega] at c1
        exact sea M2 c1.symm hF2
      · exact sea M2 c1 hF2
