-- LEVEL 3, part 19: what a month allots is never less than none; the month's first day of the reference, whole
theorem gv_rng {n : Nat} (hn : n < 2 ^ 30) : ∀ r (B : Nat) (al cl : Nat → Int32), B + r < 2 ^ 31 → (∀ i, i < n → ∃ m, m ≤ B ∧ al i = nI m) → ∀ i, i < n → ∃ m, m ≤ B + r ∧ gvG n r al cl i = nI m := by
  intro r
  induction r with
  | zero => intro B al cl _ h i hi; exact h i hi
  | succ r ih =>
    intro B al cl hb h i hi
    unfold gvG
    split
    · obtain ⟨m, h1, h2⟩ := h i hi; exact ⟨m, by omega, h2⟩
    · rename_i hne
      rcases ag_rng (cl := cl) n with q | ⟨j, hj, q⟩
      · exact absurd q hne
      · rw [q, tn_nI (by omega)]
        have key := ih (B + 1) (upd al j (al j + 1)) (upd cl j (-1)) (by omega) (fun k hk => by
          unfold upd
          by_cases c : k = j
          · rw [if_pos c]; obtain ⟨m, h1, h2⟩ := h j hj; exact ⟨m + 1, by omega, by rw [h2, nI_1]⟩
          · rw [if_neg c]; obtain ⟨m, h1, h2⟩ := h k hk; exact ⟨m, by omega, h2⟩) i hi
        obtain ⟨m, h1, h2⟩ := key
        exact ⟨m, by omega, h2⟩
theorem smN_mem {g : Nat → Nat} : ∀ n k, k < n → g k ≤ smN g n := by
  intro n
  induction n with
  | zero => intro k hk; omega
  | succ n ih =>
    intro k hk
    unfold smN
    by_cases q : k = n
    · subst q; omega
    · have := ih k (by omega); omega
theorem alF_rng {T : Nat} {S : SS} {P : Pc} {v : Int32} {I i : Nat} (hg : gdT T S) (hI : I ≤ 9999) (hi : i < tn (S 28 0)) : ∃ m, m ≤ 10009 ∧ alF S P v (nI I) i = nI m := by
  obtain ⟨n1, n2, -⟩ := hg
  have hW2 : ∀ o, wtF S P v o = nI (tn (wtF S P v o)) ∧ tn (wtF S P v o) ≤ 9999 := fun o => by
    obtain ⟨n, h1, h2⟩ := wtF_rng (S := S) (P := P) (v := v) (o := o)
    rw [h2]; exact ⟨by rw [tn_nI (by omega)], by rw [tn_nI (by omega)]; exact h1⟩
  rw [alF_G]
  generalize wtF S P v = wt at *
  unfold alG
  by_cases h0 : smF wt (tn (S 28 0)) = 0
  · rw [if_pos h0]; exact ⟨0, by omega, rfl⟩
  · rw [if_neg h0]
    have es : smF wt (tn (S 28 0)) = nI (smN (fun o => tn (wt o)) (tn (S 28 0))) := sm_nI _ (fun k _ => (hW2 k).1)
    have sb : smN (fun o => tn (wt o)) (tn (S 28 0)) ≤ tn (S 28 0) * 9999 := smN_le _ (fun k _ => (hW2 k).2)
    have sb2 : tn (S 28 0) * 9999 ≤ 10 * 9999 := Nat.mul_le_mul_right _ n2
    have hpos : 0 < smN (fun o => tn (wt o)) (tn (S 28 0)) := by
      apply Nat.pos_of_ne_zero
      intro q
      rw [es, q] at h0
      exact h0 rfl
    obtain ⟨pl1, pl2⟩ := parts_left (I := I) (W := fun o => tn (wt o)) (n := tn (S 28 0)) hpos
    have eb : (fun o => nI I * wt o / smF wt (tn (S 28 0))) = fun o => nI (I * tn (wt o) / smN (fun o => tn (wt o)) (tn (S 28 0))) := funext fun o => by
      have : I * tn (wt o) ≤ 9999 * 9999 := Nat.mul_le_mul hI (hW2 o).2
      rw [es]
      conv => lhs; rw [(hW2 o).1]
      rw [pk_mul, pk_div (by omega) hpos (by omega)]
    rw [eb, sm_nI (g := fun k => I * tn (wt k) / smN (fun o => tn (wt o)) (tn (S 28 0))) _ (fun k _ => rfl), pk_sub pl1, tn_nI (by omega)]
    obtain ⟨m, h1, h2⟩ := gv_rng (n := tn (S 28 0)) (by omega) (I - smN (fun k => I * tn (wt k) / smN (fun o => tn (wt o)) (tn (S 28 0))) (tn (S 28 0))) 9999 (fun o => nI (I * tn (wt o) / smN (fun o => tn (wt o)) (tn (S 28 0)))) (clF S (if vdF v 4 = true then -1 else P.2.2.1) (nI I) (smF wt (tn (S 28 0))) wt) (by omega) (fun k hk => ⟨_, by
      have := smN_mem (g := fun k => I * tn (wt k) / smN (fun o => tn (wt o)) (tn (S 28 0))) _ k hk
      omega, rfl⟩) i hi
    exact ⟨m, by omega, h2⟩
theorem bgS_109 {T : Nat} {S : SS} {v iss : Int32} {p : Option Pc} (hg : gdT T S) (hi : iss = -1 ∨ ∃ k, k ≤ 9999 ∧ iss = nI k) (i : Nat) : ¬ bgS S v iss p 109 i < 0 := by
  cases p with
  | none =>
    show ¬ (if 109 = 109 then (0 : Int32) else if 109 = 108 ∧ i < tn (S 28 0) then 0 else S 109 i) < 0
    rw [if_pos (c := 109 = 109) rfl]; decide
  | some P =>
    show ¬ (if 109 = 109 then (if i < tn (S 28 0) then alF S P v (isF S P v iss) i else 0) else if 109 = 108 ∧ i < tn (S 28 0) then 0 else if 109 = 100 ∧ i = 0 then isF S P v iss else S 109 i) < 0
    rw [if_pos (c := 109 = 109) rfl]
    obtain ⟨I, hI1, hI2⟩ := isF_rng (S := S) (P := P) (v := v) hi
    by_cases q : i < tn (S 28 0)
    · rw [if_pos q, hI2]
      obtain ⟨m, h1, h2⟩ := alF_rng (P := P) (v := v) hg hI1 q
      rw [h2]; exact nI_pos (by omega)
    · rw [if_neg q]; decide
-- the pact falls, or does not
theorem m_131 {L : Lay} {T s t : Nat} {S : SS} {v iss : Int32} {p : Option Pc} {v3 : Int32} {M0 M : Mem} {Q : Mem → Prop} (hs : s < 2) (hg : gdT T S) (hv : mi M 103 s = v) (ho : vOK v) (hz : hzM s M) (h68 : mi M 92 68 = -1) (h69 : mi M 92 69 = 0)
    (hop : opM M (mi M 99 s) p) (h3 : v3 = 0 ∧ bgP S v p = p ∨ ¬ v3 = 0 ∧ bgP S v p = none) (vo : ∀ f i, f ≠ 109 → vwM s M f i = S f i) (hF : FJ (PB s t (tn (S 28 0))) M0 M) (hi : iss = -1 ∨ ∃ k, k ≤ 9999 ∧ iss = nI k) (zr : ∀ i, tn (S 28 0) ≤ i → i < 10 → mi M 109 (10 * s + i) = 0)
    (h : ∀ M', vwM s M' = bgS S v iss (bgP S v p) → FJ (PB s t (tn (S 28 0))) M0 M' → (mi M' 99 s = -1 ∨ mi M' 99 s = mi M 99 s) → mi M' 101 s = mi M 101 s → opM M' (mi M' 99 s) (bgP S v p) → (∀ i, tn (S 28 0) ≤ i → i < 10 → mi M' 109 (10 * s + i) = 0) → Q M') : w_X12_begins_131 L (nI s) iss v3 M Q := by
  unfold w_X12_begins_131
  rw [tn_nI (n := s) (by omega)]
  refine ⟨fun c => ?_, fun c => ⟨vp_in_nI hs (by decide), fun M2 e2 => ?_⟩⟩
  · have e : bgP S v p = p := by
      rcases h3 with ⟨-, q⟩ | ⟨q, -⟩
      · exact q
      · exact absurd c q
    refine m_142 (t := t) (M0 := M0) hs hg hv ho hz h68 h69 hop vo hF hi zr (fun M' a1 a2 a3 a4 a5 a6 => h M' (by rw [e]; exact a1) a2 (Or.inr a3) a4 (by rw [e, a3]; exact opM_cg (fun a k x y => a5 a k (by omega)) hop) a6)
  · have e : bgP S v p = none := by
      rcases h3 with ⟨q, -⟩ | ⟨-, q⟩
      · exact absurd q c
      · exact q
    have r : ∀ a k, a ≠ 99 → mi M2 a k = mi M a k := fun a k ha => by rw [e2, mi_si, if_neg (fun q => ha q.1)]
    have r99 : mi M2 99 s = -1 := by rw [e2, mi_si, if_pos ⟨rfl, rfl⟩]
    refine m_142 (t := t) (p2 := none) (M0 := M0) hs hg (by rw [r 103 s (by decide)]; exact hv) ho (fun d hd => by rw [r 119 _ (by decide)]; exact hz d hd) (by rw [r 92 68 (by decide)]; exact h68) (by rw [r 92 69 (by decide)]; exact h69)
      (Or.inl ⟨r99, rfl⟩) (fun f i hf => by rw [← vo f i hf]; exact vwM_n hf (fun a k _ _ _ h4 _ _ _ _ _ => r a k h4)) (by rw [e2]; exact hF.si (by unfold PB; omega)) hi (fun i a b => by rw [r 109 _ (by decide)]; exact zr i a b)
      (fun M' a1 a2 a3 a4 a5 a6 => h M' (by rw [e]; exact a1) a2 (Or.inl (a3.trans r99)) (a4.trans (r 101 s (by decide))) (by rw [e, a3, r99]; exact Or.inl ⟨rfl, rfl⟩) a6)
-- from the pact that is meant to hold on
theorem m_53 {L : Lay} {T s t : Nat} {S : SS} {v iss : Int32} {p : Option Pc} {M0 M : Mem} {Q : Mem → Prop} (hs : s < 2) (hg : gdT T S) (hv : mi M 103 s = v) (ho : vOK v) (hz : hzM s M)
    (hop : opM M (mi M 99 s) p) (vo : ∀ f i, f ≠ 109 → vwM s M f i = S f i) (hF : FJ (PB s t (tn (S 28 0))) M0 M) (hi : iss = -1 ∨ ∃ k, k ≤ 9999 ∧ iss = nI k) (zr : ∀ i, tn (S 28 0) ≤ i → i < 10 → mi M 109 (10 * s + i) = 0)
    (h : ∀ M', vwM s M' = bgS S v iss (bgP S v p) → FJ (PB s t (tn (S 28 0))) M0 M' → (mi M' 99 s = -1 ∨ mi M' 99 s = mi M 99 s) → mi M' 101 s = mi M 101 s → opM M' (mi M' 99 s) (bgP S v p) → (∀ i, tn (S 28 0) ≤ i → i < 10 → mi M' 109 (10 * s + i) = 0) → Q M') : w_X12_begins_53 L (nI s) iss M Q := by
  unfold w_X12_begins_53
  rw [tn_nI (n := s) (by omega)]
  intro M1 e1 M2 e2
  have r : ∀ a k, ¬ (a = 92 ∧ (k = 68 ∨ k = 69)) → mi M2 a k = mi M a k := fun a k ha => by
    rw [e2, mi_si, if_neg (fun q => by omega), e1, mi_si, if_neg (fun q => by omega)]
  have r69 : mi M2 92 69 = 0 := by rw [e2, mi_si, if_pos ⟨rfl, rfl⟩]
  have r68 : mi M2 92 68 = -1 := by rw [e2, mi_si, if_neg (fun q => by omega), e1, mi_si, if_pos ⟨rfl, rfl⟩]
  have r99 : mi M2 99 s = mi M 99 s := r 99 s (by omega)
  have v2 : ∀ f i, f ≠ 109 → vwM s M2 f i = S f i := fun f i hf => by rw [← vo f i hf]; exact vwM_n hf (fun a k _ _ c _ _ _ _ _ _ => r a k (fun q => by have := c q.1; omega))
  have F2 : FJ (PB s t (tn (S 28 0))) M0 M2 := by
    rw [e2, e1]
    refine (hF.si ?_).si ?_ <;> (unfold PB; omega)
  have go : ∀ (v3 : Int32) (M3 : Mem), FJ PX M2 M3 → (v3 = 0 ∧ bgP S v p = p ∨ ¬ v3 = 0 ∧ bgP S v p = none) → w_X12_begins_131 L (nI s) iss v3 M3 Q := fun v3 M3 F3 h3 => by
    have q : ∀ a k, ¬ (138 ≤ a ∧ a ≤ 146) → mi M3 a k = mi M2 a k := fun a k c => F3.1 a k c
    refine m_131 (t := t) (M0 := M0) hs hg (by rw [q 103 s (by omega), r 103 s (by omega)]; exact hv) ho (PX_z F3 (fun d hd => by rw [r 119 _ (by omega)]; exact hz d hd)) (by rw [q 92 68 (by omega)]; exact r68) (by rw [q 92 69 (by omega)]; exact r69)
      (by rw [q 99 s (by omega), r99]; exact opM_cg (fun a k x y => by rw [q a k (by omega), r a k (by omega)]) hop) h3 (fun f i hf => by rw [PX_v F3]; exact v2 f i hf) (F2.tr (F3.mono (fun a k c => by unfold PX at c; unfold PB; omega))) hi
      (fun i a b => by rw [q 109 _ (by omega), r 109 _ (by omega)]; exact zr i a b)
      (fun M' a1 a2 a3 a4 a5 a6 => h M' a1 a2 (by rw [q 99 s (by omega), r99] at a3; exact a3) (by rw [a4, q 101 s (by omega), r 101 s (by omega)]) a5 a6)
  rw [r99]
  refine ⟨vp_in_nI hs (by decide), ?_⟩
  rcases hop with ⟨q1, q2⟩ | ⟨p0, P, q1, q2, q3, q4⟩
  · subst q2
    rw [q1]
    exact ⟨fun _ => go 0 M2 FJ.rf (Or.inl ⟨rfl, rfl⟩), fun c => absurd (by decide) c⟩
  · subst q3
    have hneg : ¬ mi M 99 s < 0 := by rw [q1]; exact nI_pos (by omega)
    refine ⟨fun c => absurd c hneg, fun _ => ?_⟩
    have e8 : (mi M2 103 s &&& 8 = 0) = (vdF v 3 = false) := by
      rw [r 103 s (by omega), hv]; exact vd_b (k := 3) ho (by omega)
    have P2 : pacM M2 p0 P := pacM_cg (fun a k q => r a k (by unfold slM at q; omega)) q4
    refine ⟨fun c => ?_, fun c => ?_⟩
    · rw [e8] at c
      obtain ⟨-, -, -, ⟨nf, xs, f1, f2, f3, f4⟩, -⟩ := P2
      have ef : fmF s M2 = gfF S := by
        funext j
        rw [fmF_n (by rw [r68]; decide), gf_cg (fun f i c1 _ _ => v2 f i c1), r69]
        by_cases q : j = 6
        · rw [if_pos q, q]; rfl
        · rw [if_neg q]
      have g2 : gdT T (vwM s M2) := gd_X (fun f i c1 _ _ => v2 f i c1) hg
      refine LP3_c1 0 nf (fun j (v3 : Int32) M' => FJ PX M2 M' ∧ (¬ v3 = 0 ↔ ∃ k, k < j ∧ ¬ xs k (gfF S) = 0)) rfl (Nat.zero_le _) ⟨FJ.rf, fun q => absurd rfl q, fun ⟨k, hk, _⟩ => by omega⟩ ?_
      intro j v3 M3 hj _ ⟨F3, h3⟩ K hK
      unfold w_X12_begins_89
      have e99 : mi M3 99 s = nI p0 := by rw [F3.1 99 s (by unfold PX; omega), r99]; exact q1
      have e132 : mi M3 132 p0 = nI nf := by rw [F3.1 132 p0 (by unfold PX; omega)]; exact f2
      rw [tn_nI (n := s) (by omega), e99, tn_nI (n := p0) (by omega), e132]
      refine ⟨vp_in_nI hs (by decide), vp_in_nI (by omega) (by decide), fun hlt => ?_, fun hge => ?_⟩
      · rw [nI_lt' (by omega) (by omega)] at hlt
        rw [show (3 : Int32) = nI 3 from rfl, nI_add]
        have F23 : FJ PX M2 M3 := F3
        refine m_val (k := 3 + j) (x := xs j) hs (by rw [PX_v F3]; exact g2) (PX_z F3 (fun d hd => by rw [r 119 _ (by omega)]; exact hz d hd)) (Or.inl (by rw [F3.1 92 68 (by unfold PX; omega)]; exact r68)) (by omega) (by omega)
          (lineM_cg (by omega) (fun a k q => F3.1 a k (by unfold slM at q; unfold PX; omega)) (f3 j hlt)) (fun M4 F4 => ?_)
        rw [PX_f F3, ef]
        have nx : ∀ (w3 : Int32), (¬ w3 = 0 ↔ ∃ k, k < j + 1 ∧ ¬ xs k (gfF S) = 0) → ∀ x : Int32, x = nI j + 1 → K w3 x M4 := fun w3 hw x hx => by
          rw [hx, nI_1]; exact hK hlt w3 M4 ⟨F3.tr F4, hw⟩
        refine ⟨fun z => nx v3 ⟨fun q => ?_, fun ⟨k, hk, q⟩ => h3.mpr ⟨k, ?_, q⟩⟩, fun z => nx 1 ⟨fun _ => ⟨j, by omega, z⟩, fun _ => by decide⟩⟩
        · obtain ⟨k, hk, q2⟩ := h3.mp q; exact ⟨k, by omega, q2⟩
        · by_cases qq : k = j
          · subst qq; exact absurd z q
          · omega
      · rw [nI_lt' (by omega) (by omega)] at hge
        have ej : j = nf := by omega
        subst ej
        refine go v3 M3 F3 ?_
        by_cases z : v3 = 0
        · refine Or.inl ⟨z, ?_⟩
          rw [bgP_s, if_neg]
          rintro ⟨-, q⟩
          exact (h3.mpr ((f4 _).mp q)) z
        · refine Or.inr ⟨z, ?_⟩
          rw [bgP_s, if_pos ⟨c, (f4 _).mpr (h3.mp z)⟩]
    · rw [e8] at c
      refine go 0 M2 FJ.rf (Or.inl ⟨rfl, ?_⟩)
      rw [bgP_s, if_neg (fun q => c q.1)]
