-- LEVEL 3, part 16: weights and parts in the reference
theorem cmp_lN {a : Nat} (ha : a < 2 ^ 62) : lg_cmp (lN a) 0 = if a = 0 then 0 else 1 := by
  have z : (0 : Int64) = lN 0 := rfl
  unfold lg_cmp
  rw [z]
  by_cases q : a = 0
  · subst q; rfl
  · rw [if_pos (show lN 0 < lN a from (pk_lLT (by omega) (by omega)).mpr (by omega)), if_neg q]
theorem cz_cp {S : SS} {r issue sum : Int32} {wt : Nat → Int32} {W : Nat → Nat} : ∀ n, (∀ o, o < n → wt o = nI (W o) ∧ W o ≤ 9999) → (∀ o, o < n → ¬ wt o = 0 → ¬ clF S r issue sum wt o < 0) → czN W n = cpF (clF S r issue sum wt) n := by
  intro n
  induction n with
  | zero => intro _ _; rfl
  | succ n ih =>
    intro h1 h2
    have e := (h1 n (by omega)).1
    have hw := (h1 n (by omega)).2
    unfold czN cpF
    rw [ih (fun o ho => h1 o (by omega)) (fun o ho => h2 o (by omega))]
    by_cases q : W n = 0
    · have w0 : wt n = 0 := by rw [e, q]; rfl
      have : clF S r issue sum wt n = -1 := by unfold clF; rw [if_pos w0]
      rw [if_pos q, this, if_pos (by decide)]
    · have w0 : ¬ wt n = 0 := by rw [e]; exact nI_ne0 (by omega) (by omega)
      rw [if_neg q, if_neg (h2 n (by omega) w0)]
-- from the parts on: the law's word on rests, then the rests
theorem m_parts {L : Lay} {T s t p I : Nat} {S : SS} {v p1 : Int32} {P : Pc} {wt : Nat → Int32} {W : Nat → Nat} {M0 M : Mem} {Q : Mem → Prop} (hs : s < 2) (hg : gdT T S) (hp : p ≤ 24) (hP : pacM M p P) (hv : mi M 103 s = v) (ho : vOK v) (h99 : mi M 99 s = nI p)
    (vo : ∀ f i, f ≠ 109 → vwM s M f i = S f i) (hF : FJ (PB s t (tn (S 28 0))) M0 M) (hI : S 100 0 = nI I) (hI2 : I ≤ 9999) (h147 : ∀ o, o < tn (S 28 0) → mi M 147 o = wt o) (hW : ∀ o, wt o = nI (W o) ∧ W o ≤ 9999) (h109 : ∀ i, i < tn (S 28 0) → mi M 109 (10 * s + i) = 0)
    (h : ∀ M', (∀ f i, f ≠ 109 → vwM s M' f i = S f i) → FJ (PB s t (tn (S 28 0))) M0 M' → mi M' 99 s = mi M 99 s → mi M' 101 s = mi M 101 s → (∀ a k, slM 0 a k ∨ 127 ≤ a ∧ a < 138 → mi M' a k = mi M a k) → (∀ i, i < tn (S 28 0) → mi M' 109 (10 * s + i) = alG S (tn (S 28 0)) wt (nI I) (if vdF v 4 = true then -1 else P.2.2.1) i) → w_X12_begins_534 L (nI s) p1 M' Q) :
    w_X12_begins_327 L (nI s) p1 (lN (smN W (tn (S 28 0)))) (if smN W (tn (S 28 0)) = 0 then 0 else nI I) M Q := by
  have hg' := hg
  obtain ⟨n1, n2, -, -, -, -, -, -, -, -, -, gc⟩ := hg'
  have hsm := smN_le (g := W) (c := 9999) (tn (S 28 0)) (fun k _ => (hW k).2)
  have hs2 : smN W (tn (S 28 0)) ≤ 99990 := by
    have : tn (S 28 0) * 9999 ≤ 10 * 9999 := Nat.mul_le_mul_right _ n2
    omega
  have es : smF wt (tn (S 28 0)) = nI (smN W (tn (S 28 0))) := sm_nI _ (fun k _ => (hW k).1)
  -- the claims are never below 0
  have claims : ∀ r, (r = (if vdF v 4 = true then -1 else P.2.2.1)) → 0 < smN W (tn (S 28 0)) → ∀ o, o < tn (S 28 0) → ¬ wt o = 0 → ¬ clF S r (nI I) (smF wt (tn (S 28 0))) wt o < 0 := fun r _ hpos o ho2 hw => by
    unfold clF
    rw [if_neg hw]
    split
    · decide
    · split
      · exact (gc o (by omega)).2.1
      · split
        · exact (gc o (by omega)).1
        · have : I * W o ≤ 9999 * 9999 := Nat.mul_le_mul hI2 (hW o).2
          rw [(hW o).1, es, pk_mul, jrem_nI (by omega) hpos (by omega)]
          exact nI_pos (by have := Nat.mod_lt (I * W o) hpos; omega)
  have fin : ∀ (left : Nat) (M1 : Mem), (∀ f i, f ≠ 109 → vwM s M1 f i = S f i) → FJ (PB s t (tn (S 28 0))) M0 M1 → mi M1 99 s = mi M 99 s → mi M1 101 s = mi M 101 s → (∀ a k, slM 0 a k ∨ 127 ≤ a ∧ a < 138 → mi M1 a k = mi M a k) → mi M1 103 s = v → (∀ o, o < tn (S 28 0) → mi M1 147 o = wt o) → pacM M1 p P →
      (∀ o, o < tn (S 28 0) → ¬ wt o = 0 → mi M1 148 o = jrem (nI I * wt o) (smF wt (tn (S 28 0)))) → (∀ r, (r = (if vdF v 4 = true then -1 else P.2.2.1)) → left ≤ cpF (clF S r (nI I) (smF wt (tn (S 28 0))) wt) (tn (S 28 0))) → (∀ r, (r = (if vdF v 4 = true then -1 else P.2.2.1)) → ∀ o, o < tn (S 28 0) → ¬ wt o = 0 → ¬ clF S r (nI I) (smF wt (tn (S 28 0))) wt o < 0) →
      (∀ r, (r = (if vdF v 4 = true then -1 else P.2.2.1)) → ∀ i, i < tn (S 28 0) → gvG (tn (S 28 0)) left (fun o => mi M1 109 (10 * s + o)) (clF S r (nI I) (smF wt (tn (S 28 0))) wt) i = alG S (tn (S 28 0)) wt (nI I) (if vdF v 4 = true then -1 else P.2.2.1) i) → w_X12_begins_414 L (nI s) p1 (nI left) M1 Q := by
    intro left M1 v1 F1 k99 k101 k135 k103 k147 kP k148 hl hc hres
    unfold w_X12_begins_414
    rw [tn_nI (n := s) (by omega), k103, k99, h99, tn_nI (n := p) (by omega)]
    have hb := vd_b ho (k := 4) (by decide)
    have e16 : nI (2 ^ 4) = 16 := rfl
    rw [e16] at hb
    have go : ∀ by0 r, rsM by0 r → r = (if vdF v 4 = true then -1 else P.2.2.1) → w_X12_begins_441 L (nI s) p1 (nI left) by0 M1 Q := fun by0 r hr er =>
      m_give hs hg hr v1 F1 k147 k148 (hc r er) (hl r er) (fun M' a1 a2 a3 a4 a5 a6 => h M' a1 a2 (a3.trans k99) (a4.trans k101) (fun a k q => (a5 a k q).trans (k135 a k q)) (fun i hi => by rw [a6 i hi]; exact hres r er i hi))
    refine ⟨vp_in_nI hs (by decide), fun c => ⟨vp_in_nI (by omega) (by decide), ?_⟩, fun c => ?_⟩
    · rw [hb] at c
      exact go _ P.2.2.1 kP.2.2.2.2.1 (by rw [c]; rfl)
    · rw [hb] at c
      have c' : vdF v 4 = true := by simpa using c
      exact go (-1) (-1) (Or.inr (Or.inr (Or.inr ⟨rfl, rfl⟩))) (by rw [c']; rfl)
  unfold w_X12_begins_327
  by_cases hz : smN W (tn (S 28 0)) = 0
  · -- nobody has a weight
    have hw0 : ∀ n, smN W n = 0 → ∀ o, o < n → W o = 0 := by
      intro n
      induction n with
      | zero => intro _ o ho; exact absurd ho (by omega)
      | succ n ih =>
        intro hq o ho
        unfold smN at hq
        by_cases c : o = n
        · subst c; omega
        · exact ih (by omega) o (by omega)
    have hwt : ∀ o, o < tn (S 28 0) → wt o = 0 := fun o ho => by rw [(hW o).1, hw0 _ hz o ho]; rfl
    have al0 : alG S (tn (S 28 0)) wt (nI I) (if vdF v 4 = true then -1 else P.2.2.1) = fun _ => 0 := by
      unfold alG; rw [if_pos (by rw [es, hz]; rfl)]
    have f0 : w_X12_begins_414 L (nI s) p1 (nI 0) M Q := fin 0 M vo hF rfl rfl (fun _ _ _ => rfl) hv h147 hP (fun o ho hn => absurd (hwt o ho) hn) (fun r _ => Nat.zero_le _) (fun r _ o ho hn => absurd (hwt o ho) hn) (fun r _ i hi => by rw [al0]; exact h109 i hi)
    rw [hz, if_pos rfl]
    refine LP4_m (fun z (v4 : Int64) (v6 v7 : Int32) M' => v4 = lN 0 ∧ v6 = 0 ∧ v7 = nI 0 ∧ M' = M) 0 ⟨rfl, rfl, rfl, rfl⟩ ?_
    intro z v4 v6 v7 M1 ⟨e1, e2, e3, e4⟩ K hK
    subst e1 e2 e3 e4
    unfold w_X12_begins_332
    rw [cmp_lN (by omega), if_pos rfl]
    exact ⟨fun _ => ⟨fun q => absurd q (by decide), fun _ => f0⟩, fun _ => f0⟩
  · have hpos : 0 < smN W (tn (S 28 0)) := by omega
    obtain ⟨pl1, -⟩ := parts_left (I := I) (W := W) (n := tn (S 28 0)) hpos
    have pl2 := parts_left2 (I := I) (W := W) (n := tn (S 28 0)) hpos
    have eb : ∀ o, nI I * wt o / smF wt (tn (S 28 0)) = nI (I * W o / smN W (tn (S 28 0))) := fun o => by
      have : I * W o ≤ 9999 * 9999 := Nat.mul_le_mul hI2 (hW o).2
      rw [(hW o).1, es, pk_mul, pk_div (by omega) hpos (by omega)]
    have er : ∀ o, jrem (nI I * wt o) (smF wt (tn (S 28 0))) = nI (I * W o % smN W (tn (S 28 0))) := fun o => by
      have : I * W o ≤ 9999 * 9999 := Nat.mul_le_mul hI2 (hW o).2
      rw [(hW o).1, es, pk_mul, jrem_nI (by omega) hpos (by omega)]
    have h0n : ¬ smF wt (tn (S 28 0)) = 0 := by rw [es]; exact nI_ne0 hpos (by omega)
    rw [if_neg hz]
    have hmono : ∀ i m, i ≤ m → smN (fun k => I * W k / smN W (tn (S 28 0))) i ≤ smN (fun k => I * W k / smN W (tn (S 28 0))) m := by
      intro i m hm
      induction m with
      | zero => have : i = 0 := by omega
                subst this; exact Nat.le_refl _
      | succ m ih =>
        by_cases q : i = m + 1
        · rw [q]; exact Nat.le_refl _
        · exact Nat.le_trans (ih (by omega)) (Nat.le_add_right _ _)
    refine LP4_c2 0 (tn (S 28 0)) (fun i (v4 : Int64) (v6 : Int32) M' => v4 = lN (smN W (tn (S 28 0))) ∧ v6 = nI (I - smN (fun k => I * W k / smN W (tn (S 28 0))) i) ∧ (∀ f j, f ≠ 109 → vwM s M' f j = S f j) ∧ FJ (PB s t (tn (S 28 0))) M0 M' ∧ mi M' 99 s = mi M 99 s ∧ mi M' 101 s = mi M 101 s ∧ mi M' 103 s = v ∧
        (∀ a k, slM 0 a k ∨ 127 ≤ a ∧ a < 138 → mi M' a k = mi M a k) ∧ (∀ o, mi M' 147 o = mi M 147 o) ∧ (∀ j, j < i → mi M' 109 (10 * s + j) = nI I * wt j / smF wt (tn (S 28 0))) ∧ (∀ j, j < i → mi M' 148 j = jrem (nI I * wt j) (smF wt (tn (S 28 0)))) ∧ pacM M' p P) rfl (Nat.zero_le _)
      ⟨rfl, by rw [show smN (fun k => I * W k / smN W (tn (S 28 0))) 0 = 0 from rfl, Nat.sub_zero], vo, hF, rfl, rfl, hv, fun _ _ _ => rfl, fun _ => rfl, fun j hj => absurd hj (by omega), fun j hj => absurd hj (by omega), hP⟩ ?_
    intro i v4 v6 M1 hi _ ⟨e4, e6, v1, F1, k99, k101, k103, k135, k147, a109, a148, kP⟩ K hK
    subst e4 e6
    unfold w_X12_begins_332
    rw [rM_28 (s := s), v1 28 0 (by decide), cmp_lN (by omega), if_neg hz]
    refine ⟨fun hlt => ⟨fun _ => ?_, fun q => absurd (by decide) q⟩, fun hge => ?_⟩
    · rw [ltN n1 (by omega)] at hlt
      have hi10 : i < 10 := by omega
      have hIW : I * W i ≤ 9999 * 9999 := Nat.mul_le_mul hI2 (hW i).2
      have e100 : mi M1 100 s = nI I := by rw [rM_100, v1 100 0 (by decide)]; exact hI
      have e147 : mi M1 147 i = nI (W i) := by rw [k147, h147 i hlt]; exact (hW i).1
      rw [tn_nI (n := s) (by omega), tn_nI (n := i) (by omega), e100, e147, nI_l (by omega), nI_l (by have := (hW i).2; omega), lN_mul, ixm10, tn_nI (n := 10 * s + i) (by omega)]
      refine ⟨vp_in_nI hs (by decide), vp_in_nI hi10 (by decide), fun x hx => ?_⟩
      subst hx
      have ed : lN (I * W i) / lN (smN W (tn (S 28 0))) = lN (I * W i / smN W (tn (S 28 0))) := pk_lDiv (by omega) hpos (by omega)
      have em : jlrem (lN (I * W i)) (lN (smN W (tn (S 28 0)))) = lN (I * W i % smN W (tn (S 28 0))) := pk_lRem (by omega) hpos (by omega)
      rw [ed, em, lN_i, lN_i]
      refine ⟨fun q => hz ((pk_lEQ (b := 0) (by omega) (by omega)).mp q), vp_in_nI (by omega) (by decide), fun M2 e2 M3 e3 y hy w hw => ?_⟩
      rw [hw, nI_1]
      have hstep : smN (fun k => I * W k / smN W (tn (S 28 0))) (i + 1) = smN (fun k => I * W k / smN W (tn (S 28 0))) i + I * W i / smN W (tn (S 28 0)) := rfl
      have hle2 : smN (fun k => I * W k / smN W (tn (S 28 0))) (i + 1) ≤ I := Nat.le_trans (hmono _ (tn (S 28 0)) (by omega)) pl1
      have keep : ∀ a k, a ≠ 109 → a ≠ 148 → mi M3 a k = mi M1 a k := fun a k h1 h2 => by rw [e3, mi_si, if_neg (fun q => h2 q.1), e2, mi_si, if_neg (fun q => h1 q.1)]
      refine hK hlt _ _ M3 ⟨rfl, ?_, fun f j hf => ?_, ?_, by rw [keep 99 s (by decide) (by decide)]; exact k99, by rw [keep 101 s (by decide) (by decide)]; exact k101, by rw [keep 103 s (by decide) (by decide)]; exact k103, fun a k ha => by rw [keep a k (by unfold slM at ha; omega) (by unfold slM at ha; omega)]; exact k135 a k ha, fun o => by rw [keep 147 o (by decide) (by decide)]; exact k147 o, fun j hj => ?_, fun j hj => ?_, pacM_cg (fun a k q => keep a k (by unfold slM at q; omega) (by unfold slM at q; omega)) kP⟩
      · rw [hy, hstep, pk_sub (by omega)]
        exact congrArg nI (by omega)
      · rw [← v1 f j hf]
        exact vwM_n hf (fun a k h1 h2 _ _ _ _ _ _ h9 => keep a k h9 (by omega))
      · rw [e3, e2]; refine (F1.si ?_).si ?_ <;> unfold PB <;> omega
      · rw [e3, mi_si, if_neg (fun q => by omega), e2, mi_si]
        by_cases q : j = i
        · subst q; rw [if_pos ⟨rfl, rfl⟩, eb]
        · rw [if_neg (fun z => by omega)]; exact a109 j (by omega)
      · rw [e3, mi_si]
        by_cases q : j = i
        · subst q; rw [if_pos ⟨rfl, rfl⟩, er]
        · rw [if_neg (fun z => by omega), e2, mi_si, if_neg (fun z => by omega)]; exact a148 j (by omega)
    · rw [ltN n1 (by omega)] at hge
      have ei : i = tn (S 28 0) := by omega
      subst ei
      refine fin _ M1 v1 F1 k99 k101 k135 k103 (fun o ho => by rw [k147]; exact h147 o ho) kP (fun o ho _ => a148 o ho) (fun r hr => ?_) (fun r hr => claims r hr hpos) (fun r hr i hi => ?_)
      · rw [← cz_cp (tn (S 28 0)) (fun o _ => hW o) (claims r hr hpos)]; exact pl2
      · unfold alG
        rw [if_neg h0n]
        have el : tn (nI I - smF (fun o => nI I * wt o / smF wt (tn (S 28 0))) (tn (S 28 0))) = I - smN (fun k => I * W k / smN W (tn (S 28 0))) (tn (S 28 0)) := by
          rw [sm_nI (g := fun k => I * W k / smN W (tn (S 28 0))) _ (fun k _ => eb k), pk_sub pl1, tn_nI (by omega)]
        rw [el, ← hr]
        exact gv_cg (by omega) _ _ _ _ _ (fun k hk => a109 k hk) (fun _ _ => rfl) i hi
