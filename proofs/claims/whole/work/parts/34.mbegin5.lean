-- LEVEL 3, part 18: the month's first day of the reference, whole but for what is in hand
def opM (M : Mem) (x : Int32) (p : Option Pc) : Prop := (x = -1 ∧ p = none) ∨ ∃ q P, x = nI q ∧ q ≤ 24 ∧ p = some P ∧ pacM M q P
theorem opM_cg {M M' : Mem} {x : Int32} {p : Option Pc} (h : ∀ a k, 130 ≤ a → a < 136 → mi M' a k = mi M a k) (ho : opM M x p) : opM M' x p := by
  rcases ho with q | ⟨q, P, h1, h2, h3, h4⟩
  · exact Or.inl q
  · exact Or.inr ⟨q, P, h1, h2, h3, pacM_cg (fun a k z => h a k (by unfold slM at z; omega) (by unfold slM at z; omega)) h4⟩
theorem vw109_at {s i : Nat} {M : Mem} : vwM s M 109 i = if i < 10 ∧ ¬ mi M 99 s < 0 then mi M 109 (10 * s + i) else 0 := by rw [vwM_def, if_pos (c := 109 = 109) rfl]
-- from the pact that holds (or none) on
theorem m_142 {L : Lay} {T s t : Nat} {S : SS} {v iss : Int32} {p2 : Option Pc} {M0 M : Mem} {Q : Mem → Prop} (hs : s < 2) (hg : gdT T S) (hv : mi M 103 s = v) (ho : vOK v) (hz : hzM s M) (h68 : mi M 92 68 = -1) (h69 : mi M 92 69 = 0)
    (hop : opM M (mi M 99 s) p2) (vo : ∀ f i, f ≠ 109 → vwM s M f i = S f i) (hF : FJ (PB s t (tn (S 28 0))) M0 M) (hi : iss = -1 ∨ ∃ k, k ≤ 9999 ∧ iss = nI k) (zr : ∀ i, tn (S 28 0) ≤ i → i < 10 → mi M 109 (10 * s + i) = 0)
    (h : ∀ M', vwM s M' = bgS S v iss p2 → FJ (PB s t (tn (S 28 0))) M0 M' → mi M' 99 s = mi M 99 s → mi M' 101 s = mi M 101 s → (∀ a k, 127 ≤ a ∧ a < 138 → mi M' a k = mi M a k) → (∀ i, tn (S 28 0) ≤ i → i < 10 → mi M' 109 (10 * s + i) = 0) → Q M') : w_X12_begins_142 L (nI s) iss M Q := by
  have hg' := hg
  obtain ⟨n1, n2, -⟩ := hg'
  -- the last step: vended anew
  have fin : ∀ (M5 : Mem), (∀ f i, f ≠ 109 → vwM s M5 f i = (if f = 100 ∧ i = 0 ∧ p2.isSome = true then bgS S v iss p2 100 0 else S f i)) → FJ (PB s t (tn (S 28 0))) M0 M5 → mi M5 99 s = mi M 99 s → mi M5 101 s = mi M 101 s → (∀ a k, 127 ≤ a ∧ a < 138 → mi M5 a k = mi M a k) →
      (∀ i, i < tn (S 28 0) → vwM s M5 109 i = bgS S v iss p2 109 i) → (∀ i, tn (S 28 0) ≤ i → i < 10 → mi M5 109 (10 * s + i) = 0) → w_X12_begins_534 L (nI s) iss M5 Q := by
    intro M5 v5 F5 k99 k101 k127 r109 z109
    have e28 : vwM s M5 28 0 = S 28 0 := by rw [v5 28 0 (by decide), if_neg (fun q => by omega)]
    have g5 : gdT T (vwM s M5) := gd_X (fun f i c1 _ c3 => by rw [v5 f i c1, if_neg (fun q => c3 q.1)]) hg
    refine m_zero hs g5 (fun M6 v6 F6 => h M6 ?_ (F5.tr (F6.mono (fun a k q => by unfold PB; omega))) (by rw [F6.1 99 s (by omega)]; exact k99) (by rw [F6.1 101 s (by omega)]; exact k101) (fun a k q => by rw [F6.1 a k (by omega)]; exact k127 a k q) (fun i a b => by rw [F6.1 109 _ (by omega)]; exact z109 i a b))
    rw [v6, e28]
    funext f i
    show (if f = 108 ∧ i < tn (S 28 0) then 0 else vwM s M5 f i) = _
    have b108 : ∀ i, i < tn (S 28 0) → bgS S v iss p2 108 i = 0 := fun i hi => by
      cases p2 with
      | none => show (if 108 = 109 then 0 else if 108 = 108 ∧ i < tn (S 28 0) then 0 else S 108 i) = 0; rw [if_neg (c := 108 = 109) (by decide), if_pos ⟨rfl, hi⟩]
      | some P => show (if 108 = 109 then (if i < tn (S 28 0) then alF S P v (isF S P v iss) i else 0) else if 108 = 108 ∧ i < tn (S 28 0) then 0 else if 108 = 100 ∧ i = 0 then isF S P v iss else S 108 i) = 0; rw [if_neg (c := 108 = 109) (by decide), if_pos ⟨rfl, hi⟩]
    have b108' : ∀ i, ¬ i < tn (S 28 0) → bgS S v iss p2 108 i = S 108 i := fun i hi => by
      cases p2 with
      | none => show (if 108 = 109 then 0 else if 108 = 108 ∧ i < tn (S 28 0) then 0 else S 108 i) = _; rw [if_neg (c := 108 = 109) (by decide), if_neg (fun q => hi q.2)]
      | some P => show (if 108 = 109 then (if i < tn (S 28 0) then alF S P v (isF S P v iss) i else 0) else if 108 = 108 ∧ i < tn (S 28 0) then 0 else if 108 = 100 ∧ i = 0 then isF S P v iss else S 108 i) = _; rw [if_neg (c := 108 = 109) (by decide), if_neg (c := 108 = 108 ∧ _) (fun q => hi q.2), if_neg (fun q => by omega)]
    have b109' : ∀ i, ¬ i < tn (S 28 0) → bgS S v iss p2 109 i = 0 := fun i hi => by
      cases p2 with
      | none => show (if 109 = 109 then 0 else if 109 = 108 ∧ i < tn (S 28 0) then 0 else S 109 i) = _; rw [if_pos rfl]
      | some P => show (if 109 = 109 then (if i < tn (S 28 0) then alF S P v (isF S P v iss) i else 0) else if 109 = 108 ∧ i < tn (S 28 0) then 0 else if 109 = 100 ∧ i = 0 then isF S P v iss else S 109 i) = _; rw [if_pos (c := 109 = 109) rfl, if_neg hi]
    have b100 : ∀ i, (p2.isSome = false ∨ ¬ i = 0) → bgS S v iss p2 100 i = S 100 i := fun i hi => by
      cases p2 with
      | none => show (if 100 = 109 then 0 else if 100 = 108 ∧ i < tn (S 28 0) then 0 else S 100 i) = _; rw [if_neg (c := 100 = 109) (by decide), if_neg (fun q => by omega)]
      | some P => show (if 100 = 109 then (if i < tn (S 28 0) then alF S P v (isF S P v iss) i else 0) else if 100 = 108 ∧ i < tn (S 28 0) then 0 else if 100 = 100 ∧ i = 0 then isF S P v iss else S 100 i) = _; rw [if_neg (c := 100 = 109) (by decide), if_neg (c := 100 = 108 ∧ _) (fun q => by omega), if_neg (fun q => hi.elim (fun z => by cases z) (fun z => z q.2))]
    by_cases c1 : f = 109
    · subst c1
      rw [if_neg (fun q => by omega)]
      by_cases hi2 : i < tn (S 28 0)
      · exact r109 i hi2
      · rw [b109' i hi2, vw109_at]
        by_cases q : i < 10 ∧ ¬ mi M5 99 s < 0
        · rw [if_pos q]; exact z109 i (by omega) q.1
        · rw [if_neg q]
    · by_cases c2 : f = 108
      · subst c2
        by_cases hi2 : i < tn (S 28 0)
        · rw [if_pos ⟨rfl, hi2⟩, b108 i hi2]
        · rw [if_neg (fun q => hi2 q.2), b108' i hi2, v5 108 i (by decide), if_neg (fun q => by omega)]
      · rw [if_neg (fun q => c2 q.1), v5 f i c1]
        by_cases c3 : f = 100
        · subst c3
          by_cases c4 : i = 0 ∧ p2.isSome = true
          · rw [if_pos ⟨rfl, c4.1, c4.2⟩, c4.1]
          · rw [if_neg (fun q => c4 q.2), b100 i]
            by_cases c5 : i = 0
            · left
              cases hp : p2.isSome with
              | false => rfl
              | true => exact absurd ⟨c5, hp⟩ c4
            · exact Or.inr c5
        · rw [if_neg (fun q => c3 q.1), bgS_f c1 c2 c3]
  unfold w_X12_begins_142
  refine LP2_c0 0 (tn (S 28 0)) (fun i M' => FJ (PB s t (tn (S 28 0))) M0 M' ∧ (∀ a k, a ≠ 109 → mi M' a k = mi M a k) ∧ (∀ k, (k < 10 * s ∨ 10 * s + i ≤ k) → mi M' 109 k = mi M 109 k) ∧ (∀ j, j < i → mi M' 109 (10 * s + j) = if mi M 99 s < 0 then -1 else 0)) rfl (Nat.zero_le _) ⟨hF, fun _ _ _ => rfl, fun _ _ => rfl, fun j hj => absurd hj (by omega)⟩ ?_
  intro i M1 hi2 _ ⟨F1, k1, r1, r2⟩ K hK
  have v1 : ∀ f i, f ≠ 109 → vwM s M1 f i = S f i := fun f i hf => by rw [← vo f i hf]; exact vwM_n hf (fun a k _ _ _ _ _ _ _ _ h9 => k1 a k h9)
  unfold w_X12_begins_145
  rw [rM_28 (s := s), v1 28 0 (by decide), tn_nI (n := s) (by omega), k1 99 s (by decide)]
  refine ⟨fun hlt => ⟨vp_in_nI hs (by decide), fun x hx => ?_⟩, fun hge => ⟨vp_in_nI hs (by decide), ?_⟩⟩
  · rw [ltN n1 (by omega)] at hlt
    rw [ixm10, tn_nI (n := 10 * s + i) (by omega)]
    refine ⟨vp_in_nI (by omega) (by decide), fun M2 e2 y hy => ?_⟩
    rw [hy, nI_1]
    refine hK hlt M2 ⟨?_, fun a k ha => by rw [e2, mi_si, if_neg (fun q => ha q.1)]; exact k1 a k ha, fun k hk => by rw [e2, mi_si, if_neg (fun q => by omega)]; exact r1 k (by omega), fun j hj => ?_⟩
    · rw [e2]; refine F1.si ?_; unfold PB; omega
    · rw [e2, mi_si]
      by_cases q : j = i
      · subst q; rw [if_pos ⟨rfl, rfl⟩]; exact hx
      · rw [if_neg (fun z => by omega)]; exact r2 j (by omega)
  · rw [ltN n1 (by omega)] at hge
    have ei : i = tn (S 28 0) := by omega
    subst ei
    have z1 : ∀ i, tn (S 28 0) ≤ i → i < 10 → mi M1 109 (10 * s + i) = 0 := fun i a b => by rw [r1 _ (by omega)]; exact zr i a b
    rcases hop with ⟨q1, q2⟩ | ⟨p, P, q1, q2, q3, q4⟩
    · subst q2
      rw [q1]
      refine ⟨fun _ => fin M1 (fun f i hf => by rw [v1 f i hf, if_neg (fun q => by cases q.2.2)]) F1 (k1 99 s (by decide)) (k1 101 s (by decide)) (fun a k q => k1 a k (by omega)) (fun i _ => ?_) z1, fun q => absurd (by decide) q⟩
      rw [vw109_at, k1 99 s (by decide), q1, if_neg (fun q => q.2 (by decide))]; rfl
    · subst q3
      have hneg : ¬ mi M 99 s < 0 := by rw [q1]; exact nI_pos (by omega)
      have P1 : pacM M1 p P := pacM_cg (fun a k q => k1 a k (by unfold slM at q; omega)) q4
      have hz1 : hzM s M1 := fun d hd => by rw [k1 119 _ (by decide)]; exact hz d hd
      have ef : fmF s M1 = gfF S := by
        funext j
        rw [fmF_n (by rw [k1 92 68 (by decide), h68]; decide), gf_cg (fun f i c1 _ _ => v1 f i c1), k1 92 69 (by decide), h69]
        by_cases q : j = 6
        · rw [if_pos q, q]; rfl
        · rw [if_neg q]
      obtain ⟨I, hI1, hI2⟩ := isF_rng (S := S) (P := P) (v := v) hi
      have g1 : gdT T (vwM s M1) := gd_X (fun f i c1 _ _ => v1 f i c1) hg
      have run : ∀ (y : Int32) (M2 : Mem), y = isF S P v iss → FJ PX M1 M2 → w_X12_begins_236 L (nI s) iss y (nI s) M2 Q := fun y M2 hy F2 => by
        rw [hy, hI2]
        have px : ∀ a k, ¬ (138 ≤ a ∧ a ≤ 146) → mi M2 a k = mi M1 a k := fun a k q => F2.1 a k q
        refine m_weigh (S := S) (t := t) (M0 := M0) (v := v) hs hg q2 (PX_p F2 P1) (by rw [px 103 s (by omega), k1 103 s (by decide)]; exact hv) ho (by rw [px 99 s (by omega), k1 99 s (by decide)]; exact q1) (PX_z F2 hz1) (by rw [px 92 69 (by omega), k1 92 69 (by decide)]; exact h69)
          (fun f i hf => by rw [PX_v F2]; exact v1 f i hf) (F1.tr (F2.mono (fun a k q => by unfold PX at q; unfold PB; omega))) hI1 (fun i hi3 => by rw [px 109 _ (by omega), r2 i hi3, if_neg hneg]) (fun M3 a1 a2 a3 a4 a5 a6 => ?_)
        have e99 : mi M3 99 s = mi M 99 s := by rw [a3, px 99 s (by omega)]; exact k1 99 s (by decide)
        have hn10 := n2
        refine fin M3 (fun f i hf => ?_) a2 e99 (by rw [a4, px 101 s (by omega)]; exact k1 101 s (by decide)) (fun a k q => by rw [a5 a k (Or.inr q), px a k (by omega)]; exact k1 a k (by omega)) (fun i hi3 => ?_) (fun i c1 c2 => ?_)
        · rw [a1 f i hf, u2_def]
          have e100 : bgS S v iss (some P) 100 0 = nI I := by
            rw [← hI2]
            show (if 100 = 109 then (if 0 < tn (S 28 0) then alF S P v (isF S P v iss) 0 else 0) else if 100 = 108 ∧ 0 < tn (S 28 0) then 0 else if 100 = 100 ∧ 0 = 0 then isF S P v iss else S 100 0) = isF S P v iss
            rw [if_neg (c := 100 = 109) (by decide), if_neg (c := 100 = 108 ∧ _) (fun q => by omega), if_pos ⟨rfl, rfl⟩]
          by_cases c : f = 100 ∧ i = 0
          · rw [if_pos c, if_pos ⟨c.1, c.2, rfl⟩, e100]
          · rw [if_neg c, if_neg (fun q => c ⟨q.1, q.2.1⟩)]
        · rw [vw109_at, e99, if_pos ⟨by omega, hneg⟩, a6 i hi3]
          show _ = (if 109 = 109 then (if i < tn (S 28 0) then alF S P v (isF S P v iss) i else 0) else if 109 = 108 ∧ i < tn (S 28 0) then 0 else if 109 = 100 ∧ i = 0 then isF S P v iss else S 109 i)
          rw [if_pos (c := 109 = 109) rfl, if_pos hi3, alF_G, hI2]
        · have hF13 : mi M3 109 (10 * s + i) = mi M0 109 (10 * s + i) := a2.1 109 _ (by unfold PB slM; omega)
          have hF11 : mi M1 109 (10 * s + i) = mi M0 109 (10 * s + i) := F1.1 109 _ (by unfold PB slM; omega)
          rw [hF13, ← hF11]; exact z1 i c1 c2
      refine ⟨fun q => absurd q hneg, fun _ => ⟨fun hlt => ?_, fun hge2 => run iss M1 ?_ FJ.rf⟩⟩
      · have hm1 : iss = -1 := by
          rcases hi with e | ⟨k, hk, e⟩
          · exact e
          · rw [e] at hlt; exact absurd hlt (nI_pos (by omega))
        refine m_told (k := 1) (e := P.1 1) hs (by omega) (by decide) (by rw [k1 99 s (by decide)]; exact q1) (by rw [k1 103 s (by decide)]; exact hv) ho P1.2.1 ?_
        have el : (if vdF v 1 = true then none else P.1 1) = lnF P v 1 := rfl
        rw [el]
        cases hln : lnF P v 1 with
        | none =>
          rw [if_neg (by decide)]
          exact ⟨fun _ => run 9999 M1 (by unfold isF; rw [if_neg (fun q => q hm1), hln]) FJ.rf, fun q => absurd rfl q⟩
        | some x =>
          rw [if_pos (show (some x).isSome = true from rfl)]
          refine ⟨fun q => absurd q (by decide), fun _ => ?_⟩
          have hx : P.1 1 = some x := by
            unfold lnF at hln
            by_cases q : vdF v 1 = true
            · rw [if_pos q] at hln; cases hln
            · rw [if_neg q] at hln; exact hln
          rw [k1 99 s (by decide), q1]
          refine m_within (k := 1) (x := x) hs g1 hz1 (Or.inl (by rw [k1 92 68 (by decide)]; exact h68)) (by omega) (by decide) (by rw [← hx]; exact P1.2.1) (fun M2 F2 => run _ M2 ?_ F2)
          rw [ef]; unfold isF; rw [if_neg (fun q => q hm1), hln]
      · have : ¬ iss = -1 := fun q => hge2 (by rw [q]; decide)
        unfold isF; rw [if_pos this]
