-- LEVEL 3, part 17: the month's first day of the reference, from its pact on
theorem m_weigh {L : Lay} {T s t p I : Nat} {S : SS} {v p1 : Int32} {P : Pc} {M0 M : Mem} {Q : Mem → Prop} (hs : s < 2) (hg : gdT T S) (hp : p ≤ 24) (hP : pacM M p P) (hv : mi M 103 s = v) (ho : vOK v) (h99 : mi M 99 s = nI p) (hz : hzM s M) (h69 : mi M 92 69 = 0)
    (vo : ∀ f i, f ≠ 109 → vwM s M f i = S f i) (hF : FJ (PB s t (tn (S 28 0))) M0 M) (hI2 : I ≤ 9999) (h109 : ∀ i, i < tn (S 28 0) → mi M 109 (10 * s + i) = 0)
    (h : ∀ M', (∀ f i, f ≠ 109 → vwM s M' f i = u2 S 100 0 (nI I) f i) → FJ (PB s t (tn (S 28 0))) M0 M' → mi M' 99 s = mi M 99 s → mi M' 101 s = mi M 101 s → (∀ a k, slM 0 a k ∨ 127 ≤ a ∧ a < 138 → mi M' a k = mi M a k) → (∀ i, i < tn (S 28 0) → mi M' 109 (10 * s + i) = alG S (tn (S 28 0)) (wtF S P v) (nI I) (if vdF v 4 = true then -1 else P.2.2.1) i) → w_X12_begins_534 L (nI s) p1 M' Q) :
    w_X12_begins_236 L (nI s) p1 (nI I) (nI s) M Q := by
  have hg' := hg
  obtain ⟨n1, n2, -⟩ := hg'
  unfold w_X12_begins_236
  rw [tn_nI (n := s) (by omega)]
  refine ⟨vp_in_nI hs (by decide), fun M1 e1 => ?_⟩
  have v1 : ∀ f i, f ≠ 109 → vwM s M1 f i = u2 S 100 0 (nI I) f i := fun f i hf => by rw [e1, sM_100, u2_def, u2_def, vo f i hf]
  have k1 : ∀ a k, a ≠ 100 → mi M1 a k = mi M a k := fun a k ha => by rw [e1, mi_si, if_neg (fun q => ha q.1)]
  have F1 : FJ (PB s t (tn (S 28 0))) M0 M1 := by rw [e1]; refine hF.si ?_; unfold PB; omega
  have X1 : ∀ M' : Mem, (∀ f i, f ≠ 109 → vwM s M' f i = u2 S 100 0 (nI I) f i) → eqX (vwM s M') S := fun M' hv' f i c1 c2 c3 => by rw [hv' f i c1, u2_f c3]
  have wr : ∀ o, ∃ n, n ≤ 9999 ∧ wtF S P v o = nI n := fun o => wtF_rng
  have hW : ∀ o, wtF S P v o = nI (tn (wtF S P v o)) ∧ tn (wtF S P v o) ≤ 9999 := fun o => by
    obtain ⟨n, a, b⟩ := wr o
    rw [b, tn_nI (by omega)]; exact ⟨rfl, a⟩
  refine LP3_c1 0 (tn (S 28 0)) (fun i (v4 : Int64) M' => v4 = lN (smN (fun o => tn (wtF S P v o)) i) ∧ (∀ f j, f ≠ 109 → vwM s M' f j = u2 S 100 0 (nI I) f j) ∧ FJ (PB s t (tn (S 28 0))) M0 M' ∧
      (∀ a k, (a ≠ 147 ∧ ¬ (a = 92 ∧ k = 68) ∧ ¬ PX a k) → mi M' a k = mi M1 a k) ∧ (∀ j, j < i → mi M' 147 j = wtF S P v j)) rfl (Nat.zero_le _) ⟨rfl, v1, F1, fun _ _ _ => rfl, fun j hj => absurd hj (by omega)⟩ ?_
  intro i v4 M2 hi _ ⟨e4, v2, F2, k2, w2⟩ K hK
  subst e4
  have e28 : vwM s M2 28 0 = S 28 0 := by rw [v2 28 0 (by decide), u2_f (by decide)]
  have kk : ∀ a k, (127 ≤ a ∧ a < 138) ∨ a = 99 ∨ a = 101 ∨ a = 103 ∨ a = 119 ∨ (a = 92 ∧ k = 69) ∨ a = 109 → mi M2 a k = mi M a k := fun a k ha => by
    rw [k2 a k ⟨by omega, by omega, by unfold PX; omega⟩, k1 a k (by omega)]
  unfold w_X12_begins_243
  rw [rM_28 (s := s), e28]
  refine ⟨fun hlt => ?_, fun hge => ?_⟩
  · rw [ltN n1 (by omega)] at hlt
    have hi10 : i < 10 := by omega
    intro M3 e3
    have k3 : ∀ a k, ¬ (a = 92 ∧ k = 68) → mi M3 a k = mi M2 a k := fun a k ha => by rw [e3, mi_si, if_neg ha]
    have g68 : mi M3 92 68 = nI i := by rw [e3, mi_si, if_pos ⟨rfl, rfl⟩]
    have v3 : ∀ f j, f ≠ 109 → vwM s M3 f j = u2 S 100 0 (nI I) f j := fun f j hf => by
      rw [← v2 f j hf]; exact vwM_n hf (fun a k h1 h2 h3 _ _ _ _ _ _ => k3 a k (by omega))
    have P3 : pacM M3 p P := pacM_cg (fun a k q => by rw [k3 a k (by unfold slM at q; omega), kk a k (by unfold slM at q; omega)]) hP
    have z3 : hzM s M3 := fun d hd => by rw [k3 119 _ (by omega), kk 119 _ (by omega)]; exact hz d hd
    have F3 : FJ (PB s t (tn (S 28 0))) M0 M3 := by rw [e3]; refine F2.si ?_; unfold PB; omega
    have last : ∀ (y : Int32) (M4 : Mem), y = wtF S P v i → FJ PX M3 M4 → w_X12_begins_290 L (nI s) p1 K (lN (smN (fun o => tn (wtF S P v o)) i)) (nI i) y (nI i) M4 Q := fun y M4 hy F4 => by
      unfold w_X12_begins_290
      rw [tn_nI (by omega)]
      refine ⟨vp_in_nI hi10 (by decide), fun M5 e5 => ⟨vp_in_nI hi10 (by decide), fun x hx z hz2 => ?_⟩⟩
      rw [hz2, nI_1]
      refine hK hlt x M5 ⟨?_, fun f j hf => ?_, ?_, fun a k ha => ?_, fun j hj => ?_⟩
      · have hw := hW i
        rw [hx, e5, mi_si, if_pos ⟨rfl, rfl⟩, hy, hw.1, nI_l (by omega), lN_add]
        rfl
      · rw [← v3 f j hf]
        exact vwM_n hf (fun a k h1 h2 h3 _ _ _ _ _ _ => by rw [e5, mi_si, if_neg (fun q => by omega)]; exact F4.1 a k (by unfold PX; omega))
      · rw [e5]; refine (F3.tr (F4.mono (fun a k q => ?_))).si ?_
        · unfold PX at q; unfold PB; omega
        · unfold PB; omega
      · rw [e5, mi_si, if_neg (fun q => ha.1 q.1), F4.1 a k ha.2.2, k3 a k ha.2.1]; exact k2 a k ha
      · rw [e5, mi_si]
        by_cases q : j = i
        · subst q; rw [if_pos ⟨rfl, rfl⟩]; exact hy
        · rw [if_neg (fun z => q z.2), F4.1 147 j (by unfold PX; omega)]
          rw [k3 147 j (by omega)]; exact w2 j (by omega)
    refine m_told (k := 0) (e := P.1 0) hs (by omega) (by decide) (by rw [k3 99 s (by omega), kk 99 s (by omega)]; exact h99) (by rw [k3 103 s (by omega), kk 103 s (by omega)]; exact hv) ho P3.1 ?_
    have el : (if vdF v 0 = true then none else P.1 0) = lnF P v 0 := rfl
    rw [el]
    cases hln : lnF P v 0 with
    | none =>
      rw [if_neg (by decide)]
      exact ⟨fun _ => last 1 M3 (by unfold wtF; rw [hln]) FJ.rf, fun q => absurd rfl q⟩
    | some x =>
      rw [if_pos (show (some x).isSome = true from rfl)]
      refine ⟨fun q => absurd q (by decide), fun _ => ⟨vp_in_nI hs (by decide), ?_⟩⟩
      have hx : P.1 0 = some x := by
        unfold lnF at hln
        by_cases q : vdF v 0 = true
        · rw [if_pos q] at hln; cases hln
        · rw [if_neg q] at hln; exact hln
      rw [tn_nI (n := s) (by omega), k3 99 s (by omega), kk 99 s (by omega), h99]
      refine m_within (k := 0) (x := x) hs (gd_X (X1 M3 v3) hg) z3 (Or.inr ⟨i, hi10, g68⟩) (by omega) (by decide) (by rw [← hx]; exact P3.1) (fun M4 F4 => last _ M4 ?_ F4)
      have ef : fmF s M3 = owF S i 0 := by
        funext j
        rw [fmF_o (by rw [g68]; exact nI_pos (by omega)), g68, tn_nI (by omega), (k3 92 69 (by omega)).trans ((kk 92 69 (by omega)).trans h69), ow_cg (X1 M3 v3)]
      rw [ef]; unfold wtF; rw [hln]
  · rw [ltN n1 (by omega)] at hge
    have ei : i = tn (S 28 0) := by omega
    subst ei
    have P2 : pacM M2 p P := pacM_cg (fun a k q => kk a k (by unfold slM at q; omega)) hP
    have key := m_parts (L := L) (S := u2 S 100 0 (nI I)) (wt := wtF S P v) (W := fun o => tn (wtF S P v o)) (p1 := p1) (M0 := M0) (M := M2) (Q := Q) (t := t) (v := v) (P := P) (p := p) (I := I) hs (gd_X (fun f j _ _ c3 => u2_f c3) hg) hp P2 (by rw [kk 103 s (by omega)]; exact hv) ho (by rw [kk 99 s (by omega)]; exact h99) v2 (by rw [u2_f (by decide)]; exact F2) u2_s hI2 (fun o hoo => w2 o (by rw [u2_f (by decide)] at hoo; exact hoo)) hW (fun j hj => by rw [u2_f (by decide)] at hj; rw [kk 109 _ (by omega)]; exact h109 j hj)
    have e28' : u2 S 100 0 (nI I) 28 0 = S 28 0 := u2_f (by decide)
    rw [e28', alG_cg (S := S) (fun f j _ _ c3 => u2_f c3)] at key
    have key2 := key (fun M' a1 a2 a3 a4 a5 a6 => h M' a1 a2 (a3.trans (kk 99 s (by omega))) (a4.trans (kk 101 s (by omega))) (fun a k q => (a5 a k q).trans (kk a k (by unfold slM at q; omega))) a6)
    have hsm := smN_le (g := fun o => tn (wtF S P v o)) (c := 9999) (tn (S 28 0)) (fun k _ => (hW k).2)
    have hs2 : tn (S 28 0) * 9999 ≤ 10 * 9999 := Nat.mul_le_mul_right _ n2
    rw [cmp_lN (by omega)]
    by_cases q : smN (fun o => tn (wtF S P v o)) (tn (S 28 0)) = 0
    · rw [if_pos q] at key2 ⊢
      exact ⟨fun _ => key2, fun z => absurd rfl z⟩
    · rw [if_neg q] at key2 ⊢
      refine ⟨fun z => absurd z (by decide), fun _ => ⟨vp_in_nI hs (by decide), ?_⟩⟩
      rw [tn_nI (n := s) (by omega), rM_100, v2 100 0 (by decide), u2_s]
      exact key2
