-- LEVEL 3, part 3: a day of the class
-- what a world's numbers keep to
theorem c_price {L : Lay} {w : Nat} {q : Int32} {M : Mem} {Q : Int32 → Mem → Prop} (h : Q (prF (vwC w M) q) M) : w_X0_priceOf L (w + 3) q M Q := by
  unfold w_X0_priceOf w_X0_priceOf_35
  simp only [rC_96 (w := w), rC_97 (w := w), rC_98 (w := w)]
  intro x hx
  subst hx
  unfold prF at h
  refine ⟨fun h0 => ?_, fun h0 => ⟨h0, ?_⟩⟩
  · rw [if_pos h0] at h; exact h
  · rw [if_neg h0] at h; exact h
theorem c_room {L : Lay} {T w k : Nat} {M : Mem} {Q : Int32 → Mem → Prop} (hk : k < 8) (hg : shG T (vwC w M) k) (h : Q (if roF (vwC w M) k then 1 else 0) M) : w_X9_hasRoom L (sA w k) M Q := by
  unfold w_X9_hasRoom
  simp only [rC_125 hk, rC_113 hk]
  rw [roF_iff hg] at h
  obtain ⟨h1, h2, h3, h4, -⟩ := hg
  generalize tn (vwC w M 113 k) = l at *
  generalize tn (vwC w M 125 k) = r at *
  rw [h1, h2, lit8n, pk_mul, pk_sub h3]
  refine ⟨fun h0 => ?_, fun h0 x hx => ?_⟩
  · rw [nI_lt' (by omega) (by omega)] at h0
    rw [if_neg (by rw [decide_eq_true_iff]; omega)] at h; exact h
  · rw [nI_lt' (by omega) (by omega)] at h0
    rw [if_pos (by rw [decide_eq_true_iff]; omega)] at h
    rw [if_pos (by rw [nI_lt' (by omega) (by decide)]; omega)] at hx
    rw [hx]; exact h
-- the next owner
theorem c_next {L : Lay} {T w : Nat} {ls : Int32} {M : Mem} {Q : Int32 → Mem → Prop} (hg : gdT T (vwC w M)) (h : Q (ofF (vwC w M) (mp M w 11).isSome ls) M) : w_X10_nextOwnerFor L w ls M Q := by
  unfold w_X10_nextOwnerFor
  have hg' := hg
  obtain ⟨h1, h2, -, -, -, -, -, -, h3, h4, -, -⟩ := hg'
  refine LP2_c0 0 (tn (vwC w M 28 0)) (fun k M' => M' = M ∧ ofF (vwC w M) (mp M w 11).isSome ls = ofG (vwC w M) (mp M w 11).isSome ls (tn (vwC w M 28 0) - k) k) rfl (Nat.zero_le _) ⟨rfl, rfl⟩ ?_
  intro k M' hk _ ⟨e, hp⟩ K hK
  subst e
  unfold w_X10_nextOwnerFor_2 w_X10_nextOwnerFor_65 w_X10_nextOwnerFor_66
  simp only [rC_28 (w := w), rC_95 (w := w)]
  refine ⟨fun hlt => ?_, fun hge => ?_⟩
  · rw [h1, nI_lt' (by omega) (by omega)] at hlt
    have hn0 : ¬ vwC w M' 28 0 = 0 := by rw [h1]; exact nI_ne0 (by omega) (by omega)
    refine ⟨hn0, fun x hx => ?_⟩
    have e : x = nI ((tn (vwC w M' 95 0) + k) % tn (vwC w M' 28 0)) := by
      rw [hx]
      generalize tn (vwC w M' 95 0) = t at *
      generalize tn (vwC w M' 28 0) = n at *
      rw [h3, h1, nI_add]; exact jrem_nI (by omega) (by omega) (by omega)
    have hlt2 : (tn (vwC w M' 95 0) + k) % tn (vwC w M' 28 0) < tn (vwC w M' 28 0) := Nat.mod_lt _ (by omega)
    rw [show tn (vwC w M' 28 0) - k = (tn (vwC w M' 28 0) - (k + 1)) + 1 from by omega] at hp
    unfold ofG at hp
    rw [← hx, e] at hp
    rw [e]
    generalize hq : (tn (vwC w M' 95 0) + k) % tn (vwC w M' 28 0) = o at *
    rw [tn_nI (by omega)] at hp ⊢
    have ho : o < 10 := by omega
    have goOn : okF (vwC w M') (mp M' w 11).isSome ls o = false → ∀ x : Int32, x = nI k + 1 → K x M' := fun hf x hx => by
      rw [hf] at hp
      rw [hx, nI_1]
      exact hK hlt M' ⟨rfl, hp⟩
    have stop : okF (vwC w M') (mp M' w 11).isSome ls o = true → Q (nI o) M' := fun hf => by
      rw [hf] at hp
      rw [hp] at h
      exact h
    simp only [rC_120 ho, rC_107 ho, rC_108 ho, rC_111 ho]
    refine ⟨vp_in_nI ho (by decide), fun hno => ?_, fun a ha y hy => ?_⟩
    · rw [hno] at goOn stop
      unfold okF stF at goOn stop
      refine ⟨fun q => goOn (by simp [q]), fun q => ⟨fun q2 => goOn (by simp [q2]), fun q2 => ⟨fun _ => stop (by simp [q, q2]), fun q3 => (q3 trivial).elim⟩⟩⟩
    · rw [rC_109 ha ho] at hy
      rw [ha] at goOn stop
      unfold okF stF at goOn stop
      refine ⟨fun q => goOn (by simp [q]), fun q => ⟨fun q2 => goOn (by simp [q2]), fun q2 => ?_⟩⟩
      by_cases hb : vwC w M' 111 o = 0
      · rw [if_pos hb] at hy
        by_cases ha2 : vwC w M' 109 o < vwC w M' 108 o + 8
        · rw [if_pos ha2] at hy
          subst hy
          exact ⟨fun q3 => absurd q3 (by decide), fun _ => goOn (by simp [hb, ha2])⟩
        · rw [if_neg ha2] at hy
          subst hy
          exact ⟨fun _ => stop (by simp [q, q2, hb, ha2]), fun q3 => absurd rfl q3⟩
      · rw [if_neg hb] at hy
        subst hy
        exact ⟨fun _ => stop (by simp [q, q2, hb]), fun q3 => absurd rfl q3⟩
  · rw [h1, nI_lt' (by omega) (by omega)] at hge
    rw [show tn (vwC w M' 28 0) - k = 0 from by omega] at hp
    rw [hp] at h; exact h
theorem sA_rng {w k : Nat} (hk : k < 8) : w ≤ sA w k ∧ sA w k < w + 35 ∧ sA w k ≠ w + 4 ∧ sA w k + 1 < w + 35 ∧ w + 19 ≤ sA w k := by unfold sA; omega
theorem FJ.gt {P : Nat → Nat → Prop} {M M' : Mem} (h : FJ P M M') {a k : Nat} (ha : ¬ P a k) : mi M' a k = mi M a k := h.1 a k ha
theorem FJ.row {P : Nat → Nat → Prop} {M M' : Mem} (h : FJ P M M') {a : Nat} (ha : ∀ k, ¬ P a k) : M'.1 a = M.1 a := funext fun k => h.1 a k (ha k)
-- all of a world but its first law and the allotments
def PV (w a k : Nat) : Prop := w ≤ a ∧ a < w + 35 ∧ a ≠ w + 4 ∧ ¬ (w + 9 ≤ a ∧ a < w + 19 ∧ k = 8) ∧ ¬ (a = w ∧ k = 14)
theorem PV_o {w i k : Nat} (hi : i < 10) (hk : k ≠ 8 := by decide) : PV w (oA w i) k := by unfold PV oA; omega
theorem PV_s {w i k : Nat} (hi : i < 8) : PV w (sA w i) k := by unfold PV sA; omega
theorem PV_s1 {w i k : Nat} (hi : i < 8) : PV w (sA w i + 1) k := by unfold PV sA; omega
theorem PV_w {w k : Nat} (hk : k ≠ 14 := by decide) : PV w w k := by unfold PV; omega
def PL (w a k : Nat) : Prop := PV w a k ∧ a ≠ w + 8
theorem PL_o {w i k : Nat} (hi : i < 10) (hk : k ≠ 8 := by decide) : PL w (oA w i) k := ⟨PV_o hi hk, by unfold oA; omega⟩
theorem PL_s {w i k : Nat} (hi : i < 8) : PL w (sA w i) k := ⟨PV_s hi, by unfold sA; omega⟩
theorem PL_s1 {w i k : Nat} (hi : i < 8) : PL w (sA w i + 1) k := ⟨PV_s1 hi, by unfold sA; omega⟩
theorem PL_w {w k : Nat} (hk : k ≠ 14 := by decide) : PL w w k := ⟨PV_w hk, by omega⟩
theorem PV_k {w j k : Nat} (hk : j < 9) (h4 : j ≠ 4 ∧ 0 < j) : PV w (w + j) k := by unfold PV; omega
-- a ship is loaded by the owner o
theorem c_load {L : Lay} {T w k : Nat} {M : Mem} {Q : Int32 → Mem → Prop} (hg : gdT T (vwC w M)) (hk : k < 8) (held : Bool) (hh : held = (mp M w 11).isSome)
    (h0 : (roF (vwC w M) k = false ∨ ofF (vwC w M) held (vwC w M 126 k) < 0) → Q 0 M)
    (h1 : roF (vwC w M) k = true → ¬ ofF (vwC w M) held (vwC w M 126 k) < 0 → ∀ M', vwC w M' = ldU (vwC w M) (nI k) (ofF (vwC w M) held (vwC w M 126 k)) → FJ (PL w) M M' → Q 1 M') : w_X10_loadShip L w (sA w k) M Q := by
  subst hh
  have hg' := hg
  obtain ⟨n1, n2, -, -, -, -, -, -, n3, n4, n5, -⟩ := hg'
  have hs := n5 k hk
  unfold w_X10_loadShip
  refine c_room hk hs ?_
  by_cases hr : roF (vwC w M) k = true
  · rw [if_pos hr]
    refine ⟨fun q => absurd q (by decide), fun _ => ?_⟩
    simp only [rC_126 hk]
    refine c_next hg ?_
    rcases of_rng0 hg (held := (mp M w 11).isSome) (ls := vwC w M 126 k) with e | ⟨o, ho, e, hok⟩
    · rw [e] at h0 ⊢
      unfold w_X10_loadShip_19
      exact ⟨fun _ => h0 (Or.inr (by decide)), fun q => absurd rfl q⟩
    · rw [e] at h1 ⊢
      have ho10 : o < 10 := by omega
      unfold w_X10_loadShip_19 w_X9_take
      refine ⟨fun q => absurd q (by rw [nI_m1 (by omega)]; exact id), fun _ => ?_⟩
      rw [roF_iff hs, decide_eq_true_iff] at hr
      obtain ⟨s1, s2, s3, s4, -⟩ := hs
      simp only [rC_113 hk]
      have hl : tn (vwC w M 113 k) < 12 := by omega
      refine ⟨fun _ => ⟨by rw [s1]; exact vp_in_nI hl (by decide), fun M3 e3 M4 e4 => ?_⟩, fun q => absurd (by rw [s1, nI_lt' (by omega) (by decide)]; omega) q⟩
      refine ⟨vp_in_nI ho10 (by decide), fun M9 e9 M10 e10 x ex M12 e12 => ?_⟩
      rw [tn_nI (by omega)] at e9 e10
      have v3 : vwC w M3 = u2 (vwC w M) 116 (12 * k + tn (vwC w M 113 k)) (nI o) := by rw [e3]; exact sC_116 hk hl
      have a3 : vwC w M3 113 k = vwC w M 113 k := by rw [v3]; exact u2_f (by decide)
      have v4 : vwC w M4 = u2 (vwC w M3) 113 k (vwC w M 113 k + 1) := by rw [e4, a3]; exact sC_113 hk
      have a4 : mi M4 (oA w o) 6 = vwC w M 107 o := by rw [rC_107 ho10, v4, v3, u2_f (by decide), u2_f (by decide)]
      have v9 : vwC w M9 = u2 (vwC w M4) 107 o (vwC w M 107 o - 8) := by rw [e9, a4]; exact sC_107 ho10
      have a9 : mi M9 (oA w o) 7 = vwC w M 108 o := by rw [rC_108 ho10, v9, v4, v3, u2_f (by decide), u2_f (by decide), u2_f (by decide)]
      have v10 : vwC w M10 = u2 (vwC w M9) 108 o (vwC w M 108 o + 8) := by rw [e10, a9]; exact sC_108 ho10
      have a10 : mi M10 w 2 = vwC w M 28 0 := by rw [rC_28, v10, v9, v4, v3, u2_f (by decide), u2_f (by decide), u2_f (by decide), u2_f (by decide)]
      have ex2 : x = if nI o + 1 = vwC w M 28 0 then 0 else nI o + 1 := by
        rw [ex, a10, nI_1]
        have q1 := ltN (n := o + 1) n1 (by omega)
        have q2 := eqN (n := o + 1) n1 (by omega)
        by_cases hq : o + 1 = tn (vwC w M 28 0)
        · rw [if_pos (q2.mpr hq), if_neg (fun z => by have := q1.mp z; omega)]
        · rw [if_neg (fun z => hq (q2.mp z)), if_pos (q1.mpr (by omega))]
      refine h1 (by rw [roF_iff (n5 k hk), decide_eq_true_iff]; omega) (nI_pos (by omega)) M12 ?_ ?_
      · rw [e12, sC_95, v10, v9, v4, v3, ex2]
        unfold ldU
        rw [tn_nI (by omega), tn_nI (by omega)]
      · rw [e12, e10, e9, e4, e3]
        exact (((((FJ.rf.si (PL_s1 hk)).si (PL_s hk)).si (PL_o ho10)).si (PL_o ho10)).si PL_w)
  · rw [if_neg hr]
    refine ⟨fun _ => ?_, fun q => absurd rfl q⟩
    unfold w_X10_loadShip_19
    exact ⟨fun _ => h0 (Or.inl (by simpa using hr)), fun q => absurd rfl q⟩
-- the pick of a ship, by its own words
-- the line of ships: W names c of them, by the day on which they came, then by numbers
-- lining up
def inL (W : Nat → Int32) (i at0 : Nat) (x : Int32) : Nat → Int32 := fun j => if j < at0 then W j else if j = at0 then x else W (j - 1)
theorem c_lineUp {L : Lay} {T w : Nat} {M : Mem} {Q : Int32 → Mem → Prop} (hg : gdT T (vwC w M))
    (h : ∀ (c : Nat) (M' : Mem), c ≤ 8 → lnU (vwC w M) (tn (vwC w M 34 0)) c (fun j => mi M' (w + 8) j) → vwC w M' = vwC w M → FJ (PV w) M M' → Q (nI c) M') : w_X10_lineUp L w M Q := by
  unfold w_X10_lineUp
  have hg' := hg
  obtain ⟨-, -, n1, n2, -, -, -, -, -, -, n5, -⟩ := hg'
  generalize hS : vwC w M = S at *
  refine LP3_c1 0 (tn (S 34 0)) (fun m (c : Int32) M' => vwC w M' = S ∧ FJ (PV w) M M' ∧ ∃ q : Nat, q ≤ m ∧ c = nI q ∧ lnU S m q (fun j => mi M' (w + 8) j)) rfl (Nat.zero_le _) ⟨hS, FJ.rf, 0, Nat.le_refl _, rfl, fun j hj => absurd hj (by omega), fun i j _ hj => absurd hj (by omega), fun k hk => absurd hk (by omega)⟩ ?_
  intro m c M1 hm _ ⟨hv, hF, q, hq, e, hl⟩ K hK
  subst e
  unfold w_X10_lineUp_4
  rw [rC_34 (w := w), hv, n1]
  refine ⟨fun hlt => ?_, fun hge => ?_⟩
  · rw [nI_lt' (by omega) (by omega)] at hlt
    have hm8 : m < 8 := by omega
    rw [tn_nI (by omega)]
    have same : ¬ (S 112 m = 0 ∧ roF S m = true) → ∀ M2 : Mem, M2 = M1 → ∀ x : Int32, x = nI m + 1 → K (nI q) x M2 := fun hn M2 e2 x hx => by
      subst e2
      rw [hx, nI_1]
      refine hK hlt (nI q) M2 ⟨hv, hF, q, by omega, rfl, fun j hj => ?_, hl.2.1, fun k hk h1 h2 => ?_⟩
      · obtain ⟨k, hk, r⟩ := hl.1 j hj; exact ⟨k, by omega, r⟩
      · by_cases hkm : k = m
        · subst hkm; exact absurd ⟨h1, h2⟩ hn
        · exact hl.2.2 k (by omega) h1 h2
    rw [rC_112 hm8, hv]
    refine ⟨vp_in_nI hm8 (by decide), fun h0 => ?_, fun h0 x hx => same (fun r => h0 r.1) M1 rfl x hx⟩
    refine c_room hm8 (by rw [hv]; exact n5 m hm8) ?_
    rw [hv]
    by_cases hr : roF S m = true
    · rw [if_pos hr]
      refine ⟨fun r => absurd r (by decide), fun _ => ?_⟩
      -- the inner loop: at0 falls
      refine LP4_m (fun z (v1 v2 v3 : Int32) M2 => v1 = nI q ∧ v2 = nI m ∧ ∃ a : Nat, a ≤ q ∧ v3 = nI a ∧ z = a ∧ vwC w M2 = S ∧ FJ (PV w) M M2 ∧ (∀ j, j < a → mi M2 (w + 8) j = mi M1 (w + 8) j) ∧ (∀ j, a ≤ j → j < q → mi M2 (w + 8) (j + 1) = mi M1 (w + 8) j ∧ S 115 m < S 115 (tn (mi M1 (w + 8) j)))) q ⟨rfl, rfl, q, Nat.le_refl _, rfl, rfl, hv, hF, fun j _ => rfl, fun j h1 h2 => absurd h2 (by omega)⟩ ?_
      intro z v1 v2 v3 M2 ⟨e1, e2, a, ha, e3, e4, hv2, hF2, p1, p2⟩ K2 hK2
      subst e1 e2 e3 e4
      have done : (∀ j, j < z → ¬ S 115 m < S 115 (tn (mi M1 (w + 8) j))) → w_X10_lineUp_90 L w K (nI q) (nI m) (nI z) M2 Q := fun hno => by
        unfold w_X10_lineUp_90
        refine ⟨vp_in_nI (by omega) (by decide), fun M3 e3 x hx y hy => ?_⟩
        rw [tn_nI (by omega)] at e3
        rw [hx, hy, nI_1, nI_1]
        have g3 : ∀ j, mi M3 (w + 8) j = if j = z then nI m else mi M2 (w + 8) j := fun j => by
          rw [e3, mi_si]
          by_cases hj : j = z
          · rw [if_pos ⟨rfl, hj⟩, if_pos hj]
          · rw [if_neg (fun r => hj r.2), if_neg hj]
        have lo : ∀ j, j < z → mi M3 (w + 8) j = mi M1 (w + 8) j := fun j hj => by rw [g3, if_neg (by omega), p1 j hj]
        have mid : mi M3 (w + 8) z = nI m := by rw [g3, if_pos rfl]
        have hi : ∀ j, z ≤ j → j < q → mi M3 (w + 8) (j + 1) = mi M1 (w + 8) j := fun j h1 h2 => by rw [g3, if_neg (by omega), (p2 j h1 h2).1]
        have inM : ∀ j, j < q → ∃ k, k < m ∧ mi M1 (w + 8) j = nI k ∧ S 112 k = 0 ∧ roF S k = true := hl.1
        have cm : ∀ j, j < q → ∃ k, k < m ∧ tn (mi M1 (w + 8) j) = k := fun j hj => by
          obtain ⟨k, hk, ek, -⟩ := inM j hj
          exact ⟨k, hk, by rw [ek, tn_nI (by omega)]⟩
        have lowL : ∀ j, j < z → lxF S (tn (mi M1 (w + 8) j)) m := fun j hj => by
          obtain ⟨k, hk, ek⟩ := cm j (by omega)
          have := hno j hj
          rw [ek] at this ⊢
          unfold lxF
          by_cases e : S 115 k = S 115 m
          · exact Or.inr ⟨e, hk⟩
          · exact Or.inl (by grind)
        refine hK hlt (nI (q + 1)) M3 ⟨?_, ?_, q + 1, by omega, rfl, fun j hj => ?_, fun i j hij hj => ?_, fun k hk h1 h2 => ?_⟩
        · rw [e3, vwC_far (by omega), hv2]
        · rw [e3]; exact hF2.si (PV_k (by decide) (by decide))
        · show ∃ k, k < m + 1 ∧ mi M3 (w + 8) j = nI k ∧ _
          rcases Nat.lt_trichotomy j z with r | r | r
          · rw [lo j r]; obtain ⟨k, hk, rr⟩ := inM j (by omega); exact ⟨k, by omega, rr⟩
          · subst r; rw [mid]; exact ⟨m, by omega, rfl, h0, hr⟩
          · obtain ⟨j', rfl⟩ : ∃ j', j = j' + 1 := ⟨j - 1, by omega⟩
            rw [hi j' (by omega) (by omega)]; obtain ⟨k, hk, rr⟩ := inM j' (by omega); exact ⟨k, by omega, rr⟩
        · show lxF S (tn (mi M3 (w + 8) i)) (tn (mi M3 (w + 8) j))
          rcases Nat.lt_trichotomy j z with r | r | r
          · rw [lo j r, lo i (by omega)]; exact hl.2.1 i j hij (by omega)
          · subst r; rw [mid, lo i hij, tn_nI (by omega)]; exact lowL i hij
          · obtain ⟨j', rfl⟩ : ∃ j', j = j' + 1 := ⟨j - 1, by omega⟩
            rw [hi j' (by omega) (by omega)]
            rcases Nat.lt_trichotomy i z with s | s | s
            · rw [lo i s]; exact hl.2.1 i j' (by omega) (by omega)
            · subst s; rw [mid, tn_nI (by omega)]; exact Or.inl (p2 j' (by omega) (by omega)).2
            · obtain ⟨i', rfl⟩ : ∃ i', i = i' + 1 := ⟨i - 1, by omega⟩
              rw [hi i' (by omega) (by omega)]; exact hl.2.1 i' j' (by omega) (by omega)
        · show ∃ j, j < q + 1 ∧ mi M3 (w + 8) j = nI k
          by_cases hkm : k = m
          · subst hkm; exact ⟨z, by omega, mid⟩
          · obtain ⟨j, hj, ej⟩ := hl.2.2 k (by omega) h1 h2
            by_cases hjz : j < z
            · exact ⟨j, by omega, by rw [lo j hjz]; exact ej⟩
            · exact ⟨j + 1, by omega, by rw [hi j (by omega) hj]; exact ej⟩
      unfold w_X10_lineUp_38
      refine ⟨fun hpos => ?_, fun hn => done (fun j hj => absurd hj (by rw [nI_0lt (by omega)] at hn; omega))⟩
      rw [nI_0lt (by omega)] at hpos
      obtain ⟨y, rfl⟩ : ∃ y, z = y + 1 := ⟨z - 1, by omega⟩
      rw [nI_pred, tn_nI (by omega)]
      obtain ⟨k, hk, ek, -, -⟩ := hl.1 y (by omega)
      have ek : mi M1 (w + 8) y = nI k := ek
      rw [p1 y (by omega), ek, tn_nI (by omega)]
      refine ⟨vp_in_nI (by omega) (by decide), vp_in_nI (by omega) (by decide), vp_in_nI (by omega) (by decide), ?_⟩
      rw [tn_nI (by omega), rC_115 hm8, rC_115 (by omega), hv2]
      refine ⟨fun hlt2 => ⟨vp_in_nI (by omega) (by decide), fun M3 e3 x hx => ?_⟩, fun hge2 => done (fun j hj => ?_)⟩
      · rw [tn_nI (by omega)] at e3
        rw [hx, pk_m1]
        refine hK2 y (by omega) (nI q) (nI m) (nI y) M3 ⟨rfl, rfl, y, by omega, rfl, rfl, ?_, ?_, fun j hj => ?_, fun j h1 h2 => ?_⟩
        · rw [e3, vwC_far (by omega), hv2]
        · rw [e3]; exact hF2.si (PV_k (by decide) (by decide))
        · rw [e3, mi_si, if_neg (fun r => by omega)]; exact p1 j (by omega)
        · rw [e3, mi_si]
          by_cases hj : j = y
          · subst hj
            rw [if_pos ⟨rfl, rfl⟩, ek, tn_nI (by omega)]
            exact ⟨rfl, hlt2⟩
          · rw [if_neg (fun r => by omega)]; exact p2 j (by omega) h2
      · by_cases hj2 : j = y
        · subst hj2; rw [ek, tn_nI (by omega)]; exact hge2
        · have := hl.2.1 j y (by omega) (by omega)
          have h5 : lxF S (tn (mi M1 (w + 8) j)) (tn (mi M1 (w + 8) y)) := this
          rw [ek, tn_nI (by omega)] at h5
          unfold lxF at h5
          intro h6
          grind
    · rw [if_neg hr]
      exact ⟨fun _ x hx => same (fun r => hr r.2) M1 rfl x hx, fun r => absurd rfl r⟩
  · rw [nI_lt' (by omega) (by omega)] at hge
    have em : m = tn (S 34 0) := by omega
    subst em
    exact h q M1 (by omega) hl hv hF
-- loading, keel by keel
theorem c_loadShips {L : Lay} {T w : Nat} {M : Mem} {Q : Mem → Prop} (hg : gdT T (vwC w M)) (held : Bool) (hh : held = (mp M w 11).isSome)
    (h : ∀ M', vwC w M' = ldG held (tn (vwC w M 94 0)) (vwC w M) → FJ (PV w) M M' → Q M') : w_X10_loadShips L w M Q := by
  unfold w_X10_loadShips
  refine c_lineUp hg fun c M1 hc hl hv1 hF1 => ?_
  have hg' := hg
  obtain ⟨-, -, n1, n2, -, -, n3, n4, -, -, -, -⟩ := hg'
  generalize hS : vwC w M = S0 at *
  -- the keels: i are through, all of them loaded
  refine LP3_c1 0 (tn (S0 94 0)) (fun i (v1 : Int32) M2 => v1 = nI c ∧ FJ (PV w) M M2 ∧ (∀ j, mi M2 (w + 8) j = mi M1 (w + 8) j) ∧ gdT T (vwC w M2) ∧ (∀ k, vwC w M2 112 k = S0 112 k) ∧ (∀ k, vwC w M2 115 k = S0 115 k) ∧ (∀ k, vwC w M2 126 k = S0 126 k) ∧ vwC w M2 34 0 = S0 34 0 ∧ vwC w M2 94 0 = S0 94 0 ∧ vwC w M2 28 0 = S0 28 0 ∧ (∀ k, k < 8 → roF (vwC w M2) k = true → roF S0 k = true) ∧
      ldG held (tn (S0 94 0)) S0 = ldG held (tn (S0 94 0) - i) (vwC w M2)) rfl (Nat.zero_le _) ⟨rfl, hF1, fun _ => rfl, by rw [hv1]; exact hg, fun _ => by rw [hv1], fun _ => by rw [hv1], fun _ => by rw [hv1], by rw [hv1], by rw [hv1], by rw [hv1], fun k _ hk => by rw [hv1] at hk; exact hk, by rw [hv1, Nat.sub_zero]⟩ ?_
  intro i v1 M2 hi _ ⟨ev, hF2, hW2, hg2, i112, i115, i126, i34, i94, i28, iro, hld⟩ K hK
  subst ev
  unfold w_X10_loadShips_7
  rw [rC_94 (w := w), i94, n3]
  refine ⟨fun hlt => ?_, fun hge => ?_⟩
  · rw [nI_lt' (by omega) (by omega)] at hlt
    rw [show tn (S0 94 0) - i = (tn (S0 94 0) - (i + 1)) + 1 from by omega] at hld
    rw [ldG_s, i34] at hld
    have hhs : held = (mp M2 w 11).isSome := by rw [hh, hF2.mp]
    -- the ships in line: j of them could not be loaded, or the last one was
    refine LP5_c3 0 c (fun j (u1 u2 u3 : Int32) M3 => u1 = nI c ∧ u2 = nI i ∧
        ((u3 = 0 ∧ M3 = M2 ∧ ∀ i', i' < j → ¬ elF (vwC w M2) held (tn (mi M1 (w + 8) i'))) ∨
         (u3 = 1 ∧ ¬ (pkG (vwC w M2) held (tn (S0 34 0))).1 < 0 ∧ vwC w M3 = ldU (vwC w M2) (pkG (vwC w M2) held (tn (S0 34 0))).1 (pkG (vwC w M2) held (tn (S0 34 0))).2 ∧ FJ (PV w) M2 M3 ∧ (∀ j, mi M3 (w + 8) j = mi M1 (w + 8) j) ∧ gdT T (vwC w M3) ∧ (∀ k, k < 8 → roF (vwC w M3) k = true → roF (vwC w M2) k = true) ∧ vwC w M3 94 0 = S0 94 0))) rfl (Nat.zero_le _) ⟨rfl, rfl, Or.inl ⟨rfl, rfl, fun i' h' => absurd h' (by omega)⟩⟩ ?_
    intro j u1 u2' u3 M3 hj _ ⟨e1, e2, hcase⟩ K2 hK2
    subst e1 e2
    have goOut1 : u3 = 0 → M3 = M2 → (∀ i', i' < c → ¬ elF (vwC w M2) held (tn (mi M1 (w + 8) i'))) → w_X10_loadShips_53 L w K (nI c) (nI i) u3 M3 Q := fun z0 z1 z2 => by
      subst z0 z1
      unfold w_X10_loadShips_53
      refine ⟨fun _ => ?_, fun q => absurd rfl q⟩
      have := pk_none (S := vwC w M3) (S0 := S0) (held := held) (m := tn (S0 34 0)) (c := c) (W := fun j => mi M1 (w + 8) j) (by omega) hl i112 (fun k hk => iro k (by omega)) z2
      rw [if_pos this] at hld
      exact h M3 (by rw [hld]) hF2
    have goOut2 : u3 = 1 → (¬ (pkG (vwC w M2) held (tn (S0 34 0))).1 < 0 ∧ vwC w M3 = ldU (vwC w M2) (pkG (vwC w M2) held (tn (S0 34 0))).1 (pkG (vwC w M2) held (tn (S0 34 0))).2 ∧ FJ (PV w) M2 M3 ∧ (∀ j, mi M3 (w + 8) j = mi M1 (w + 8) j) ∧ gdT T (vwC w M3) ∧ (∀ k, k < 8 → roF (vwC w M3) k = true → roF (vwC w M2) k = true) ∧ vwC w M3 94 0 = S0 94 0) → w_X10_loadShips_53 L w K (nI c) (nI i) u3 M3 Q := fun z0 ⟨z1, z2, z3, z4, z5, z6, z7⟩ => by
      subst z0
      unfold w_X10_loadShips_53
      refine ⟨fun q => absurd q (by decide), fun _ x hx => ?_⟩
      rw [hx, nI_1]
      rw [if_neg z1, ← z2] at hld
      have keep : ∀ f k, f ≠ 116 → f ≠ 113 → f ≠ 107 → f ≠ 108 → f ≠ 95 → vwC w M3 f k = vwC w M2 f k := fun f k h1 h2 h3 h4 h5 => by
        rw [z2]; unfold ldU
        rw [u2_f h5, u2_f h4, u2_f h3, u2_f h2, u2_f h1]
      refine hK hlt (nI c) M3 ⟨rfl, hF2.tr z3, z4, z5, fun k => ?_, fun k => ?_, fun k => ?_, ?_, z7, ?_, fun k hk hr => iro k hk (z6 k hk hr), hld⟩
      · rw [keep 112 k (by decide) (by decide) (by decide) (by decide) (by decide)]; exact i112 k
      · rw [keep 115 k (by decide) (by decide) (by decide) (by decide) (by decide)]; exact i115 k
      · rw [keep 126 k (by decide) (by decide) (by decide) (by decide) (by decide)]; exact i126 k
      · rw [keep 34 0 (by decide) (by decide) (by decide) (by decide) (by decide)]; exact i34
      · rw [keep 28 0 (by decide) (by decide) (by decide) (by decide) (by decide)]; exact i28
    unfold w_X10_loadShips_20
    refine ⟨fun hjc => ?_, fun hjc => ?_⟩
    · rw [nI_lt' (by omega) (by omega)] at hjc
      rcases hcase with ⟨c0, c1, c2⟩ | ⟨c0, c1⟩
      · refine ⟨fun _ => ?_, fun q => absurd c0 q⟩
        subst c1
        rw [tn_nI (by omega), hW2 j]
        obtain ⟨k, hk, ek, k1, k2⟩ := hl.1 j hjc
        have ek : mi M1 (w + 8) j = nI k := ek
        have hk8 : k < 8 := by omega
        rw [ek, tn_nI (by omega)]
        refine ⟨vp_in_nI (by omega) (by decide), vp_in_nI hk8 (by decide), ?_⟩
        refine c_load hg2 hk8 held hhs (fun hno => ?_) (fun hr hof M4 hv4 hF4 => ?_)
        · intro x hx
          rw [hx, nI_1]
          refine hK2 hjc (nI c) (nI i) 0 M3 ⟨rfl, rfl, Or.inl ⟨rfl, rfl, fun i' h' => ?_⟩⟩
          by_cases hi' : i' = j
          · subst hi'
            rw [ek, tn_nI (by omega)]
            unfold elF
            rcases hno with q | q
            · exact fun r => by rw [q] at r; exact absurd r.2.1 (by decide)
            · exact fun r => r.2.2 q
          · exact c2 i' (by omega)
        · intro x hx
          rw [hx, nI_1]
          have hel : elF (vwC w M3) held (tn (mi M1 (w + 8) j)) := by
            rw [ek, tn_nI (by omega)]; exact ⟨by rw [i112]; exact k1, hr, hof⟩
          have hpk := pk_first (S := vwC w M3) (S0 := S0) (held := held) (m := tn (S0 34 0)) (c := c) (W := fun j => mi M1 (w + 8) j) (by omega) hl i112 i115 (fun k hk => iro k (by omega)) hjc c2 hel
          have hpk : pkG (vwC w M3) held (tn (S0 34 0)) = (nI k, ofF (vwC w M3) held (vwC w M3 126 k)) := by rw [hpk, ek, tn_nI (by omega)]
          rcases of_rng0 hg2 (held := held) (ls := vwC w M3 126 k) with q | ⟨o, ho, eo, hok⟩
          · rw [q] at hof; exact absurd (by decide) hof
          refine hK2 hjc (nI c) (nI i) 1 M4 ⟨rfl, rfl, Or.inr ⟨rfl, by rw [hpk]; exact nI_pos (by omega), by rw [hpk]; exact hv4, hF4.mono (fun a _ q => q.1), fun j' => ?_, ?_, fun k' hk' hr' => ?_, ?_⟩⟩
          · exact (hF4.gt (fun q => q.2 rfl)).trans (hW2 j')
          · rw [hv4, eo]; exact gd_ldU hg2 hk8 hr ho
          · rw [hv4, eo] at hr'; exact ro_ldU hg2 hk8 hr ho hk' hr'
          · rw [hv4]; unfold ldU
            rw [u2_f (by decide), u2_f (by decide), u2_f (by decide), u2_f (by decide), u2_f (by decide)]; exact i94
      · refine ⟨fun q => absurd (c0.symm.trans q) (by decide), fun _ => goOut2 c0 c1⟩
    · rw [nI_lt' (by omega) (by omega)] at hjc
      have ejc : j = c := by omega
      subst ejc
      rcases hcase with ⟨c0, c1, c2⟩ | ⟨c0, c1⟩
      · exact goOut1 c0 c1 c2
      · exact goOut2 c0 c1
  · rw [nI_lt' (by omega) (by omega)] at hge
    rw [show tn (S0 94 0) - i = 0 from by omega] at hld
    exact h M2 (by rw [hld]; rfl) hF2
-- selling
theorem c_sells {L : Lay} {T w k la : Nat} {duty : Int32} {M : Mem} {Q : Mem → Prop} (hk : k < 8) (hg : gdT T (vwC w M)) (hla : mp M w 9 = some la) (hob : OB L la 1) (hpw : ∀ k, ¬ PV w la k) (hdu : mi M la 1 = duty)
    (h : ∀ M', vwC w M' = slF (vwC w M) k duty → FJ (PV w) M M' → Q M') : w_X10_sellLoads L w (sA w k) M Q := by
  unfold w_X10_sellLoads
  have hg' := hg
  obtain ⟨-, n1, -, -, -, -, -, -, -, -, n5, -⟩ := hg'
  obtain ⟨s1, s2, s3, s4, -, -, s7⟩ := n5 k hk
  generalize hS : vwC w M = S at *
  refine LP2_c0 0 (tn (S 113 k)) (fun i M' => vwC w M' = slG S k duty i ∧ FJ (PV w) M M') rfl (Nat.zero_le _) ⟨hS, FJ.rf⟩ ?_
  intro i M1 hi _ ⟨hv, hF⟩ K hK
  unfold w_X10_sellLoads_2
  have e113 : mi M1 (sA w k) 5 = nI (tn (S 113 k)) := by rw [rC_113 hk, hv, slG_f (by decide), ← s1]
  rw [e113]
  refine ⟨fun hlt => ?_, fun hge => ?_⟩
  · rw [nI_lt' (by omega) (by omega)] at hlt
    obtain ⟨c1, c2⟩ := s7 i hlt
    have hi12 : i < 12 := by omega
    rw [tn_nI (by omega), rC_116 hk hi12, hv, slG_f (by decide)]
    have ho : tn (S 116 (12 * k + i)) < 10 := by omega
    refine ⟨vp_in_nI hi12 (by decide), by rw [c1]; exact vp_in_nI ho (by decide), ?_⟩
    refine c_price ?_
    have hd1 : mi M1 la 1 = duty := by rw [hF.gt (hpw _)]; exact hdu
    refine ⟨la, by rw [hF.mp]; exact hla, hob, fun M2 e2 x hx => ?_⟩
    rw [rC_110 ho, rC_120 ho, rC_123 ho, rC_124 ho, hd1] at e2
    simp only [hv] at e2
    rw [slG_f (f := 120) (by decide), slG_f (f := 123) (by decide), slG_f (f := 124) (by decide), pr_cong (S := S) (slG_f (by decide) i) (slG_f (by decide) i) (slG_f (by decide) i)] at e2
    rw [hx, nI_1]
    refine hK hlt M2 ⟨?_, ?_⟩
    · rw [e2, sC_110 ho, hv]; rfl
    · rw [e2]; exact hF.si (PV_o ho)
  · rw [nI_lt' (by omega) (by omega)] at hge
    have ei : i = tn (S 113 k) := by omega
    subst ei
    unfold w_X0_addLoads
    intro M2 e2 M3 e3 M4 e4
    have v2 : vwC w M2 = u2 (slG S k duty (tn (S 113 k))) 96 0 (jmin 99999 (S 96 0 + 8 * S 113 k)) := by
      rw [e2, sC_96, hv, rC_96, hv, slG_f (by decide), ← s1]
    have v3 : vwC w M3 = u2 (vwC w M2) 105 0 (S 105 0 + S 113 k) := by
      rw [e3, sC_105, rC_105 (w := w), rC_113 hk, v2, u2_f (by decide), u2_f (by decide), slG_f (by decide), slG_f (by decide)]
    refine h M4 ?_ ?_
    · rw [e4, sC_113 hk, v3, v2]; rfl
    · rw [e4, e3, e2]
      exact ((hF.si (PV_k (by decide) (by decide))).si PV_w).si (PV_s hk)
-- a ship sails, or lies still
theorem c_ship {L : Lay} {T w k la : Nat} {d wd duty : Int32} {M : Mem} {Q : Int32 → Mem → Prop} (hk : k < 8) (hg : gdT T (vwC w M)) (hla : mp M w 9 = some la) (hob : OB L la 1) (hpw : ∀ k, ¬ PV w la k) (hdu : mi M la 1 = duty) {t : Nat} (hd : d = nI (t + 1)) (ht : t ≤ 720) (hc : tn (vwC w M 115 k) ≤ t)
    (h : ∀ M', vwC w M' = saF (vwC w M) d wd duty k → FJ (PV w) M M' → ∀ y : Int32, y = nI k + 1 → Q y M') :
    w_X9_comesToCity L (sA w k) wd d M (fun x M3 => (((x = 0 → (∀ y : Int32, y = nI k + (1 : Int32) → Q y M3)) ∧ (¬ x = 0 → (w_X10_sellLoads L w (sA w k) M3 (fun M7 => (∀ y : Int32, y = nI k + (1 : Int32) → Q y M7))))))) := by
  have hg' := hg
  obtain ⟨-, -, -, -, -, -, -, -, -, -, n5, -⟩ := hg'
  have hs := n5 k hk
  have hs' := hs
  obtain ⟨s1, s2, s3, s4, s5, s6, -⟩ := hs'
  have c1 : vwC w M 115 k < d ∧ ¬ vwC w M 115 k = d := by
    rw [s5, hd, nI_lt' (by omega) (by omega), nI_eq' (by omega) (by omega)]; omega
  -- the last part: from the place and the days left
  have last : ∀ M1 : Mem, (vwC w M1 = vwC w M ∧ FJ (PV w) M M1 ∧ ¬ ((vwC w M 112 k = 0 ∧ wd = 1 ∧ (roF (vwC w M) k = false ∨ (0 < vwC w M 113 k ∧ ¬ d - vwC w M 115 k < 10))) ∨ (vwC w M 112 k = 2 ∧ wd = 2 ∧ ¬ vwC w M 115 k = d))) →
      w_X9_comesToCity_91 L (sA w k) wd d M1 (fun x M3 => (((x = 0 → (∀ y : Int32, y = nI k + (1 : Int32) → Q y M3)) ∧ (¬ x = 0 → (w_X10_sellLoads L w (sA w k) M3 (fun M7 => (∀ y : Int32, y = nI k + (1 : Int32) → Q y M7))))))) := by
    intro M1 ⟨hv1, hF1, hno⟩
    unfold w_X9_comesToCity_91
    rw [rC_112 hk, hv1]
    intro x hx
    have hx2 : x = if (vwC w M 112 k = 1 ∧ wd = 1) ∨ (vwC w M 112 k = 3 ∧ wd = 2) then 1 else 0 := by
      rw [hx]
      by_cases q1 : wd = 1 <;> by_cases q2 : vwC w M 112 k = 1 <;> by_cases q3 : wd = 2 <;> by_cases q4 : vwC w M 112 k = 3 <;> simp [q1, q2, q3, q4]
    by_cases hsail : (vwC w M 112 k = 1 ∧ wd = 1) ∨ (vwC w M 112 k = 3 ∧ wd = 2)
    · rw [if_pos hsail] at hx2
      subst hx2
      refine ⟨fun q => absurd q (by decide), fun _ M2 e2 => ?_⟩
      have v2 : vwC w M2 = u2 (vwC w M) 114 k (vwC w M 114 k - 1) := by rw [e2, sC_114 hk, rC_114 hk, hv1]
      have F2 : FJ (PV w) M M2 := by rw [e2]; exact hF1.si (PV_s hk)
      rw [rC_114 hk, rC_112 hk, v2, u2_s, u2_f (by decide)]
      refine ⟨fun hp => ⟨fun _ y hy => h M2 ?_ F2 y hy, fun q => absurd rfl q⟩, fun hn => ?_⟩
      · rw [v2]; unfold saF; rw [if_neg hno, if_pos hsail, if_pos hp]
      · intro z hz M3 e3 M4 e4 x2 ex2
        have v3 : vwC w M3 = u2 (vwC w M2) 112 k z := by rw [e3, sC_112 hk]
        have v4 : vwC w M4 = u2 (u2 (u2 (vwC w M) 114 k (vwC w M 114 k - 1)) 112 k z) 115 k d := by rw [e4, sC_115 hk, v3, v2]
        have F4 : FJ (PV w) M M4 := by rw [e4, e3]; exact (F2.si (PV_s hk)).si (PV_s hk)
        rw [rC_112 hk, v4, u2_f (by decide), u2_s] at ex2
        by_cases hat : vwC w M 112 k = 1
        · rw [if_pos hat] at hz
          subst hz
          rw [if_pos rfl] at ex2
          subst ex2
          refine ⟨fun q => absurd q (by decide), fun _ => ?_⟩
          have g4 : gdT (T + t + 1) (vwC w M4) := by
            rw [v4]
            exact gd_came hg hk hd ht (by omega) (by omega)
          refine c_sells (duty := duty) hk g4 (by rw [F4.mp]; exact hla) hob hpw (by rw [F4.gt (hpw _)]; exact hdu) (fun M7 hv7 hF7 y hy => h M7 ?_ (F4.tr hF7) y hy)
          rw [hv7, v4]; unfold saF; rw [if_neg hno, if_pos hsail, if_neg hn, if_pos hat]
        · rw [if_neg hat] at hz
          subst hz
          rw [if_neg (by decide)] at ex2
          subst ex2
          refine ⟨fun _ y hy => h M4 ?_ F4 y hy, fun q => absurd rfl q⟩
          rw [v4]; unfold saF; rw [if_neg hno, if_pos hsail, if_neg hn, if_neg hat]
    · rw [if_neg hsail] at hx2
      subst hx2
      refine ⟨fun _ => ⟨fun _ y hy => h M1 ?_ hF1 y hy, fun q => absurd rfl q⟩, fun q => absurd rfl q⟩
      rw [hv1]; unfold saF; rw [if_neg hno, if_neg hsail]
  -- it sails today: two writes, then four days less one
  have go : ∀ z : Int32, ((vwC w M 112 k = 0 ∧ wd = 1 ∧ (roF (vwC w M) k = false ∨ (0 < vwC w M 113 k ∧ ¬ d - vwC w M 115 k < 10))) ∨ (vwC w M 112 k = 2 ∧ wd = 2 ∧ ¬ vwC w M 115 k = d)) → z = vwC w M 112 k + 1 → (z = 1 ∧ wd = 1 ∨ z = 3 ∧ wd = 2) → ∀ M1 M2 : Mem, M1 = si M (sA w k) 2 z → M2 = si M1 (sA w k) 3 4 →
      w_X9_comesToCity_91 L (sA w k) wd d M2 (fun x M3 => (((x = 0 → (∀ y : Int32, y = nI k + (1 : Int32) → Q y M3)) ∧ (¬ x = 0 → (w_X10_sellLoads L w (sA w k) M3 (fun M7 => (∀ y : Int32, y = nI k + (1 : Int32) → Q y M7))))))) := by
    intro z hyes hz hz2 M1 M2 e1 e2
    have v2 : vwC w M2 = u2 (u2 (vwC w M) 112 k z) 114 k 4 := by rw [e2, sC_114 hk, e1, sC_112 hk]
    have F2 : FJ (PV w) M M2 := by rw [e2, e1]; exact (FJ.rf.si (PV_s hk)).si (PV_s hk)
    unfold w_X9_comesToCity_91
    rw [rC_112 hk, v2, u2_f (by decide), u2_s]
    intro x hx
    have hx2 : x = 1 := by
      rw [hx]
      rcases hz2 with ⟨rfl, rfl⟩ | ⟨rfl, rfl⟩ <;> rfl
    subst hx2
    refine ⟨fun q => absurd q (by decide), fun _ M3 e3 => ?_⟩
    have v3 : vwC w M3 = u2 (u2 (vwC w M) 112 k z) 114 k 3 := by
      rw [e3, sC_114 hk, rC_114 hk, v2, u2_s]
      funext f i; simp only [u2]; split <;> rfl
    have F3 : FJ (PV w) M M3 := by rw [e3]; exact F2.si (PV_s hk)
    rw [rC_114 hk, v3, u2_s]
    refine ⟨fun _ => ⟨fun _ y hy => h M3 ?_ F3 y hy, fun q => absurd rfl q⟩, fun q => absurd (by decide) q⟩
    rw [v3, hz]; unfold saF; rw [if_pos hyes]
  unfold w_X9_comesToCity
  refine c_room hk hs ?_
  rw [rC_113 hk, rC_115 hk]
  intro x hx
  have hx2 : (x = 0) = ¬ (roF (vwC w M) k = false ∨ (0 < vwC w M 113 k ∧ ¬ d - vwC w M 115 k < 10)) := by
    rw [hx]
    by_cases q1 : roF (vwC w M) k = true <;> by_cases q2 : 0 < vwC w M 113 k <;> by_cases q3 : d - vwC w M 115 k < 10 <;> simp [q1, q2, q3]
  rw [rC_112 hk]
  have home : w_X9_comesToCity_60 L (sA w k) wd d M (fun x M3 => (((x = 0 → (∀ y : Int32, y = nI k + (1 : Int32) → Q y M3)) ∧ (¬ x = 0 → (w_X10_sellLoads L w (sA w k) M3 (fun M7 => (∀ y : Int32, y = nI k + (1 : Int32) → Q y M7))))))) ∨ (vwC w M 112 k = 0 ∧ wd = 1 ∧ (roF (vwC w M) k = false ∨ (0 < vwC w M 113 k ∧ ¬ d - vwC w M 115 k < 10))) := by
    by_cases hout : vwC w M 112 k = 0 ∧ wd = 1 ∧ (roF (vwC w M) k = false ∨ (0 < vwC w M 113 k ∧ ¬ d - vwC w M 115 k < 10))
    · exact Or.inr hout
    · left
      unfold w_X9_comesToCity_60
      rw [rC_112 hk, rC_115 hk]
      refine ⟨fun q1 => ⟨fun q2 => ⟨fun _ M1 e1 M2 e2 => ?_, fun q3 => absurd c1.1 q3⟩, fun q2 => last M ⟨rfl, FJ.rf, fun r => ?_⟩⟩, fun q1 => last M ⟨rfl, FJ.rf, fun r => ?_⟩⟩
      · refine go 3 (Or.inr ⟨q2, q1, c1.2⟩) (by rw [q2]; rfl) (Or.inr ⟨rfl, q1⟩) M1 M2 e1 e2
      · rcases r with r | r
        · exact hout r
        · exact q2 r.1
      · rcases r with r | r
        · exact hout r
        · exact q1 r.2.1
  refine ⟨fun q1 => ⟨fun q2 => ⟨fun q3 => ?_, fun q3 M1 e1 M2 e2 => ?_⟩, fun q2 => ?_⟩, fun q1 => ?_⟩
  · rcases home with r | r
    · exact r
    · rw [hx2] at q3; exact absurd r.2.2 q3
  · rw [hx2, Classical.not_not] at q3
    exact go 1 (Or.inl ⟨q2, q1, q3⟩) (by rw [q2]; rfl) (Or.inl ⟨rfl, q1⟩) M1 M2 e1 e2
  · rcases home with r | r
    · exact r
    · exact absurd r.1 q2
  · rcases home with r | r
    · exact r
    · exact absurd r.2.1 q1
theorem c_move {L : Lay} {T t w la : Nat} {wd duty : Int32} {M : Mem} {Q : Mem → Prop} (hg : gdT T (vwC w M)) (hT : T ≤ t) (ht : t ≤ 720) (h93 : vwC w M 93 0 = nI t) (hla : mp M w 9 = some la) (hob : OB L la 1) (hpw : ∀ k, ¬ PV w la k) (hdu : mi M la 1 = duty)
    (h : ∀ M', vwC w M' = saG (vwC w M 93 0 + 1) wd duty (vwC w M) (tn (vwC w M 34 0)) → FJ (PV w) M M' → Q M') : w_X10_moveShips L w wd M Q := by
  unfold w_X10_moveShips
  have hg' := hg
  obtain ⟨-, -, n1, n2, -, -, -, -, -, -, n5, -⟩ := hg'
  generalize hS : vwC w M = S at *
  have hd : S 93 0 + 1 = nI (t + 1) := by rw [h93, nI_1]
  refine LP2_c0 0 (tn (S 34 0)) (fun k M' => vwC w M' = saG (S 93 0 + 1) wd duty S k ∧ FJ (PV w) M M') rfl (Nat.zero_le _) ⟨hS, FJ.rf⟩ ?_
  intro k M1 hk _ ⟨hv, hF⟩ K hK
  have e34 : vwC w M1 34 0 = S 34 0 := by rw [hv, saG_f (by decide) (by decide) (by decide) (by decide) (by decide) (by decide) (by decide)]
  have e93 : vwC w M1 93 0 = S 93 0 := by rw [hv, saG_f (by decide) (by decide) (by decide) (by decide) (by decide) (by decide) (by decide)]
  unfold w_X10_moveShips_2
  rw [rC_34 (w := w), rC_93 (w := w), e34, e93, n1]
  refine ⟨fun hlt => ?_, fun hge => ?_⟩
  · rw [nI_lt' (by omega) (by omega)] at hlt
    have hk8 : k < 8 := by omega
    rw [tn_nI (by omega)]
    refine ⟨vp_in_nI hk8 (by decide), ?_⟩
    have g1 : gdT (t + 1) (vwC w M1) := by rw [hv]; exact gd_saG hg hd ht (by omega) (Nat.le_refl _) k (by omega)
    refine c_ship (duty := duty) hk8 g1 (by rw [hF.mp]; exact hla) hob hpw (by rw [hF.gt (hpw _)]; exact hdu) hd ht (by rw [hv, saG_115 (Nat.le_refl k)]; exact Nat.le_trans (n5 k hk8).2.2.2.2.2.1 hT) (fun M2 hv2 hF2 x hx => ?_)
    rw [hx, nI_1]
    refine hK hlt M2 ⟨?_, hF.tr hF2⟩
    rw [hv2, hv]; rfl
  · rw [nI_lt' (by omega) (by omega)] at hge
    have ek : k = tn (S 34 0) := by omega
    subst ek
    exact h M1 hv hF
theorem c_use {L : Lay} {w : Nat} {wd x : Int32} {M : Mem} {Q : Mem → Prop} (hx : x = if wd = 3 then 1 else 0) (h : ∀ M', vwC w M' = usF (vwC w M) wd → FJ (PV w) M M' → Q M') : w_X0_useWant L (w + 3) x M Q := by
  unfold w_X0_useWant
  rw [rC_97 (w := w), rC_96 (w := w)]
  intro x1 e1 x2 e2 x3 e3 M4 e4 x5 e5 M6 e6 x7 e7 M8 e8
  have d1 : x1 = if wd = 3 then 2 * vwC w M 97 0 else vwC w M 97 0 := by
    rw [e1, hx]
    by_cases q : wd = 3
    · rw [if_pos q, if_pos q, if_neg (by decide)]
    · rw [if_neg q, if_neg q, if_pos rfl]
  have d3 : x3 = if vwC w M 96 0 < x1 then 0 else vwC w M 96 0 - x1 := by
    rw [e3, e2]
    by_cases q : vwC w M 96 0 < x1
    · rw [if_pos q, if_pos q, if_neg (by decide)]
    · rw [if_neg q, if_neg q, if_pos rfl]
  have d5 : x5 = if vwC w M 96 0 < x1 then 1 else 0 := by
    rw [e5, e2]
    by_cases q : vwC w M 96 0 < x1
    · rw [if_pos q, if_neg (by decide)]
    · rw [if_neg q, if_pos rfl]
  have d7 : x7 = if vwC w M 96 0 < x1 then 1 else 0 := by
    rw [e7, e2]
    by_cases q : vwC w M 96 0 < x1
    · rw [if_pos q, if_neg (by decide)]
    · rw [if_neg q, if_pos rfl]
  have v4 : vwC w M4 = u2 (vwC w M) 96 0 x3 := by rw [e4, sC_96]
  have v6 : vwC w M6 = u2 (vwC w M4) 119 0 ((jshl (vwC w M 119 0) 1 ||| x5) &&& 1073741823) := by rw [e6, sC_119, rC_119 (w := w), v4, u2_f (by decide)]
  have v8 : vwC w M8 = u2 (vwC w M6) 106 0 (vwC w M 106 0 + x7) := by rw [e8, sC_106, rC_106 (w := w), v6, v4, u2_f (by decide), u2_f (by decide)]
  refine h M8 ?_ ?_
  · rw [v8, v6, v4, d3, d5, d7, d1]; rfl
  · rw [e8, e6, e4]
    exact ((FJ.rf.si (PV_k (by decide) (by decide))).si (PV_k (by decide) (by decide))).si (PV_k (by decide) (by decide))
theorem c_keepM {L : Lay} {T w : Nat} {M : Mem} {Q : Mem → Prop} (hg : gdT T (vwC w M))
    (h : ∀ M', vwC w M' = (fun f i => if f = 117 ∧ i < tn (vwC w M 28 0) then vwC w M 108 i else if f = 118 ∧ i < tn (vwC w M 28 0) then vwC w M 109 i else vwC w M f i) → FJ (PV w) M M' → Q M') : w_X10_keepMonth L w M Q := by
  unfold w_X10_keepMonth
  have hg' := hg
  obtain ⟨n1, n2, -⟩ := hg'
  generalize hS : vwC w M = S at *
  refine LP2_c0 0 (tn (S 28 0)) (fun k M' => vwC w M' = (fun f i => if f = 117 ∧ i < k then S 108 i else if f = 118 ∧ i < k then S 109 i else S f i) ∧ FJ (PV w) M M') rfl (Nat.zero_le _) ⟨?_, FJ.rf⟩ ?_
  · rw [hS]; funext f i; rw [if_neg (by omega), if_neg (by omega)]
  intro k M1 hk _ ⟨hv, hF⟩ K hK
  have eo : ∀ f i, f ≠ 117 → f ≠ 118 → vwC w M1 f i = S f i := fun f i a1 a2 => by rw [hv]; show (if _ then _ else if _ then _ else _) = _; rw [if_neg (fun q => a1 q.1), if_neg (fun q => a2 q.1)]
  unfold w_X10_keepMonth_2
  rw [rC_28 (w := w), eo 28 0 (by decide) (by decide), n1]
  refine ⟨fun hlt => ?_, fun hge => ?_⟩
  · rw [nI_lt' (by omega) (by omega)] at hlt
    have hk10 : k < 10 := by omega
    rw [tn_nI (by omega), rC_108 hk10, eo 108 k (by decide) (by decide)]
    refine ⟨vp_in_nI hk10 (by decide), fun M3 e3 => ?_⟩
    have v3 : vwC w M3 = u2 (vwC w M1) 117 k (S 108 k) := by rw [e3, sC_117 hk10]
    have F3 : FJ (PV w) M M3 := by rw [e3]; exact hF.si (PV_o hk10)
    have fin : ∀ (z : Int32) (M4 : Mem), z = S 109 k → M4 = si M3 (oA w k) 11 z → ∀ x : Int32, x = nI k + 1 → K x M4 := fun z M4 hz e4 x hx => by
      rw [hx, nI_1]
      refine hK hlt M4 ⟨?_, by rw [e4]; exact F3.si (PV_o hk10)⟩
      rw [e4, sC_118 hk10, v3, hv, hz]
      funext f i
      show (if f = 118 ∧ i = k then S 109 k else if f = 117 ∧ i = k then S 108 k else if f = 117 ∧ i < k then S 108 i else if f = 118 ∧ i < k then S 109 i else S f i) = _
      by_cases a : f = 117
      · subst a
        rw [if_neg (by omega)]
        by_cases b : i = k
        · subst b; rw [if_pos ⟨rfl, rfl⟩, if_pos ⟨rfl, by omega⟩]
        · by_cases c : i < k
          · rw [if_neg (by omega), if_pos ⟨rfl, c⟩, if_pos ⟨rfl, by omega⟩]
          · rw [if_neg (by omega), if_neg (by omega), if_neg (by omega), if_neg (by omega), if_neg (by omega)]
      · by_cases a2 : f = 118
        · subst a2
          by_cases b : i = k
          · subst b; rw [if_pos ⟨rfl, rfl⟩, if_neg (by omega), if_pos ⟨rfl, by omega⟩]
          · by_cases c : i < k
            · rw [if_neg (by omega), if_neg (by omega), if_neg (by omega), if_pos ⟨rfl, c⟩, if_neg (by omega), if_pos ⟨rfl, by omega⟩]
            · rw [if_neg (by omega), if_neg (by omega), if_neg (by omega), if_neg (by omega), if_neg (by omega), if_neg (by omega)]
        · rw [if_neg (fun q => a2 q.1), if_neg (fun q => a q.1), if_neg (fun q => a q.1), if_neg (fun q => a2 q.1), if_neg (fun q => a q.1), if_neg (fun q => a2 q.1)]
    refine ⟨fun hno M4 e4 x hx => fin 0 M4 ?_ e4 x hx, fun a ha M4 e4 x hx => fin (mi M3 (oA w k) 8) M4 ?_ e4 x hx⟩
    · have hno2 : mp M1 w 11 = none := by rw [e3] at hno; exact hno
      rw [← eo 109 k (by decide) (by decide)]
      unfold vwC
      rw [if_pos rfl, if_neg (fun q => q.2 hno2)]
    · rw [rC_109 ha hk10, v3, u2_f (by decide), eo 109 k (by decide) (by decide)]
  · rw [nI_lt' (by omega) (by omega)] at hge
    have ek : k = tn (S 28 0) := by omega
    subst ek
    exact h M1 hv hF
-- all that runs every day
theorem c_day {L : Lay} {t w la : Nat} {wd duty : Int32} {M : Mem} {Q : Mem → Prop} (hg : gdT t (vwC w M)) (ht : t < 720) (h93 : vwC w M 93 0 = nI t) (hla : mp M w 9 = some la) (hob : OB L la 1) (hpw : ∀ k, ¬ PV w la k) (hdu : mi M la 1 = duty) (held : Bool) (hh : held = (mp M w 11).isSome)
    (h : ∀ M', vwC w M' = dyF (vwC w M) held wd duty → FJ (PV w) M M' → Q M') : w_X10_passDay_63 L w wd M Q := by
  unfold w_X10_passDay_63
  have hg' := hg
  obtain ⟨n1, n2, -⟩ := hg'
  generalize hS : vwC w M = S at *
  refine LP2_c0 0 (tn (S 28 0)) (fun k M' => vwC w M' = (fun f i => if f = 107 ∧ i < k then jmin 9999 (S 107 i + S 122 i) else S f i) ∧ FJ (PV w) M M') rfl (Nat.zero_le _) ⟨?_, FJ.rf⟩ ?_
  · rw [hS]; funext f i; rw [if_neg (by omega)]
  intro k M1 hk _ ⟨hv, hF⟩ K hK
  have eo : ∀ f i, f ≠ 107 → vwC w M1 f i = S f i := fun f i a1 => by rw [hv]; show (if _ then _ else _) = _; rw [if_neg (fun q => a1 q.1)]
  unfold w_X10_passDay_65
  rw [rC_28 (w := w), eo 28 0 (by decide), n1]
  refine ⟨fun hlt => ?_, fun hge => ?_⟩
  · rw [nI_lt' (by omega) (by omega)] at hlt
    have hk10 : k < 10 := by omega
    rw [tn_nI (by omega), rC_107 hk10, rC_122 hk10, eo 122 k (by decide)]
    refine ⟨vp_in_nI hk10 (by decide), fun M3 e3 x hx => ?_⟩
    rw [hx, nI_1]
    refine hK hlt M3 ⟨?_, by rw [e3]; exact hF.si (PV_o hk10)⟩
    have e107 : vwC w M1 107 k = S 107 k := by rw [hv]; show (if _ then _ else _) = _; rw [if_neg (by omega)]
    rw [e3, sC_107 hk10, e107, hv]
    funext f i
    show (if f = 107 ∧ i = k then _ else if f = 107 ∧ i < k then _ else S f i) = _
    by_cases a : f = 107
    · by_cases b : i = k
      · subst b; rw [if_pos ⟨a, rfl⟩, if_pos ⟨a, by omega⟩]
      · rw [if_neg (fun q => b q.2)]
        by_cases c : i < k
        · rw [if_pos ⟨a, c⟩, if_pos ⟨a, by omega⟩]
        · rw [if_neg (by omega), if_neg (by omega)]
    · rw [if_neg (fun q => a q.1), if_neg (fun q => a q.1), if_neg (fun q => a q.1)]
  · rw [nI_lt' (by omega) (by omega)] at hge
    have ek : k = tn (S 28 0) := by omega
    subst ek
    have hv : vwC w M1 = digF S := hv
    have g1 : gdT t (vwC w M1) := by rw [hv]; exact gd_dig hg
    refine c_loadShips g1 held (by rw [hh, hF.mp]) (fun M2 hv2 hF2 => ?_)
    have e94 : vwC w M1 94 0 = S 94 0 := eo 94 0 (by decide)
    rw [e94, hv] at hv2
    have g2 : gdT t (vwC w M2) := by rw [hv2]; exact gd_ldG _ _ (gd_dig hg)
    have hF12 := hF.tr hF2
    have l93 : vwC w M2 93 0 = S 93 0 := by
      rw [hv2, ldG_f (by decide) (by decide) (by decide) (by decide) (by decide)]; exact if_neg (fun q => absurd q.1 (by decide))
    have l34 : vwC w M2 34 0 = S 34 0 := by
      rw [hv2, ldG_f (by decide) (by decide) (by decide) (by decide) (by decide)]; exact if_neg (fun q => absurd q.1 (by decide))
    refine c_move (duty := duty) g2 (Nat.le_refl _) (by omega) (l93.trans h93) (by rw [hF12.mp]; exact hla) hob hpw (by rw [hF12.gt (hpw _)]; exact hdu) (fun M3 hv3 hF3 => ?_)
    rw [l93, l34, hv2] at hv3
    have hF13 := hF12.tr hF3
    intro x hx
    refine c_use (wd := wd) hx (fun M4 hv4 hF4 => ?_)
    rw [hv3] at hv4
    have hF14 := hF13.tr hF4
    have u93 : vwC w M4 93 0 = S 93 0 := by
      rw [hv4, ← l93, hv2]; unfold usF
      rw [u2_f (by decide), u2_f (by decide), u2_f (by decide), saG_f (by decide) (by decide) (by decide) (by decide) (by decide) (by decide) (by decide)]
    intro M5 e5
    have v5 : vwC w M5 = u2 (vwC w M4) 93 0 (S 93 0 + 1) := by rw [e5, sC_93, rC_93 (w := w), u93]
    have F5 : FJ (PV w) M M5 := by rw [e5]; exact hF14.si PV_w
    have edy : dyF S held wd duty = enF (vwC w M4) := by rw [hv4]; rfl
    have e5a : mi M5 w 0 = S 93 0 + 1 := by rw [rC_93, v5, u2_s]
    rw [e5a]
    refine ⟨fun hz => ?_, fun hz => h M5 ?_ F5⟩
    · have g5 : gdT (t + 1) (vwC w M5) := by
        have := gd_dy (held := held) (w := wd) (duty := duty) hg (by rw [h93, tn_nI (by omega)]) ht
        rw [edy] at this
        have g4 : gdT (t + 1) (vwC w M4) := by
          rw [hv4]
          exact gd_use (gd_saG (gd_ldG _ _ (gd_dig hg)) (by rw [h93, nI_1]) (by omega) (by omega) (Nat.le_refl _) _ hg.2.2.2.1)
        rw [v5]
        exact gd_93 g4 (t := t + 1) (by rw [h93, nI_1]) (by omega)
      refine c_keepM g5 (fun M6 hv6 hF6 => h M6 ?_ (F5.tr hF6))
      rw [hv6, edy, v5]
      unfold enF
      rw [u93, if_pos hz]
      funext f i
      have r28 : u2 (vwC w M4) 93 0 (S 93 0 + 1) 28 0 = vwC w M4 28 0 := u2_f (by decide)
      rw [r28, u2_f (g := 108) (by decide), u2_f (g := 109) (by decide)]
      show _ = (if f = 93 ∧ i = 0 then _ else if f = 117 ∧ i < _ then _ else if f = 118 ∧ i < _ then _ else _)
      by_cases a : f = 93
      · subst a
        rw [if_neg (by omega), if_neg (by omega)]
        by_cases b : i = 0
        · subst b; rw [if_pos ⟨rfl, rfl⟩, u2_s]
        · rw [if_neg (fun q => b q.2), if_neg (by omega), if_neg (by omega), u2_i b]
      · rw [if_neg (c := f = 93 ∧ i = 0) (fun q => a q.1), u2_f a]
    · rw [v5, edy]; unfold enF
      rw [u93, if_neg hz]
