-- LEVEL 3, part 56: the reference reads a line of a pact
def lnM (M : Mem) (top k : Nat) (e : Option Ex) : Prop := (mi M 130 (275 + k) < 0 ∧ e = none) ∨ ∃ (a n : Nat) (x : Ex), mi M 130 (275 + k) = nI a ∧ mi M 131 (275 + k) = nI (a + n) ∧ 25000 ≤ a ∧ a + n ≤ top ∧ e = some x ∧ vdC (cdM M a n) x
def pmS (M : Mem) (b : Nat) (s : pS) : Prop := ∃ top, mi M 92 57 = nI top ∧ 25000 ≤ top ∧ top ≤ 25000 + b ∧ (∀ k, k < 3 → lnM M top k (s.1 k)) ∧ mi M 132 25 = nI s.2.1.length ∧ s.2.1.length ≤ 8 ∧
  (∃ xs : Nat → Ex, s.2.1 = (List.range s.2.1.length).map xs ∧ ∀ k, k < s.2.1.length → lnM M top (3 + k) (some (xs k))) ∧ rsM (mi M 133 25) s.2.2.1 ∧ mi M 134 25 = s.2.2.2 ∧ (s.2.2.2 = -1 ∨ ¬ s.2.2.2 < 0)
theorem lnM_to {M M' : Mem} {top top' k : Nat} {e : Option Ex} (ht : top ≤ top') (h0 : mi M' 130 (275 + k) = mi M 130 (275 + k)) (h1 : mi M' 131 (275 + k) = mi M 131 (275 + k)) (h5 : ∀ j, j < top → mi M' 135 j = mi M 135 j) (hl : lnM M top k e) : lnM M' top' k e := by
  rcases hl with ⟨q1, q2⟩ | ⟨a, n, x, q1, q2, q3, q4, q5, q6⟩
  · exact Or.inl ⟨by rw [h0]; exact q1, q2⟩
  · exact Or.inr ⟨a, n, x, h0.trans q1, h1.trans q2, q3, by omega, q5, by rw [cdM_cg (M := M) (a := a) (fun j hj => h5 _ (by omega))]; exact q6⟩
theorem pmS_cg {M M' : Mem} {b b' : Nat} {s : pS} (hb : b ≤ b') (h57 : mi M' 92 57 = mi M 92 57) (h : ∀ a k, 130 ≤ a → a ≤ 135 → mi M' a k = mi M a k) (hp : pmS M b s) : pmS M' b' s := by
  obtain ⟨top, q1, q2, q3, q4, q5, q6, ⟨xs, q7, q8⟩, q9, qa, qb⟩ := hp
  refine ⟨top, h57.trans q1, q2, by omega, fun k hk => lnM_to (Nat.le_refl _) (h _ _ (by decide) (by decide)) (h _ _ (by decide) (by decide)) (fun j _ => h _ _ (by decide) (by decide)) (q4 k hk), (h _ _ (by decide) (by decide)).trans q5, q6, ⟨xs, q7, fun k hk => lnM_to (Nat.le_refl _) (h _ _ (by decide) (by decide)) (h _ _ (by decide) (by decide)) (fun j _ => h _ _ (by decide) (by decide)) (q8 k hk)⟩, ?_, ?_, qb⟩
  · rw [h _ _ (by decide) (by decide)]; exact q9
  · rw [h _ _ (by decide) (by decide)]; exact qa
def PMp (a k : Nat) : Prop := (a = 92 ∧ (k = 45 ∨ k = 46 ∨ k = 47 ∨ k = 49 ∨ k = 50 ∨ k = 57)) ∨ a = 136 ∨ a = 137 ∨ (a = 135 ∧ 25000 ≤ k) ∨ ((a = 130 ∨ a = 131) ∧ 275 ≤ k ∧ k < 286) ∨ ((a = 132 ∨ a = 133 ∨ a = 134) ∧ k = 25)
def limR (M : Mem) (T : Nat → Nat) (n b : Nat) (R : (Nat × Nat) ⊕ (Nat × pS)) (x : Int32) (M' : Mem) : Prop :=
  FLg PMp M M' ∧ ((∃ k p, R = .inl (k, p) ∧ x = 0 ∧ mi M' 92 50 = nI (k + 16 * p)) ∨ ∃ b' s', R = .inr (b', s') ∧ x = 1 ∧ b < b' ∧ b' ≤ n ∧ rdM M' T n ∧ rtM M' T n b' ∧ pmS M' b' s')
section LNM
variable {L : Lay} {M : Mem}
theorem m_pline {T : Nat → Nat} {n b : Nat} {s : pS} {Q : Int32 → Mem → Prop} (hT : okT T n) (hb : b < n) (hr : rdM M T n) (ht : rtM M T n b) (hp : pmS M b s) (hQ : ∀ x M', limR M T n b (liR T n b s) x M' → Q x M') : w_X12_readsLine L M Q := by
  have hn := hT.1
  obtain ⟨R, hR⟩ : ∃ R, liR T n b s = R := ⟨_, rfl⟩
  rw [hR] at hQ
  have jm : ∀ a k, PJ a k → PMp a k := fun a k z => by unfold PJ at z; unfold PMp; omega
  have nb := nx_rng (T := T) (n := n) (b := b) (by omega)
  have teE : ∀ e, e ≤ n → tkE T n e ≤ n := fun e he => (tkE_rng (T := T) he).2.2
  have b1 := nb.2.1
  have n1 := nx_rng (T := T) b1
  have n2 := nx_rng (T := T) n1.2.1
  obtain ⟨cc, hc⟩ : ∃ cc, tkC T n b = cc := ⟨_, rfl⟩
  unfold liR at hR
  rw [hc] at hR
  obtain ⟨p, hpe⟩ : ∃ p, nxT T n b = p := ⟨_, rfl⟩
  rw [hpe] at hR nb b1 n1 n2
  have w0 : ∀ k, k < 27 → ∀ w : Nat, whF k = w → (lN w : Int64) = lN (whF k) := fun k _ w h => by rw [h]
  have t3 := wt_3
  have t4 := wt_4
  simp only [List.cons.injEq] at t3 t4
  obtain ⟨u0, u1, u2, u3, u4, u5, u6, -, -, -⟩ := t3
  obtain ⟨-, -, -, u12, u13, u14, -, -, -, -⟩ := t4
  -- a fault
  have flt : ∀ (M1 : Mem) (k q : Nat), FLg PMp M M1 → mi M1 92 46 = nI q → R = .inl (k, q) → w_X12_fails L (nI k) M1 (fun x M' => Q x M') := fun M1 k q F1 h46 hk =>
    m_fails h46 (fun M2 e2 => hQ 0 M2 ⟨by rw [e2]; exact F1.si (by unfold PMp; omega), Or.inl ⟨k, q, hk, rfl, by rw [e2, mi_si, if_pos ⟨rfl, rfl⟩]⟩⟩)
  obtain ⟨top, p1, p2, p3, p4, p5, p6, ⟨xs, p7, p8⟩, p9, pa, pb⟩ := id hp
  -- the line's head is right
  have go : ¬ 5 < cc → ¬ tdB s cc = true → ¬ (cc = 3 ∧ s.2.1.length = 8) → w_X12_readsLine_173 L (nI cc) M Q := fun z5 td n38 => by
    rw [if_neg z5, if_neg td, if_neg n38] at hR
    unfold w_X12_readsLine_173
    refine m_next5 hT hr ht.2.1 (teE b (by omega)) (fun M1 t1 F1 => ?_)
    have t1 : rtM M1 T n p := by rw [← hpe]; exact t1
    have r1 : rdM M1 T n := rdM_cg hr (F1.1 _ _ (by unfold PJ; omega)) (fun i => F1.1 _ _ (by unfold PJ; omega))
    have G1 : FLg PMp M M1 := F1.mono jm
    have h1 : pmS M1 p s := pmS_cg (by omega) (F1.1 _ _ (by unfold PJ; omega)) (fun a k q1 q2 => F1.1 _ _ (by unfold PJ; omega)) hp
    have k57 : mi M1 92 57 = nI top := (F1.1 _ _ (by unfold PJ; omega)).trans p1
    obtain ⟨top', a1, a2, a3, a4, a5, a6, ⟨xs', a7, a8⟩, a9, aa, ab⟩ := id h1
    have etop : top' = top := (nI_eq (by omega) (by omega)).mp (a1.symm.trans k57)
    subst etop
    -- the end of a line
    have en : ∀ (M2 : Mem) (s' : pS), (∀ a k, ¬ (a = 133 ∨ a = 134) → mi M2 a k = mi M1 a k) → FLg PMp M M2 → pmS M2 p s' → R = enT T n (nxT T n p) s' → w_X12_readsLine_354 L M2 Q := fun M2 s' i2 G2 h2 hR2 => by
      unfold w_X12_readsLine_354
      have r2 : rdM M2 T n := rdM_cg r1 (i2 _ _ (by omega)) (fun i => i2 _ _ (by omega))
      refine m_next5 hT r2 ((i2 _ _ (by omega)).trans t1.2.1) (teE p b1) (fun M3 t3 F3 => ?_)
      have t3 : rtM M3 T n (nxT T n p) := t3
      have r3 : rdM M3 T n := rdM_cg r2 (F3.1 _ _ (by unfold PJ; omega)) (fun i => F3.1 _ _ (by unfold PJ; omega))
      have G3 := G2.tr (F3.mono jm)
      unfold w_X12_ends
      unfold enT at hR2
      refine m_is (s := 59) hT r3 t3 (by decide) (fun z => ?_) (fun z => ?_)
      · rw [if_neg z] at hR2
        exact flt M3 1 _ G3 t3.1 hR2
      · rw [if_pos z] at hR2
        refine m_next5 hT r3 t3.2.1 (teE _ n1.2.1) (fun M4 t4 F4 => ?_)
        have r4 : rdM M4 T n := rdM_cg r3 (F4.1 _ _ (by unfold PJ; omega)) (fun i => F4.1 _ _ (by unfold PJ; omega))
        refine hQ 1 M4 ⟨G3.tr (F4.mono jm), Or.inr ⟨_, s', hR2, rfl, by omega, n2.2.1, r4, t4, ?_⟩⟩
        refine pmS_cg (M := M3) (b := p) (by omega) (F4.1 _ _ (by unfold PJ; omega)) (fun a k q1 q2 => F4.1 _ _ (by unfold PJ; omega)) ?_
        exact pmS_cg (Nat.le_refl _) (F3.1 _ _ (by unfold PJ; omega)) (fun a k q1 q2 => F3.1 _ _ (by unfold PJ; omega)) h2
    rw [show (3 : Int32) = nI 3 from rfl, show (4 : Int32) = nI 4 from rfl, nI_eq' (by omega) (by omega), nI_eq' (by omega) (by omega), nI_lt' (by omega) (by omega)]
    refine ⟨fun c2 => ?_, fun c2 => ⟨fun c3 => ?_, fun c3 => ⟨fun c4 => ?_, fun c4 => ?_⟩⟩⟩
    · -- an expression
      rw [if_neg (by omega), if_neg (by omega), if_neg (by omega)] at hR
      refine m_expr (v0 := fun _ => 0) (p := cc) (a := top') hT (by omega) b1 a2 a3 r1 t1 k57 (fun x M2 hx => ?_)
      have hX : exR T n (n + 1) p (true, (fun _ => 0), noD, []) = exI T n p := rfl
      rw [hX] at hx
      have ep := ex_pos hT (n + 1) p (true, (fun _ => 0), noD, []) b1
      rw [hX] at ep
      rcases hx with ⟨k, q, q1, q2, q3, F2⟩ | ⟨q, y, m, q1, q2, q3, q4, q5, q6, q7, q8, q9, F2⟩
      · rw [q1] at hR
        exact hQ x M2 ⟨G1.tr (F2.mono (fun a k z => by unfold PEy at z; unfold PMp; omega)), Or.inl ⟨k, q, hR.symm, q2, q3⟩⟩
      · rw [q1] at hR ep
        have ep : p ≤ q ∧ q ≤ n := ep
        have nq := nx_rng (T := T) ep.2
        have hR : (.inr (nxT T n q, ((fun k => if k = cc then some y else s.1 k), s.2)) : (Nat × Nat) ⊕ (Nat × pS)) = R := hR
        have G2 : FLg PMp M1 M2 := F2.mono (fun a k z => by unfold PEy at z; unfold PMp; omega)
        have lo : ∀ j, j < top' → mi M2 135 j = mi M1 135 j := fun j hj => F2.1 _ _ (by unfold PEy; omega)
        have ot : ∀ k, k ≠ cc → mi M2 130 (275 + k) = mi M1 130 (275 + k) ∧ mi M2 131 (275 + k) = mi M1 131 (275 + k) := fun k hk => ⟨F2.1 _ _ (by unfold PEy; omega), F2.1 _ _ (by unfold PEy; omega)⟩
        refine hQ x M2 ⟨G1.tr G2, Or.inr ⟨_, _, hR.symm, q2, by omega, nq.2.1, rdM_cg r1 (F2.1 _ _ (by unfold PEy; omega)) (fun i => F2.1 _ _ (by unfold PEy; omega)), q4, ?_⟩⟩
        refine ⟨top' + m, q5, by omega, by omega, fun k hk => ?_, (F2.1 _ _ (by unfold PEy; omega)).trans a5, a6, ⟨xs', a7, fun k hk => lnM_to (by omega) (ot _ (by omega)).1 (ot _ (by omega)).2 lo (a8 k hk)⟩, ?_, ?_, ab⟩
        · show lnM M2 (top' + m) k (if k = cc then some y else s.1 k)
          by_cases w : k = cc
          · rw [if_pos w, w]
            exact Or.inr ⟨top', m, y, q7, q8, a2, Nat.le_refl _, rfl, q9⟩
          · rw [if_neg w]
            exact lnM_to (by omega) (ot k w).1 (ot k w).2 lo (a4 k hk)
        · rw [F2.1 _ _ (by unfold PEy; omega)]; exact a9
        · rw [F2.1 _ _ (by unfold PEy; omega)]; exact aa
    · -- a fall
      rw [if_pos c3] at hR
      have l8 : s.2.1.length < 8 := by omega
      refine m_iw (k := 6) t1 (by decide) (by rw [u6]; rfl) (fun z => ?_) (fun z => ?_)
      · rw [if_neg z] at hR
        exact flt M1 1 p G1 t1.1 hR.symm
      · rw [if_pos z] at hR
        refine m_next5 hT r1 t1.2.1 (teE p b1) (fun M2 t2 F2 => ?_)
        have r2 : rdM M2 T n := rdM_cg r1 (F2.1 _ _ (by unfold PJ; omega)) (fun i => F2.1 _ _ (by unfold PJ; omega))
        have k132 : mi M2 132 25 = nI s.2.1.length := (F2.1 _ _ (by unfold PJ; omega)).trans a5
        rw [k132, nI_add]
        obtain ⟨p2, hp2⟩ : ∃ p2, nxT T n p = p2 := ⟨_, rfl⟩
        rw [hp2] at hR n1 n2
        have t2 : rtM M2 T n p2 := by rw [← hp2]; exact t2
        refine m_expr (v0 := fun _ => 0) (p := 3 + s.2.1.length) (a := top') hT (by omega) n1.2.1 a2 (by omega) r2 t2 ((F2.1 _ _ (by unfold PJ; omega)).trans k57) (fun x M3 hx => ?_)
        have hX : exR T n (n + 1) p2 (true, (fun _ => 0), noD, []) = exI T n p2 := rfl
        rw [hX] at hx
        have ep := ex_pos hT (n + 1) p2 (true, (fun _ => 0), noD, []) n1.2.1
        rw [hX] at ep
        have G2 := G1.tr (F2.mono jm)
        rcases hx with ⟨k, q, q1, q2, q3, F3⟩ | ⟨q, y, m, q1, q2, q3, q4, q5, q6, q7, q8, q9, F3⟩
        · rw [q1] at hR
          rw [q2]
          exact ⟨fun _ => hQ 0 M3 ⟨G2.tr (F3.mono (fun a k z => by unfold PEy at z; unfold PMp; omega)), Or.inl ⟨k, q, hR.symm, rfl, q3⟩⟩, fun w => absurd rfl w⟩
        · rw [q1] at hR ep
          rw [q2]
          have ep : p2 ≤ q ∧ q ≤ n := ep
          have nq := nx_rng (T := T) ep.2
          have hR : (.inr (nxT T n q, (s.1, s.2.1 ++ [y], s.2.2)) : (Nat × Nat) ⊕ (Nat × pS)) = R := hR
          refine ⟨fun w => absurd w (by decide), fun _ M4 e4 => ?_⟩
          have i3 : ∀ a k, ¬ PEy top' (3 + s.2.1.length) a k → mi M3 a k = mi M2 a k := F3.1
          have i4 : ∀ a k, ¬ (a = 132 ∧ k = 25) → mi M4 a k = mi M3 a k := fun a k z => by rw [e4, mi_si, if_neg z]
          have k4 : mi M4 132 25 = nI (s.2.1.length + 1) := by
            rw [e4, mi_si, if_pos ⟨rfl, rfl⟩, i3 _ _ (by unfold PEy; omega), k132, nI_1]
          have G4 : FLg PMp M M4 := by rw [e4]; exact (G2.tr (F3.mono (fun a k z => by unfold PEy at z; unfold PMp; omega))).si (by unfold PMp; omega)
          have t4 : rtM M4 T n (tkB T n (tkE T n q)) := by
            rw [e4]
            unfold rtM tkM at q4 ⊢
            simp only [mi_si, ml_i]
            exact q4
          have lo : ∀ j, j < top' → mi M4 135 j = mi M1 135 j := fun j hj => by rw [i4 _ _ (by omega), i3 _ _ (by unfold PEy; omega), F2.1 _ _ (by unfold PJ; omega)]
          have ot : ∀ k, k ≠ 3 + s.2.1.length → mi M4 130 (275 + k) = mi M1 130 (275 + k) ∧ mi M4 131 (275 + k) = mi M1 131 (275 + k) := fun k hk => ⟨by rw [i4 _ _ (by omega), i3 _ _ (by unfold PEy; omega), F2.1 _ _ (by unfold PJ; omega)], by rw [i4 _ _ (by omega), i3 _ _ (by unfold PEy; omega), F2.1 _ _ (by unfold PJ; omega)]⟩
          have len : (s.2.1 ++ [y]).length = s.2.1.length + 1 := by rw [List.length_append]; rfl
          refine hQ 1 M4 ⟨G4, Or.inr ⟨_, _, hR.symm, rfl, by omega, nq.2.1, rdM_cg r2 (by rw [i4 _ _ (by omega), i3 _ _ (by unfold PEy; omega)]) (fun i => by rw [i4 _ _ (by omega), i3 _ _ (by unfold PEy; omega)]), t4, ?_⟩⟩
          refine ⟨top' + m, by rw [i4 _ _ (by omega)]; exact q5, by omega, by omega, fun k hk => lnM_to (by omega) (ot k (by omega)).1 (ot k (by omega)).2 lo (a4 k hk), ?_, ?_, ⟨fun k => if k = s.2.1.length then y else xs' k, ?_, fun k hk => ?_⟩, ?_, ?_, ab⟩
          · show mi M4 132 25 = nI (s.2.1 ++ [y]).length
            rw [len]; exact k4
          · show (s.2.1 ++ [y]).length ≤ 8
            rw [len]; omega
          · show s.2.1 ++ [y] = (List.range (s.2.1 ++ [y]).length).map _
            rw [len, List.range_succ, List.map_append]
            have e1 : (List.range s.2.1.length).map (fun k => if k = s.2.1.length then y else xs' k) = s.2.1 := by
              refine Eq.trans ?_ a7.symm
              refine List.map_congr_left (fun j hj => ?_)
              have := List.mem_range.mp hj
              rw [if_neg (by omega)]
            rw [e1]
            show s.2.1 ++ [y] = s.2.1 ++ [if s.2.1.length = s.2.1.length then y else xs' s.2.1.length]
            rw [if_pos rfl]
          · have hk : k < (s.2.1 ++ [y]).length := hk
            rw [len] at hk
            show lnM M4 (top' + m) (3 + k) (some (if k = s.2.1.length then y else xs' k))
            by_cases w : k = s.2.1.length
            · rw [if_pos w, w]
              refine Or.inr ⟨top', m, y, by rw [i4 _ _ (by omega)]; exact q7, by rw [i4 _ _ (by omega)]; exact q8, a2, Nat.le_refl _, rfl, ?_⟩
              rw [cdM_cg (M := M3) (a := top') (fun j _ => i4 _ _ (by omega))]; exact q9
            · rw [if_neg w]
              exact lnM_to (by omega) (ot _ (by omega)).1 (ot _ (by omega)).2 lo (a8 k (by omega))
          · rw [i4 _ _ (by omega), i3 _ _ (by unfold PEy; omega), F2.1 _ _ (by unfold PJ; omega)]; exact a9
          · rw [i4 _ _ (by omega), i3 _ _ (by unfold PEy; omega), F2.1 _ _ (by unfold PJ; omega)]; exact aa
    · -- the rests
      rw [if_neg c3, if_pos c4] at hR
      have set : ∀ (M2 : Mem) (y : Int32) (c : Nat), (tkC T n p = 13 ∨ tkC T n p = 14 ∨ tkC T n p = 12) → rsM y (nI (tkC T n p)) → M2 = si M1 133 25 y → w_X12_readsLine_354 L M2 Q := fun M2 y _ h hy e2 => by
        rw [if_pos h] at hR
        have i2 : ∀ a k, ¬ (a = 133 ∧ k = 25) → mi M2 a k = mi M1 a k := fun a k z => by rw [e2, mi_si, if_neg z]
        refine en M2 _ (fun a k z => i2 a k (by omega)) (by rw [e2]; exact G1.si (by unfold PMp; omega)) ?_ hR.symm
        refine ⟨top', by rw [i2 _ _ (by omega)]; exact k57, a2, a3, fun k hk => lnM_to (Nat.le_refl _) (i2 _ _ (by omega)) (i2 _ _ (by omega)) (fun j _ => i2 _ _ (by omega)) (a4 k hk), (i2 _ _ (by omega)).trans a5, a6, ⟨xs', a7, fun k hk => lnM_to (Nat.le_refl _) (i2 _ _ (by omega)) (i2 _ _ (by omega)) (fun j _ => i2 _ _ (by omega)) (a8 k hk)⟩, ?_, (i2 _ _ (by omega)).trans aa, ab⟩
        rw [e2, mi_si, if_pos ⟨rfl, rfl⟩]; exact hy
      refine m_iw (k := 13) t1 (by decide) (by rw [u13]; rfl) (fun z1 => m_iw (k := 14) t1 (by decide) (by rw [u14]; rfl) (fun z2 => m_iwV (k := 12) t1 (by decide) (by rw [u12]; rfl) (fun x61 e61 => ?_)) (fun z2 => ?_)) (fun z1 => ?_)
      · by_cases w : tkC T n p = 12
        · rw [if_pos w, if_neg (by decide)] at e61
          subst e61
          exact ⟨fun q => absurd q (by decide), fun _ M2 e2 => set M2 2 0 (Or.inr (Or.inr w)) (by rw [w]; exact Or.inr (Or.inr (Or.inl ⟨rfl, rfl⟩))) e2⟩
        · rw [if_neg w, if_pos rfl] at e61
          subst e61
          rw [if_neg (by omega)] at hR
          exact ⟨fun _ => flt M1 1 p G1 t1.1 hR.symm, fun q => absurd (by decide) q⟩
      · unfold w_X12_readsLine_292
        exact ⟨fun q => absurd q (by decide), fun _ M2 e2 => set M2 1 0 (Or.inr (Or.inl z2)) (by rw [z2]; exact Or.inr (Or.inl ⟨rfl, rfl⟩)) e2⟩
      · unfold w_X12_readsLine_292
        exact ⟨fun q => absurd q (by decide), fun _ M2 e2 => set M2 0 0 (Or.inl z1) (by rw [z1]; exact Or.inl ⟨rfl, rfl⟩) e2⟩
    · -- the bar
      rw [if_neg c3, if_neg c4, if_pos (by omega)] at hR
      have f2 := tm_2 t1.2.2
      refine ⟨fun z => ?_, fun z => ?_⟩
      · have c30 := f2.mp z
        have tv := tkV_lt hT c30
        rw [if_pos c30] at hR
        rw [tm_v t1.2.2 c30, show (50 : Int32) = nI 50 from rfl, nI_lt' (by omega) (by omega)]
        refine ⟨fun w => ?_, fun w M2 e2 => ?_⟩
        · rw [if_neg (by omega)] at hR
          exact flt M1 4 p G1 t1.1 hR.symm
        · rw [if_pos (by omega)] at hR
          have i2 : ∀ a k, ¬ (a = 134 ∧ k = 25) → mi M2 a k = mi M1 a k := fun a k z => by rw [e2, mi_si, if_neg z]
          refine en M2 _ (fun a k z => i2 a k (by omega)) (by rw [e2]; exact G1.si (by unfold PMp; omega)) ?_ hR.symm
          refine ⟨top', by rw [i2 _ _ (by omega)]; exact k57, a2, a3, fun k hk => lnM_to (Nat.le_refl _) (i2 _ _ (by omega)) (i2 _ _ (by omega)) (fun j _ => i2 _ _ (by omega)) (a4 k hk), (i2 _ _ (by omega)).trans a5, a6, ⟨xs', a7, fun k hk => lnM_to (Nat.le_refl _) (i2 _ _ (by omega)) (i2 _ _ (by omega)) (fun j _ => i2 _ _ (by omega)) (a8 k hk)⟩, ?_, by rw [e2, mi_si, if_pos ⟨rfl, rfl⟩], Or.inr (nI_pos (by omega))⟩
          rw [i2 _ _ (by omega)]; exact a9
      · rw [if_neg (fun w => z (f2.mpr w))] at hR
        exact flt M1 1 p G1 t1.1 hR.symm
  have r173 : ¬ 5 < cc → ¬ tdB s cc = true → w_X12_readsLine_150 L (nI cc) M Q := fun z5 td => by
    unfold w_X12_readsLine_150
    rw [show (3 : Int32) = nI 3 from rfl, show (8 : Int32) = nI 8 from rfl, p5, nI_eq' (by omega) (by omega), nI_eq' (by omega) (by omega)]
    refine ⟨fun c3 => ⟨fun c8 => flt M 5 b FLg.rf ht.1 ?_, fun c8 => go z5 td (by omega)⟩, fun c3 => go z5 td (by omega)⟩
    rw [if_neg z5, if_neg td, if_pos ⟨c3, c8⟩] at hR
    exact hR.symm
  have r144 : ¬ 5 < cc → tdB s cc = true → w_X12_readsLine_144 L M Q := fun z5 td => by
    rw [if_neg z5, if_pos td] at hR
    unfold w_X12_readsLine_144
    exact flt M 3 b FLg.rf ht.1 hR.symm
  have r114 : ¬ 5 < cc → ¬ cc < 3 → w_X12_readsLine_114 L (nI cc) M Q := fun z5 z3 => by
    have t5 : cc = 5 → (tdB s cc = true ↔ ¬ mi M 134 25 < 0) := fun h => by
      rw [td_iff, pa]
      constructor
      · rintro (⟨q, -⟩ | ⟨q, -⟩ | ⟨-, q⟩)
        · omega
        · omega
        · rcases pb with w | w
          · exact absurd w q
          · exact w
      · intro q
        exact Or.inr (Or.inr ⟨h, fun w => q (by rw [w]; decide)⟩)
    have t4 : cc = 4 → (tdB s cc = true ↔ ¬ mi M 133 25 < 0) := fun h => by
      rw [td_iff]
      constructor
      · rintro (⟨q, -⟩ | ⟨-, q⟩ | ⟨q, -⟩)
        · omega
        · rcases p9 with ⟨w, v⟩ | ⟨w, v⟩ | ⟨w, v⟩ | ⟨w, v⟩
          · rw [w]; decide
          · rw [w]; decide
          · rw [w]; decide
          · exact absurd v q
        · omega
      · intro q
        refine Or.inr (Or.inl ⟨h, fun w => ?_⟩)
        rcases p9 with ⟨_, v⟩ | ⟨_, v⟩ | ⟨_, v⟩ | ⟨v, _⟩
        · rw [v] at w; exact absurd w (by decide)
        · rw [v] at w; exact absurd w (by decide)
        · rw [v] at w; exact absurd w (by decide)
        · rw [v] at q; exact absurd (by decide) q
    have r129 : ¬ cc = 4 → w_X12_readsLine_129 L (nI cc) M Q := fun c4 => by
      unfold w_X12_readsLine_129
      rw [show (5 : Int32) = nI 5 from rfl, nI_eq' (by omega) (by omega)]
      refine ⟨fun c5 => ⟨fun z => r173 z5 (fun w => (t5 c5).mp w z), fun z => r144 z5 ((t5 c5).mpr z)⟩, fun c5 => r173 z5 (fun w => ?_)⟩
      rcases td_iff.mp w with ⟨q, -⟩ | ⟨q, -⟩ | ⟨q, -⟩ <;> omega
    unfold w_X12_readsLine_114
    rw [show (4 : Int32) = nI 4 from rfl, nI_eq' (by omega) (by omega)]
    refine ⟨fun c4 => ⟨fun z => ?_, fun z => r144 z5 ((t4 c4).mpr z)⟩, fun c4 => r129 c4⟩
    unfold w_X12_readsLine_129
    rw [show (5 : Int32) = nI 5 from rfl, nI_eq' (by omega) (by omega)]
    exact ⟨fun c5 => absurd c5 (by omega), fun _ => r173 z5 (fun w => (t4 c4).mp w z)⟩
  have r85 : ¬ 5 < cc → w_X12_readsLine_85 L (nI cc) M Q := fun z5 => by
    unfold w_X12_readsLine_85
    refine ⟨fun z => absurd z (nI_pos (by omega)), fun _ => ?_⟩
    rw [show (3 : Int32) = nI 3 from rfl, show (275 : Int32) = nI 275 from rfl, nI_lt' (by omega) (by omega), nI_add, tn_nI (n := 275 + cc) (by omega)]
    refine ⟨fun c3 => ⟨vp_in_nI (by omega) (by decide), fun z => ?_, fun z => r144 z5 ?_⟩, fun c3 => r114 z5 c3⟩
    · have ntd : ¬ tdB s cc = true := fun w => by
        rcases td_iff.mp w with ⟨-, q⟩ | ⟨q, -⟩ | ⟨q, -⟩
        · rcases p4 cc c3 with ⟨-, v⟩ | ⟨a, m, x, v, -, -, v4, -⟩
          · rw [v] at q; cases q
          · rw [v] at z; exact absurd z (nI_pos (by omega))
        · omega
        · omega
      unfold w_X12_readsLine_114 w_X12_readsLine_129
      rw [show (4 : Int32) = nI 4 from rfl, show (5 : Int32) = nI 5 from rfl, nI_eq' (by omega) (by omega), nI_eq' (by omega) (by omega)]
      exact ⟨fun q => absurd q (by omega), fun _ => ⟨fun q => absurd q (by omega), fun _ => r173 z5 ntd⟩⟩
    · refine td_iff.mpr (Or.inl ⟨c3, ?_⟩)
      rcases p4 cc c3 with ⟨v, -⟩ | ⟨a, m, x, -, -, -, -, v, -⟩
      · exact absurd v z
      · rw [v]; rfl
  have rk : ∀ k, cc = k → k ≤ 5 → w_X12_readsLine_85 L (nI k) M Q := fun k h hk => by rw [← h]; exact r85 (by omega)
  unfold w_X12_readsLine
  refine m_iw (k := 0) ht (by decide) (by rw [u0]; rfl) (fun z0 => m_iw (k := 1) ht (by decide) (by rw [u1]; rfl) (fun z1 => m_iw (k := 2) ht (by decide) (by rw [u2]; rfl) (fun z2 => m_iw (k := 3) ht (by decide) (by rw [u3]; rfl) (fun z3 => m_iw (k := 4) ht (by decide) (by rw [u4]; rfl) (fun z4 => m_iwV (k := 5) ht (by decide) (by rw [u5]; rfl) (fun x18 e18 => ?_)) (fun z => rk 4 (by omega) (by omega))) (fun z => rk 3 (by omega) (by omega))) (fun z => rk 2 (by omega) (by omega))) (fun z => rk 1 (by omega) (by omega))) (fun z => rk 0 (by omega) (by omega))
  show w_X12_readsLine_85 L x18 M Q
  rw [hc] at e18 z0 z1 z2 z3 z4
  by_cases w : cc = 5
  · rw [if_pos w, if_neg (by decide)] at e18
    rw [e18]; exact rk 5 w (by omega)
  · rw [if_neg w, if_pos rfl] at e18
    rw [e18]
    unfold w_X12_readsLine_85
    rw [if_pos (by omega)] at hR
    exact ⟨fun _ => flt M 1 b FLg.rf ht.1 hR.symm, fun q => absurd (by decide) q⟩
end LNM
