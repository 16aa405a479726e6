-- LEVEL 3, part 54: the class reads a line of a pact, and a pact
def liC (L : Lay) (M : Mem) (T : Nat → Nat) (n b pa : Nat) (R : (Nat × Nat) ⊕ (Nat × pS)) (L' : Lay) (M' : Mem) : Prop :=
  LE L L' ∧ FrC L pa M M' ∧ (∀ a k, ¬ PEx a k → a < 159 → mi M' a k = mi M a k) ∧ rdC M' T n ∧ ((∃ k p, R = .inl (k, p) ∧ 1 ≤ k ∧ k < 16 ∧ p ≤ n ∧ mi M' 71 2 = nI (k + 16 * p)) ∨ ∃ b' s', R = .inr (b', s') ∧ b < b' ∧ b' ≤ n ∧ mi M' 71 2 = 0 ∧ rtC M' T n b' ∧ pcS L' M' pa b' s')
section LNE
variable {L : Lay} {M : Mem}
theorem c_pline {T : Nat → Nat} {n b pa rc rs : Nat} {s : pS} {Q : Lay → Mem → Prop} (hT : okT T n) (hL : 159 ≤ L.1) (hb : b < n) (hr : rdC M T n) (ht : rtC M T n b) (h2 : mi M 71 2 = 0) (hp : pcS L M pa b s)
    (hrc : tkC T n b = 3 → s.2.1.length < 8 → 2 ≤ rc) (hrc1 : tkC T n b < 3 → s.1 (tkC T n b) = none → 1 ≤ rc) (hrs : liE (liR T n b s) - b + (if tkC T n b = 3 ∧ s.2.1.length < 8 then 1010 else 0) ≤ rs) (hQ : ∀ L' M', liC L M T n b pa (liR T n b s) L' M' → Q L' M') : w_X5_readPactLine pa L rc rs M Q := by
  have hn := hT.1
  have pk : ∀ a k, PK a k → PEx a k := fun a k z => by unfold PK at z; unfold PEx; omega
  have tc := (tk_code (b := b) hT).1
  have nb := nx_rng (T := T) (n := n) (b := b) (by omega)
  obtain ⟨R, hR⟩ : ∃ R, liR T n b s = R := ⟨_, rfl⟩
  rw [hR] at hQ hrs
  have pa159 := hp.2.1
  have len8 := hp.2.2.2.2.2.2.2.1
  have npa : ∀ a k, PEx a k → a ≠ pa := fun a k z => by have := PEx_lt z; omega
  have teE : ∀ e, e ≤ n → tkE T n e ≤ n := fun e he => (tkE_rng (T := T) he).2.2
  -- the end of a line
  have finF : ∀ (L1 : Lay) (M1 : Mem) (r1 r2 k p e : Nat), LE L L1 → FrC L pa M M1 → (∀ a k, ¬ PEx a k → a < 159 → mi M1 a k = mi M a k) → rdC M1 T n → mi M1 71 6 = nI e → e ≤ n → mi M1 71 2 = nI (k + 16 * p) → 1 ≤ k → k < 16 → p ≤ n → R = .inl (k, p) → w_X5_readPactLine_178 pa L1 r1 r2 M1 Q := fun L1 M1 r1 r2 k p e a1 a2 a3 a4 a5 a6 a7 a8 a9 a10 a11 => by
    unfold w_X5_readPactLine_178
    have nz : ¬ mi M1 71 2 = 0 := by
      rw [a7, show (0 : Int32) = nI 0 from rfl, nI_eq' (by omega) (by omega)]; omega
    exact c_expF hT a4 a5 a6 nz (fun M2 g1 g2 F => hQ L1 M2 ⟨a1, FrC.tr a1.1 a2 F.frc, fun a k z1 z2 => by rw [F.1 a k z1]; exact a3 a k z1 z2, g2, Or.inl ⟨k, p, a11, a8, a9, a10, g1.trans a7⟩⟩)
  have fin0 : ∀ (L1 : Lay) (M1 : Mem) (r1 r2 b3 : Nat), LE L L1 → FrC L pa M M1 → (∀ a k, ¬ PEx a k → a < 159 → mi M1 a k = mi M a k) → rdC M1 T n → rtC M1 T n b3 → b < b3 → b3 ≤ n → mi M1 71 2 = 0 → (tkC T n b3 = 59 → ∃ s', R = .inr (nxT T n b3, s') ∧ pcS L1 M1 pa b3 s') → (¬ tkC T n b3 = 59 → R = .inl (1, b3)) → w_X5_readPactLine_178 pa L1 r1 r2 M1 Q := fun L1 M1 r1 r2 b3 a1 a2 a3 a4 a5 a6 a7 a8 a9 a10 => by
    unfold w_X5_readPactLine_178
    have n3 := nx_rng (T := T) a7
    refine c_exp1 (c := 59) hT rfl (by decide) a7 a4 a5 a8 (fun z M2 g1 g2 g3 F => ?_) (fun z M2 g1 g2 g3 F => ?_)
    · obtain ⟨s', e1, e2⟩ := a9 z
      exact hQ L1 M2 ⟨a1, FrC.tr a1.1 a2 F.frc, fun a k z1 z2 => by rw [F.1 a k z1]; exact a3 a k z1 z2, g2, Or.inr ⟨_, s', e1, by omega, n3.2.1, g1, g3, pcS_fj F n3.1 e2⟩⟩
    · exact hQ L1 M2 ⟨a1, FrC.tr a1.1 a2 F.frc, fun a k z1 z2 => by rw [F.1 a k z1]; exact a3 a k z1 z2, g2, Or.inl ⟨1, b3, a10 z, by omega, by omega, a7, g1⟩⟩
  obtain ⟨cc, hc⟩ : ∃ cc, tkC T n b = cc := ⟨_, rfl⟩
  unfold w_X5_readPactLine
  intro x1 e1
  rw [ht.2.2.1, hc] at e1
  subst e1
  rw [hc] at tc hrc hrc1 hrs
  unfold liR at hR
  rw [hc] at hR
  -- a fault at the line's head
  have flt : ∀ k, 1 ≤ k → k < 16 → R = .inl (k, b) → w_X5_refuse L (nI k) M (fun M10 => w_X5_readPactLine_53 pa (nI cc) L rc rs M10 Q) := fun k k1 k2 hk => by
    refine c_refuse h2 ht.1 (fun M1 e1 => ?_)
    have F1 : FJ PEx M M1 := by rw [e1]; exact FJ.rf.si (by unfold PEx; omega)
    have v : mi M1 71 2 = nI (k + 16 * b) := by rw [e1, mi_si, if_pos ⟨rfl, rfl⟩]
    unfold w_X5_readPactLine_53
    rw [v, show (0 : Int32) = nI 0 from rfl, nI_eq' (by omega) (by omega)]
    exact ⟨fun z => absurd z (by omega), fun _ => hQ L M1 ⟨LE.rf L, F1.frc, fun a k z _ => F1.1 a k z, rd_cg hr F1, Or.inl ⟨k, b, hk, k1, k2, by omega, v⟩⟩⟩
  rw [show (5 : Int32) = nI 5 from rfl, nI_lt' (by omega) (by omega)]
  refine ⟨fun z => flt 1 (by omega) (by omega) (by rw [← hR, if_pos z]), fun z5 => c_told (by omega) hp ?_⟩
  rw [if_neg z5] at hR
  by_cases td : tdB s cc = true
  · rw [if_pos td] at hR ⊢
    exact ⟨fun z => absurd z (by decide), fun _ => flt 3 (by omega) (by omega) hR.symm⟩
  rw [if_neg td] at hR ⊢
  refine ⟨fun _ => ?_, fun z => absurd rfl z⟩
  -- the line's head is right
  have b1 := nb.2.1
  have n1 := nx_rng (T := T) b1
  obtain ⟨p, hpe⟩ : ∃ p, nxT T n b = p := ⟨_, rfl⟩
  rw [hpe] at hR nb b1 n1
  have go : ¬ (cc = 3 ∧ s.2.1.length = 8) → w_X5_readPactLine_53 pa (nI cc) L rc rs M Q := fun n38 => by
    rw [if_neg n38] at hR
    unfold w_X5_readPactLine_53
    refine ⟨fun _ => c_next5 hT hr ht.2.1 (teE b (by omega)) (fun M1 t1 F1 => ?_), fun z => absurd h2 z⟩
    have F1 : FJ PEx M M1 := F1.mono pk
    have r1 := rd_cg hr F1
    have v1 : mi M1 71 2 = 0 := by
      rename_i F0
      rw [F0.1 _ _ (by unfold PK; omega)]; exact h2
    have t1 : rtC M1 T n p := by rw [← hpe]; exact t1
    rw [show (3 : Int32) = nI 3 from rfl, show (4 : Int32) = nI 4 from rfl, show (5 : Int32) = nI 5 from rfl, nI_eq' (by omega) (by omega), nI_eq' (by omega) (by omega), nI_eq' (by omega) (by omega)]
    refine ⟨fun c3 => ?_, fun c3 => ⟨fun c4 M2 e2 => ?_, fun c4 => ⟨fun c5 => ?_, fun c5 => ?_⟩⟩⟩
    · -- a fall
      have l8 : s.2.1.length < 8 := by omega
      rw [if_pos c3] at hR
      rw [if_pos ⟨c3, l8⟩] at hrs
      have r2 := hrc c3 l8
      have n2 := nx_rng (T := T) n1.2.1
      refine c_exp1 (c := 6) hT rfl (by decide) b1 r1 t1 v1 (fun z M2 g1 g2 g3 F2 => ?_) (fun z M2 g1 g2 g3 F2 => ?_)
      · rw [if_pos z] at hR
        have F12 := F1.tr F2
        have ep := ex_pos hT (n + 1) (nxT T n p) (true, (fun _ => 0), noD, []) n1.2.1
        generalize hq : nxT T n p = p2 at *
        have hX : exR T n (n + 1) p2 (true, (fun _ => 0), noD, []) = exI T n p2 := rfl
        rw [hX] at ep
        have pos : exE (exI T n p2) ≤ liE R := by
          rw [← hR]
          cases h : exI T n p2 with
          | inl q => exact Nat.le_refl _
          | inr q =>
            rw [h] at ep
            exact (nx_rng (T := T) ep.2).1
        refine ⟨1, exE (exI T n p2) - p2, by omega, by omega, c_expr (v0 := fun _ => 0) hT hL (by omega) n1.2.1 g2 g3 g1 (Nat.le_refl _) (by rw [hX]; exact Nat.le_refl _) (fun o L3 M3 xr => ?_)⟩
        rw [hX] at xr
        refine ⟨rc - 1, rs - (exE (exI T n p2) - p2), Nat.le_refl _, Nat.le_refl _, ?_⟩
        rcases xr with ⟨k, q, q1, q2, q3, q4, q5, q6, q7, q8, q9, F3⟩ | ⟨c, q, q1, q2, q3, q4, q5, q6, q7⟩
        · subst q5 q6
          rw [q1] at hR
          have F := F12.tr F3
          refine c_fallN (fun M4 i4 p4 => ?_)
          refine finF L3 M4 _ _ k q (tkE T n q) (LE.rf L3) ⟨fun a k z1 z2 z3 => by rw [i4 a k z3]; exact F.1 a k z1, fun a k z2 z3 => by rw [p4 a k z3]; exact F.mp⟩ (fun a k z1 z2 => by rw [i4 a k (by omega)]; exact F.1 a k z1) ?_ ?_ (teE q q4) ?_ q2 q3 q4 hR.symm
          · exact rdC_cg (rd_cg g2 F3) (i4 _ _ (by omega)) (fun i => i4 _ _ (by omega))
          · rw [i4 _ _ (by omega)]; exact q8
          · rw [i4 _ _ (by omega)]; exact q7
        · obtain ⟨x1, x2, x3, x4, x5, x6⟩ := q3
          subst q1
          have fr3 : FrC L pa M M3 := ⟨fun a k z1 z2 z3 => by rw [x5 a k z1 (by omega)]; exact F12.1 a k z1, fun a k z2 z3 => by rw [x6 a k (by omega)]; exact F12.mp⟩
          have lo3 : ∀ a k, ¬ PEx a k → a < 159 → mi M3 a k = mi M a k := fun a k z1 z2 => by rw [x5 a k z1 (by omega)]; exact F12.1 a k z1
          have rd3 : rdC M3 T n := rdC_cg g2 (x5 _ _ (by unfold PEx; omega) (by omega)) (fun i => x5 _ _ (by unfold PEx; omega) (by omega))
          have hp3 : pcS L3 M3 pa p2 s := by
            have h12 : pcS L M2 pa p2 s := pcS_fj F12 (by omega) hp
            obtain ⟨y1, y2, y3, y4, y5, y6, y7, y8, y9, y10⟩ := h12
            have row : ∀ e k, 159 ≤ e → AR L e 0 k → M3.1 e = M2.1 e := fun e k he hk => funext fun j => x5 e j (fun z => by have := PEx_lt z; omega) (by have := hk.1; omega)
            have pl := y1.1
            have ei : ∀ k, mi M3 pa k = mi M2 pa k := fun k => x5 _ _ (fun z => npa _ _ z rfl) (by omega)
            have eq : ∀ k, mp M3 pa k = mp M2 pa k := fun k => x6 _ _ (by omega)
            unfold pcS
            rw [eq, eq, eq, eq, ei, ei, ei]
            exact ⟨x1.ob y1, y2, lnC_to x1 row y3, lnC_to x1 row y4, lnC_to x1 row y5, faC_to x1 (Nat.le_refl _) row y6, y7, y8, y9, y10⟩
          have pq : p2 ≤ q ∧ exE (exI T n p2) = q := by
            rcases q7 with ⟨q8, -⟩ | ⟨x, q8, -⟩
            · rw [q8] at ep ⊢; exact ⟨ep.1, rfl⟩
            · rw [q8] at ep ⊢; exact ⟨ep.1, rfl⟩
          have fin : ∀ x : Ex, (tkC T n q = 59 → R = .inr (nxT T n q, (s.1, s.2.1 ++ [x], s.2.2)) ∧ ∀ (r : Fx) (V0 : List Int32), V0.length ≤ 1 → rkL r c V0 = [x r] ++ V0) → (¬ tkC T n q = 59 → R = .inl (1, q)) → w_X4_addFall pa (some L.1) L3 (rc - 1) (rs - (exE (exI T n p2) - p2)) M3 (fun L22 M23 => w_X5_readPactLine_178 pa L22 (rc - 1 - (rc - 1)) (rs - (exE (exI T n p2) - p2) - (rs - (exE (exI T n p2) - p2))) M23 Q) := fun x w1 w2 => by
            refine c_fall (x := x) (by omega) hp3 l8 (by omega) x3 (by omega) (by omega) (by omega) (fun L4 M4 g1 g2 g3 g4 => ?_)
            refine fin0 L4 M4 _ _ q (x1.tr g1) (FrC.tr x1.1 fr3 g2) (fun a k z1 z2 => by rw [g3 a k z2]; exact lo3 a k z1 z2) (rdC_cg rd3 (g3 _ _ (by omega)) (fun i => g3 _ _ (by omega))) (rt_cg q5 (fun k _ _ => g3 _ _ (by omega))) (by omega) q6 (by rw [g3 _ _ (by omega)]; exact q4) (fun z => ?_) w2
            obtain ⟨w3, w4⟩ := w1 z
            exact ⟨_, w3, pcS_fj FJ.rf (by omega) (g4 (fun r V0 hV => by rw [x4]; exact w4 r V0 hV))⟩
          rcases q7 with ⟨q8, q9⟩ | ⟨x, q8, q9, q10⟩
          · rw [q8] at hR
            exact fin (fun _ => 0) (fun z => absurd z q9) (fun _ => hR.symm)
          · rw [q8] at hR
            exact fin x (fun _ => ⟨hR.symm, q10⟩) (fun z => absurd q9 z)
      · rw [if_neg z] at hR
        have nz : ¬ mi M2 71 2 = 0 := by
          rw [g1, show (0 : Int32) = nI 0 from rfl, nI_eq' (by omega) (by omega)]; omega
        have F12 := F1.tr F2
        refine ⟨0, 0, Nat.zero_le _, Nat.zero_le _, c_exprF nz (fun M3 F3 => ⟨0, 0, Nat.zero_le _, Nat.zero_le _, c_fallN (fun M4 i4 p4 => ?_)⟩)⟩
        have F3' : FJ PEx M2 M3 := F3.mono (fun a k z => by unfold PEx; omega)
        have F := F12.tr F3'
        refine finF L M4 _ _ 1 p (tkE T n (nxT T n p)) (LE.rf L) ⟨fun a k z1 z2 z3 => by rw [i4 a k z3]; exact F.1 a k z1, fun a k z2 z3 => by rw [p4 a k z3]; exact F.mp⟩ (fun a k z1 z2 => by rw [i4 a k (by omega)]; exact F.1 a k z1) ?_ ?_ (teE _ n1.2.1) ?_ (by omega) (by omega) b1 hR.symm
        · exact rdC_cg (rd_cg g2 F3') (i4 _ _ (by omega)) (fun i => i4 _ _ (by omega))
        · rw [i4 _ _ (by omega), F3.1 _ _ (by omega)]; exact g3.2.1
        · rw [i4 _ _ (by omega), F3.1 _ _ (by omega)]; exact g1
    · -- the rests
      rw [if_neg c3, if_pos c4] at hR
      have t3 : mi M2 71 3 = nI (tkC T n p) := by rw [e2, mi_si, if_neg (by omega)]; exact t1.2.2.1
      rw [t1.2.2.1] at e2
      have tcp := (tk_code (b := p) hT).1
      have i2 : ∀ a k, a ≠ pa → mi M2 a k = mi M1 a k := fun a k z => by rw [e2, mi_si, if_neg (by omega)]
      have r2 : rdC M2 T n := rdC_cg r1 (i2 _ _ (by omega)) (fun i => i2 _ _ (by omega))
      have fr2 : FrC L pa M M2 := ⟨fun a k z1 z2 z3 => by rw [i2 a k z3]; exact F1.1 a k z1, fun a k z2 z3 => by rw [e2, mp_si]; exact F1.mp⟩
      have lo2 : ∀ a k, ¬ PEx a k → a < 159 → mi M2 a k = mi M a k := fun a k z1 z2 => by rw [i2 a k (by omega)]; exact F1.1 a k z1
      rw [t3, show (13 : Int32) = nI 13 from rfl, show (14 : Int32) = nI 14 from rfl, show (12 : Int32) = nI 12 from rfl, nI_eq' (by omega) (by omega), nI_eq' (by omega) (by omega), nI_eq' (by omega) (by omega)]
      have ok : (tkC T n p = 13 ∨ tkC T n p = 14 ∨ tkC T n p = 12) → w_X5_readPactLine_149 pa L rc rs M2 Q := fun h => by
        rw [if_pos h] at hR
        unfold w_X5_readPactLine_149
        refine c_next5 hT r2 (by rw [i2 _ _ (by omega)]; exact t1.2.1) (teE p b1) (fun M3 t3 F3 => ?_)
        have F3 : FJ PEx M2 M3 := F3.mono pk
        refine fin0 L M3 _ _ (nxT T n p) (LE.rf L) (FrC.tr (Nat.le_refl _) fr2 F3.frc) (fun a k z1 z2 => by rw [F3.1 a k z1]; exact lo2 a k z1 z2) (rd_cg r2 F3) t3 (by omega) n1.2.1 ?_ (fun z => ?_) (fun z => ?_)
        · rename_i F0
          rw [F0.1 _ _ (by unfold PK; omega), i2 _ _ (by omega)]; exact v1
        · unfold enT at hR
          rw [if_pos z] at hR
          refine ⟨_, hR.symm, pcS_fj F3 (Nat.le_refl _) ?_⟩
          obtain ⟨y1, y2, y3, y4, y5, y6, y7, y8, y9, y10⟩ := pcS_fj F1 (show b ≤ nxT T n p by omega) hp
          have row : ∀ e k, 159 ≤ e → AR L e 0 k → M2.1 e = M1.1 e := fun e k he hk => funext fun j => i2 e j (fun w => ob_ar y1 (by rw [w] at hk; exact hk))
          have eq : ∀ k, mp M2 pa k = mp M1 pa k := fun k => by rw [e2, mp_si]
          unfold pcS
          rw [eq, eq, eq, eq]
          exact ⟨y1, y2, lnC_to (LE.rf L) row y3, lnC_to (LE.rf L) row y4, lnC_to (LE.rf L) row y5, faC_to (LE.rf L) (Nat.le_refl _) row y6, by rw [e2, mi_si, if_neg (by omega)]; exact y7, y8, by rw [e2, mi_si, if_pos ⟨rfl, rfl⟩], by rw [e2, mi_si, if_neg (by omega)]; exact y10⟩
        · unfold enT at hR
          rw [if_neg z] at hR; exact hR.symm
      refine ⟨fun z => ok (Or.inl z), fun z1 => ⟨fun z => ok (Or.inr (Or.inl z)), fun z2 => ⟨fun z => ok (Or.inr (Or.inr z)), fun z3 => ?_⟩⟩⟩
      rw [if_neg (by omega)] at hR
      refine c_refuse (k := 1) (by rw [i2 _ _ (by omega)]; exact v1) (by rw [i2 _ _ (by omega)]; exact t1.1) (fun M3 e3 => ?_)
      unfold w_X5_readPactLine_149
      have F3 : FJ PEx M2 M3 := by rw [e3]; exact FJ.rf.si (by unfold PEx; omega)
      have r3 := rd_cg r2 F3
      refine c_next5 hT r3 (by rw [e3, mi_si, if_neg (by omega), i2 _ _ (by omega)]; exact t1.2.1) (teE p b1) (fun M4 t4 F4 => ?_)
      have v4 : mi M4 71 2 = nI (1 + 16 * p) := by rw [F4.1 _ _ (by unfold PK; omega), e3, mi_si, if_pos ⟨rfl, rfl⟩]
      have F4 : FJ PEx M3 M4 := F4.mono pk
      have F34 := F3.tr F4
      exact finF L M4 _ _ 1 p (tkE T n (nxT T n p)) (LE.rf L) (FrC.tr (Nat.le_refl _) fr2 F34.frc) (fun a k z1 z2 => by rw [F34.1 a k z1]; exact lo2 a k z1 z2) (rd_cg r3 F4) t4.2.1 (teE _ n1.2.1) v4 (by omega) (by omega) b1 hR.symm
    · -- the bar
      rw [if_neg c3, if_neg c4, if_pos c5] at hR
      refine c_num (m := 50) hT (by decide) b1 r1 t1 v1 (fun q1 q2 M2 g1 g2 g3 F2 M3 e3 => ?_) (fun k x M2 hk g1 g2 g3 F2 M3 e3 => ?_)
      · rw [if_pos q1, if_pos q2] at hR
        have F := F1.tr F2
        have i3 : ∀ a k, a ≠ pa → mi M3 a k = mi M2 a k := fun a k z => by rw [e3, mi_si, if_neg (by omega)]
        have fr3 : FrC L pa M M3 := ⟨fun a k z1 z2 z3 => by rw [i3 a k z3]; exact F.1 a k z1, fun a k z2 z3 => by rw [e3, mp_si]; exact F.mp⟩
        refine fin0 L M3 _ _ (nxT T n p) (LE.rf L) fr3 (fun a k z1 z2 => by rw [i3 a k (by omega)]; exact F.1 a k z1) (rdC_cg g2 (i3 _ _ (by omega)) (fun i => i3 _ _ (by omega))) (rt_cg g3 (fun k _ _ => i3 _ _ (by omega))) (by omega) n1.2.1 (by rw [i3 _ _ (by omega)]; exact g1) (fun z => ?_) (fun z => ?_)
        · unfold enT at hR
          rw [if_pos z] at hR
          refine ⟨_, hR.symm, ?_⟩
          obtain ⟨y1, y2, y3, y4, y5, y6, y7, y8, y9, y10⟩ := pcS_fj F (show b ≤ nxT T n p by omega) hp
          have row : ∀ e k, 159 ≤ e → AR L e 0 k → M3.1 e = M2.1 e := fun e k he hk => funext fun j => i3 e j (fun w => ob_ar y1 (by rw [w] at hk; exact hk))
          have eq : ∀ k, mp M3 pa k = mp M2 pa k := fun k => by rw [e3, mp_si]
          unfold pcS
          rw [eq, eq, eq, eq]
          exact ⟨y1, y2, lnC_to (LE.rf L) row y3, lnC_to (LE.rf L) row y4, lnC_to (LE.rf L) row y5, faC_to (LE.rf L) (Nat.le_refl _) row y6, by rw [e3, mi_si, if_neg (by omega)]; exact y7, y8, by rw [e3, mi_si, if_neg (by omega)]; exact y9, by rw [e3, mi_si, if_pos ⟨rfl, rfl⟩]⟩
        · unfold enT at hR
          rw [if_neg z] at hR; exact hR.symm
      · have F := F1.tr F2
        have i3 : ∀ a k, a ≠ pa → mi M3 a k = mi M2 a k := fun a k z => by rw [e3, mi_si, if_neg (by omega)]
        have fr3 : FrC L pa M M3 := ⟨fun a k z1 z2 z3 => by rw [i3 a k z3]; exact F.1 a k z1, fun a k z2 z3 => by rw [e3, mp_si]; exact F.mp⟩
        refine finF L M3 _ _ k p (tkE T n (nxT T n p)) (LE.rf L) fr3 (fun a k z1 z2 => by rw [i3 a k (by omega)]; exact F.1 a k z1) (rdC_cg g2 (i3 _ _ (by omega)) (fun i => i3 _ _ (by omega))) (by rw [i3 _ _ (by omega)]; exact g3.2.1) (teE _ n1.2.1) (by rw [i3 _ _ (by omega)]; exact g1) (by omega) (by omega) b1 ?_
        rcases hk with ⟨rfl, h1, h2⟩ | ⟨rfl, h1⟩
        · rw [if_pos h1, if_neg (by omega)] at hR; exact hR.symm
        · rw [if_neg h1] at hR; exact hR.symm
    · -- an expression
      rw [if_neg c3, if_neg c4, if_neg c5] at hR
      have c2 : cc < 3 := by omega
      have sn : s.1 cc = none := by
        cases h : s.1 cc with
        | none => rfl
        | some q => exact absurd (td_iff.mpr (Or.inl ⟨c2, by rw [h]; rfl⟩)) td
      have rc1 := hrc1 c2 sn
      have ep := ex_pos hT (n + 1) p (true, (fun _ => 0), noD, []) b1
      have hX : exR T n (n + 1) p (true, (fun _ => 0), noD, []) = exI T n p := rfl
      rw [hX] at ep
      have pos : exE (exI T n p) ≤ liE R := by
        rw [← hR]
        cases h : exI T n p with
        | inl q => exact Nat.le_refl _
        | inr q =>
          rw [h] at ep
          exact (nx_rng (T := T) ep.2).1
      refine ⟨1, exE (exI T n p) - p, rc1, by omega, c_expr (v0 := fun _ => 0) hT hL (by omega) b1 r1 t1 v1 (Nat.le_refl _) (by rw [hX]; exact Nat.le_refl _) (fun o L3 M3 xr => c_setL c2 (fun M4 e4 => ?_))⟩
      rw [hX] at xr
      have i4 : ∀ a k, mi M4 a k = mi M3 a k := fun a k => by rw [e4, mi_sq]
      have p4 : ∀ a k, ¬ (a = pa ∧ k = cc) → mp M4 a k = mp M3 a k := fun a k z => by rw [e4, mp_sq, if_neg z]
      rcases xr with ⟨k, q, q1, q2, q3, q4, q5, q6, q7, q8, q9, F3⟩ | ⟨c, q, q1, q2, q3, q4, q5, q6, q7⟩
      · subst q5 q6
        rw [q1] at hR
        have F := F1.tr F3
        refine finF L3 M4 _ _ k q (tkE T n q) (LE.rf L3) ⟨fun a k z1 z2 z3 => by rw [i4]; exact F.1 a k z1, fun a k z2 z3 => by rw [p4 a k (fun w => z3 w.1)]; exact F.mp⟩ (fun a k z1 z2 => by rw [i4]; exact F.1 a k z1) ?_ ?_ (teE q q4) ?_ q2 q3 q4 hR.symm
        · exact rdC_cg (rd_cg r1 F3) (i4 _ _) (fun i => i4 _ _)
        · rw [i4]; exact q8
        · rw [i4]; exact q7
      · obtain ⟨x1, x2, x3, x4, x5, x6⟩ := q3
        subst q1
        have pq : p ≤ q ∧ exE (exI T n p) = q := by
          rcases q7 with ⟨q8, -⟩ | ⟨x, q8, -⟩
          · rw [q8] at ep ⊢; exact ⟨ep.1, rfl⟩
          · rw [q8] at ep ⊢; exact ⟨ep.1, rfl⟩
        have fr4 : FrC L pa M M4 := ⟨fun a k z1 z2 z3 => by rw [i4, x5 a k z1 (by omega)]; exact F1.1 a k z1, fun a k z2 z3 => by rw [p4 a k (fun w => z3 w.1), x6 a k (by omega)]; exact F1.mp⟩
        have lo4 : ∀ a k, ¬ PEx a k → a < 159 → mi M4 a k = mi M a k := fun a k z1 z2 => by rw [i4, x5 a k z1 (by omega)]; exact F1.1 a k z1
        have rd4 : rdC M4 T n := rdC_cg r1 (by rw [i4]; exact x5 _ _ (by unfold PEx; omega) (by omega)) (fun i => by rw [i4]; exact x5 _ _ (by unfold PEx; omega) (by omega))
        refine fin0 L3 M4 _ _ q x1 fr4 lo4 rd4 (rt_cg q5 (fun k _ _ => i4 _ _)) (by omega) q6 (by rw [i4]; exact q4) (fun z => ?_) (fun z => ?_)
        · rcases q7 with ⟨q8, q9⟩ | ⟨x, q8, q9, q10⟩
          · exact absurd z q9
          · rw [q8] at hR
            refine ⟨_, hR.symm, ?_⟩
            obtain ⟨y1, y2, y3, y4, y5, y6, y7, y8, y9, y10⟩ := pcS_fj F1 (show b ≤ q by omega) hp
            have pl := y1.1
            have row : ∀ e k, 159 ≤ e → AR L e 0 k → M4.1 e = M1.1 e := fun e k he hk => funext fun j => by
              show mi M4 e j = mi M1 e j
              rw [i4]; exact x5 e j (fun z => by have := PEx_lt z; omega) (by have := hk.1; omega)
            have ei : ∀ k, mi M4 pa k = mi M1 pa k := fun k => by rw [i4]; exact x5 _ _ (fun z => npa _ _ z rfl) (by omega)
            have eq : ∀ k, k ≠ cc → mp M4 pa k = mp M1 pa k := fun k hk => by rw [p4 pa k (fun w => hk w.2)]; exact x6 _ _ (by omega)
            have ln : ∀ k, k < 3 → lnC L M1 (mp M1 pa k) (s.1 k) → lnC L3 M4 (mp M4 pa k) (if k = cc then some x else s.1 k) := fun k hk hl => by
              by_cases w : k = cc
              · rw [if_pos w]
                refine Or.inr ⟨L.1, c.length, x, by rw [w, e4, mp_sq, if_pos ⟨rfl, rfl⟩], hL, x3, by omega, rfl, fun r => ?_⟩
                have cd : cdL M4 L.1 c.length = c := by
                  rw [cdL_cg (M := M3) (funext fun j => i4 L.1 j)]; exact x4
                rw [cd, q10 r [] (Nat.zero_le _)]; rfl
              · rw [if_neg w, eq k w]; exact lnC_to x1 row hl
            unfold pcS
            rw [eq 3 (by omega), ei, ei, ei]
            exact ⟨x1.ob y1, y2, ln 0 (by decide) y3, ln 1 (by decide) y4, ln 2 (by decide) y5, faC_to x1 (Nat.le_refl _) row y6, y7, y8, y9, y10⟩
        · rcases q7 with ⟨q8, q9⟩ | ⟨x, q8, q9, q10⟩
          · rw [q8] at hR; exact hR.symm
          · exact absurd q9 z
  rw [show (8 : Int32) = nI 8 from rfl, show (3 : Int32) = nI 3 from rfl, hp.2.2.2.2.2.2.1, nI_eq' (by omega) (by omega), nI_lt' (by omega) (by omega)]
  refine ⟨fun c3 => ⟨fun z => go (by omega), fun z => flt 5 (by omega) (by omega) ?_⟩, fun c3 => go (by omega)⟩
  rw [if_pos ⟨c3, by omega⟩] at hR
  exact hR.symm
end LNE
