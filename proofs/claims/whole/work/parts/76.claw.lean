-- LEVEL 3, part 60: the class reads a law
theorem LP7_c2 {A0 A1 A3 A4 A5 A6 : Type} {body : (A0 → A1 → Int32 → A3 → A4 → A5 → A6 → Prop) → A0 → A1 → Int32 → A3 → A4 → A5 → A6 → Prop} {a0 : A0} {a1 : A1} {a3 : A3} {a4 : A4} {a5 : A5} {a6 : A6} {v : Int32} (i0 n : Nat) (P : Nat → A0 → A1 → A3 → A4 → A5 → A6 → Prop) (hv : v = nI i0) (hle : i0 ≤ n) (h0 : P i0 a0 a1 a3 a4 a5 a6)
  (hs : ∀ (i : Nat) (a0 : A0) (a1 : A1) (a3 : A3) (a4 : A4) (a5 : A5) (a6 : A6), i ≤ n → i0 ≤ i → P i a0 a1 a3 a4 a5 a6 → ∀ K : A0 → A1 → Int32 → A3 → A4 → A5 → A6 → Prop, (i < n → ∀ (b0 : A0) (b1 : A1) (b3 : A3) (b4 : A4) (b5 : A5) (b6 : A6), P (i + 1) b0 b1 b3 b4 b5 b6 → K b0 b1 (nI (i + 1)) b3 b4 b5 b6) → body K a0 a1 (nI i) a3 a4 a5 a6) : LP7 body a0 a1 v a3 a4 a5 a6 :=
  ⟨fun m a0 a1 v a3 a4 a5 a6 => ∃ i : Nat, i ≤ n ∧ i0 ≤ i ∧ v = nI i ∧ m = n - i ∧ P i a0 a1 a3 a4 a5 a6, n - i0, ⟨i0, hle, Nat.le_refl _, hv, rfl, h0⟩, fun m a0 a1 v a3 a4 a5 a6 h => by
    obtain ⟨i, hi, h5, rfl, rfl, hp⟩ := h
    exact hs i a0 a1 a3 a4 a5 a6 hi h5 hp _ (fun hlt b0 b1 b3 b4 b5 b6 hp2 => ⟨n - (i + 1), by omega, i + 1, hlt, by omega, rfl, rfl, hp2⟩)⟩
def lrC (L : Lay) (M : Mem) (R : (Nat × Nat) ⊕ lS) (o : Option Nat) (L' : Lay) (M' : Mem) : Prop := mi M' 71 1 = 0 ∧ LE L L' ∧ (∀ a k, ¬ PEx a k → ¬ (a = 71 ∧ k = 1) → a < L.1 → mi M' a k = mi M a k) ∧ (∀ a k, a < L.1 → mp M' a k = mp M a k) ∧
  ((∃ k p, R = .inl (k, p) ∧ o = none ∧ mi M' 71 2 = nI (k + 16 * p)) ∨ ∃ s, R = .inr s ∧ o = some L.1 ∧ mi M' 71 2 = 0 ∧ OB L' L.1 1 ∧ mi M' L.1 0 = nI s.1 ∧ mi M' L.1 1 = jmax 0 s.2 ∧ s.1 < 64 ∧ dOK s.2)
section CLW
variable {L : Lay} {M : Mem}
theorem c_rlaw {T : Nat → Nat} {n rc rs : Nat} {Q : Option Nat → Lay → Mem → Prop} (hT : okT T n) (hL : 159 ≤ L.1) (hr : rdC M T n) (hrc : 1 ≤ rc) (hrs : 2 ≤ rs) (hQ : ∀ o L' M', lrC L M (lwL T n (n + 1) (tkB T n 0) (0, -1)) o L' M' → Q o L' M') : w_X5_readLaw L rc rs M Q := by
  have hn := hT.1
  have pk : ∀ a k, PK a k → PEx a k := fun a k z => by unfold PK at z; unfold PEx; omega
  have teE : ∀ e, e ≤ n → tkE T n e ≤ n := fun e he => (tkE_rng (T := T) he).2.2
  unfold w_X5_readLaw w_X5_start
  intro M1 e1 M2 e2
  have F2 : FJ PEx M M2 := by rw [e2, e1]; exact (FJ.rf.si (by unfold PEx; omega)).si (by unfold PEx; omega)
  have r2 := rd_cg hr F2
  refine c_next5 (e := 0) hT r2 (by rw [e2, mi_si, if_pos ⟨rfl, rfl⟩]; rfl) (Nat.zero_le _) (fun M3 t3 F3 => ?_)
  have v3 : mi M3 71 2 = 0 := by rw [F3.1 _ _ (by unfold PK; omega), e2, mi_si, if_neg (by omega), e1, mi_si, if_pos ⟨rfl, rfl⟩]
  have F3 : FJ PEx M2 M3 := F3.mono pk
  have r3 := rd_cg r2 F3
  have F := F2.tr F3
  have b0 := (tk_rng (T := T) (n := n) (e := 0) (Nat.zero_le _)).2.1
  generalize hR : lwL T n (n + 1) (tkB T n 0) (0, -1) = R at *
  refine LP7_c2 0 1000 (fun i (v1 v2 : Int32) L1 rc1 rs1 M' => L1 = L ∧ rc1 = rc ∧ rs1 = rs ∧ FJ PEx M M' ∧
      ((∃ b f s, v1 = nI s.1 ∧ v2 = s.2 ∧ s.1 < 64 ∧ dOK s.2 ∧ i ≤ b ∧ b ≤ n ∧ n < b + f ∧ R = lwL T n f b s ∧ rdC M' T n ∧ rtC M' T n b ∧ mi M' 71 2 = 0) ∨ ∃ k p, R = .inl (k, p) ∧ 1 ≤ k ∧ k < 16 ∧ p ≤ n ∧ mi M' 71 2 = nI (k + 16 * p))) rfl (Nat.zero_le _)
    ⟨rfl, rfl, rfl, F, Or.inl ⟨tkB T n 0, n + 1, (0, -1), rfl, rfl, by decide, Or.inl rfl, Nat.zero_le _, b0, by omega, hR.symm, r3, t3, v3⟩⟩ ?_
  intro i v1 v2 L1 rc1 rs1 M4 hi _ ⟨q1, q2, q3, F4, q5⟩ K hK
  subst q1 q2 q3
  unfold w_X5_readLaw_10
  rw [show (1000 : Int32) = nI 1000 from rfl, nI_lt' (by omega) (by omega)]
  rcases q5 with ⟨b, f, s, z1, z2, s64, sd, ib, bn, nf, hx, g1, g2, g3⟩ | ⟨k, p, hx, k1, k2, k3, g1⟩
  · subst z1 z2
    obtain ⟨f', rfl⟩ : ∃ f', f = f' + 1 := ⟨f - 1, by omega⟩
    rw [lwL_s] at hx
    have tc := tk_code (T := T) (n := n) (b := b) hT
    have done : tkC T n b = 32 → w_X5_readLaw_115 (nI s.1) s.2 L1 rc1 rs1 M4 Q := fun c => by
      rw [if_pos c] at hx
      unfold w_X5_readLaw_115
      intro M9 e9
      have v9 : mi M9 71 2 = 0 := by rw [e9, mi_si, if_neg (by omega)]; exact g3
      refine ⟨fun _ => ⟨hrc, hrs, fun L5 M5 e5 => ?_⟩, fun z => absurd v9 z⟩
      unfold w_X1_init
      intro M6 e6 M7 e7
      have eM : M5 = (alc (L1, M9) (1, 0)).2 := congrArg Prod.snd e5
      have i5 : ∀ a k, a ≠ L1.1 → mi M5 a k = mi M9 a k := fun a k q => by
        rw [eM]; show (if a = L1.1 then fun _ => 0 else M9.1 a) k = _; rw [if_neg q]; rfl
      have p5 : ∀ a k, a ≠ L1.1 → mp M5 a k = mp M9 a k := fun a k q => by
        rw [eM]; show (if a = L1.1 then fun _ => none else M9.2.1 a) k = _; rw [if_neg q]; rfl
      have i7 : ∀ a k, a ≠ L1.1 → mi M7 a k = mi M9 a k := fun a k q => by rw [e7, mi_si, if_neg (by omega), e6, mi_si, if_neg (by omega)]; exact i5 a k q
      refine hQ _ L5 M7 ⟨by rw [i7 _ _ (by omega), e9, mi_si, if_pos ⟨rfl, rfl⟩], LE.of_alc e5, fun a k y1 y2 y3 => by rw [i7 a k (by omega), e9, mi_si, if_neg y2]; exact F4.1 a k y1, fun a k y => by rw [e7, mp_si, e6, mp_si, p5 a k (by omega), e9, mp_si]; exact F4.mp, Or.inr ⟨s, hx, rfl, by rw [i7 _ _ (by omega)]; exact v9, OB.of_alc e5, ?_, ?_, s64, sd⟩⟩
      · rw [e7, mi_si, if_neg (by omega), e6, mi_si, if_pos ⟨rfl, rfl⟩]
      · rw [e7, mi_si, if_pos ⟨rfl, rfl⟩]
    rw [g2.2.2.1, show (32 : Int32) = nI 32 from rfl, show (7 : Int32) = nI 7 from rfl, show (8 : Int32) = nI 8 from rfl, nI_eq' (by omega) (by omega), nI_eq' (by omega) (by omega), nI_eq' (by omega) (by omega)]
    refine ⟨fun hlt => ⟨fun c => done c, fun c => ⟨fun _ => ?_, fun z => absurd g3 z⟩⟩, fun hge => done (tc.2.1.mpr (by omega))⟩
    rw [if_neg c] at hx
    have bl : b < n := by
      by_cases z : b < n
      · exact z
      · exact absurd (tc.2.1.mpr z) c
    have nb := nx_rng (T := T) bn
    have b1 := nb.2.1
    have n1 := nx_rng (T := T) b1
    obtain ⟨W, hW⟩ : ∃ W, lwR T n b s = W := ⟨_, rfl⟩
    rw [hW] at hx
    unfold lwR at hW
    obtain ⟨cc, hc⟩ : ∃ cc, tkC T n b = cc := ⟨_, rfl⟩
    obtain ⟨p, hpe⟩ : ∃ p, nxT T n b = p := ⟨_, rfl⟩
    rw [hc, hpe] at hW
    rw [hc] at tc c ⊢
    rw [hpe] at nb b1 n1
    -- the end of a line
    have finF : ∀ (M5 : Mem) (k q e : Nat) (y1 y2 : Int32), FJ PEx M4 M5 → rdC M5 T n → mi M5 71 6 = nI e → e ≤ n → mi M5 71 2 = nI (k + 16 * q) → 1 ≤ k → k < 16 → q ≤ n → W = .inl (k, q) → w_X5_readLaw_103 K y1 y2 (nI i) L1 rc1 rs1 M5 Q := fun M5 k q e y1 y2 a1 a2 a3 a4 a5 a6 a7 a8 a9 => by
      unfold w_X5_readLaw_103
      have nz : ¬ mi M5 71 2 = 0 := by
        rw [a5, show (0 : Int32) = nI 0 from rfl, nI_eq' (by omega) (by omega)]; omega
      refine c_expF hT a2 a3 a4 nz (fun M6 g1 g2 F6 x hx2 => ?_)
      rw [nI_1] at hx2; subst hx2
      rw [a9] at hx
      exact hK (by omega) _ _ _ _ _ M6 ⟨rfl, rfl, rfl, (F4.tr a1).tr F6, Or.inr ⟨k, q, hx, a6, a7, a8, g1.trans a5⟩⟩
    have fin0 : ∀ (M5 : Mem) (b3 : Nat) (s' : lS), FJ PEx M4 M5 → rdC M5 T n → rtC M5 T n b3 → b < b3 → b3 ≤ n → mi M5 71 2 = 0 → s'.1 < 64 → dOK s'.2 → W = lqE T n b3 s' → w_X5_readLaw_103 K (nI s'.1) s'.2 (nI i) L1 rc1 rs1 M5 Q := fun M5 b3 s' a1 a2 a3 a4 a5 a6 a7 a8 a9 => by
      unfold w_X5_readLaw_103
      have n3 := nx_rng (T := T) a5
      unfold lqE at a9
      refine c_exp1 (c := 59) hT rfl (by decide) a5 a2 a3 a6 (fun z M6 g1 g2 g3 F6 x hx2 => ?_) (fun z M6 g1 g2 g3 F6 x hx2 => ?_)
      · rw [nI_1] at hx2; subst hx2
        rw [if_pos z] at a9
        rw [a9] at hx
        exact hK (by omega) _ _ _ _ _ M6 ⟨rfl, rfl, rfl, (F4.tr a1).tr F6, Or.inl ⟨_, f', s', rfl, rfl, a7, a8, by omega, n3.2.1, by omega, hx, g2, g3, g1⟩⟩
      · rw [nI_1] at hx2; subst hx2
        rw [if_neg z] at a9
        rw [a9] at hx
        exact hK (by omega) _ _ _ _ _ M6 ⟨rfl, rfl, rfl, (F4.tr a1).tr F6, Or.inr ⟨1, b3, hx, by omega, by omega, a5, g1⟩⟩
    -- a fault at the line's head
    have r85 : ∀ k, (if cc = 8 then 3 else 1) = k → W = .inl (k, b) → w_X5_readLaw_85 K (nI s.1) s.2 (nI i) L1 rc1 rs1 M4 Q := fun k hk hw => by
      unfold w_X5_readLaw_85
      intro x23 e23
      have q8 : mi M4 71 3 = (8 : Int32) ↔ cc = 8 := by rw [g2.2.2.1, hc]; exact nI_eq (b := 8) (by omega) (by omega)
      have e23 : x23 = nI k := by
        rw [e23, ← hk]
        by_cases z : cc = 8
        · rw [if_pos (q8.mpr z), if_pos z]; rfl
        · rw [if_neg (fun w => z (q8.mp w)), if_neg z]; rfl
      rw [e23]
      refine c_refuse g3 g2.1 (fun M5 e5 => ?_)
      have F5 : FJ PEx M4 M5 := by rw [e5]; exact FJ.rf.si (by unfold PEx; omega)
      have kk : 1 ≤ k ∧ k < 16 := by rw [← hk]; split <;> omega
      exact finF M5 k b (tkE T n b) _ _ F5 (rd_cg g1 F5) (by rw [e5, mi_si, if_neg (by omega)]; exact g2.2.1) (teE b bn) (by rw [e5, mi_si, if_pos ⟨rfl, rfl⟩]) kk.1 kk.2 bn hw
    have tp := (tk_code (b := p) hT).1
    refine ⟨fun c7 => ?_, fun c7 => ⟨fun c8 => ⟨fun z => ?_, fun z => ?_⟩, fun c8 => r85 1 (by rw [if_neg c8]) ?_⟩⟩
    · rw [if_pos c7] at hW
      refine c_next5 hT g1 g2.2.1 (teE b bn) (fun M5 t5 F5 => ?_)
      have v5 : mi M5 71 2 = 0 := by rw [F5.1 _ _ (by unfold PK; omega)]; exact g3
      have t5 : rtC M5 T n p := by rw [← hpe]; exact t5
      have F5 : FJ PEx M4 M5 := F5.mono pk
      have r5 := rd_cg g1 F5
      unfold w_X5_readVoidKind
      rw [t5.2.2.1, show (5 : Int32) = nI 5 from rfl, nI_lt' (by omega) (by omega)]
      refine ⟨fun z => c_refuse (k := 1) v5 t5.1 (fun M6 e6 x14 _ => ?_), fun z => ?_⟩
      · rw [if_neg (by omega)] at hW
        have F6 : FJ PEx M5 M6 := by rw [e6]; exact FJ.rf.si (by unfold PEx; omega)
        exact finF M6 1 p (tkE T n p) _ _ (F5.tr F6) (rd_cg r5 F6) (by rw [e6, mi_si, if_neg (by omega)]; exact t5.2.1) (teE p b1) (by rw [e6, mi_si, if_pos ⟨rfl, rfl⟩]) (by omega) (by omega) b1 hW.symm
      · rw [if_pos (by omega)] at hW
        obtain ⟨y1, y2, y3, y4⟩ := lw_t s.1 s64 (tkC T n p) (by omega)
        refine ⟨fun w => c_refuse (k := 3) v5 t5.1 (fun M6 e6 => ?_), fun w => ?_⟩
        · rw [if_neg (y1.mp w)] at hW
          have F6 : FJ PEx M5 M6 := by rw [e6]; exact FJ.rf.si (by unfold PEx; omega)
          have r6 := rd_cg r5 F6
          unfold w_X5_readVoidKind_32
          intro x5 _
          refine c_next5 hT r6 (by rw [e6, mi_si, if_neg (by omega)]; exact t5.2.1) (teE p b1) (fun M7 t7 F7 x14 _ => ?_)
          have v7 : mi M7 71 2 = nI (3 + 16 * p) := by rw [F7.1 _ _ (by unfold PK; omega), e6, mi_si, if_pos ⟨rfl, rfl⟩]
          have F7 : FJ PEx M6 M7 := F7.mono pk
          exact finF M7 3 p (tkE T n (nxT T n p)) _ _ ((F5.tr F6).tr F7) (rd_cg r6 F7) t7.2.1 (teE _ n1.2.1) v7 (by omega) (by omega) b1 hW.symm
        · have w0 : (nI s.1 &&& nI (2 ^ tkC T n p)) = 0 := Classical.byContradiction (fun q => w (y1.mpr q))
          rw [if_pos w0] at hW
          unfold w_X5_readVoidKind_32
          intro x5 e5
          rw [t5.2.2.1, jshl_1 (by omega)] at e5
          refine c_next5 hT r5 t5.2.1 (teE p b1) (fun M7 t7 F7 x14 e14 => ?_)
          rw [e5, y2] at e14
          have v7 : mi M7 71 2 = 0 := by rw [F7.1 _ _ (by unfold PK; omega)]; exact v5
          have F7 : FJ PEx M5 M7 := F7.mono pk
          rw [e14]
          exact fin0 M7 (nxT T n p) (s.1 ||| 2 ^ tkC T n p, s.2) (F5.tr F7) (rd_cg r5 F7) t7 (by omega) n1.2.1 v7 y3 sd hW.symm
    · rw [if_neg c7, if_pos c8, if_pos z] at hW
      refine c_next5 hT g1 g2.2.1 (teE b bn) (fun M5 t5 F5 => ?_)
      have v5 : mi M5 71 2 = 0 := by rw [F5.1 _ _ (by unfold PK; omega)]; exact g3
      have t5 : rtC M5 T n p := by rw [← hpe]; exact t5
      have F5 : FJ PEx M4 M5 := F5.mono pk
      have r5 := rd_cg g1 F5
      refine c_num (m := 99) hT (by decide) b1 r5 t5 v5 (fun u1 u2 M6 h1 h2 h3 F6 => ?_) (fun k x M6 hk h1 h2 h3 F6 => ?_)
      · rw [if_pos u1, if_pos u2] at hW
        exact fin0 M6 (nxT T n p) (s.1, nI (tkV T n p)) (F5.tr F6) h2 h3 (by omega) n1.2.1 h1 s64 (Or.inr ⟨_, u2, rfl⟩) hW.symm
      · refine finF M6 k p (tkE T n (nxT T n p)) _ _ (F5.tr F6) h2 h3.2.1 (teE _ n1.2.1) h1 (by omega) (by omega) b1 ?_
        rcases hk with ⟨rfl, u1, u2⟩ | ⟨rfl, u1⟩
        · rw [if_pos u1, if_neg (by omega)] at hW; exact hW.symm
        · rw [if_neg u1] at hW; exact hW.symm
    · rw [if_neg c7, if_pos c8, if_neg z] at hW
      exact r85 3 (by rw [if_pos c8]) hW.symm
    · rw [if_neg c7, if_neg c8] at hW; exact hW.symm
  · have nz : ¬ mi M4 71 2 = 0 := by
      rw [g1, show (0 : Int32) = nI 0 from rfl, nI_eq' (by omega) (by omega)]; omega
    have done : w_X5_readLaw_115 v1 v2 L1 rc1 rs1 M4 Q := by
      unfold w_X5_readLaw_115
      intro M9 e9
      have v9 : mi M9 71 2 = mi M4 71 2 := by rw [e9, mi_si, if_neg (by omega)]
      refine ⟨fun z => absurd (v9.symm.trans z) nz, fun _ => hQ _ L1 M9 ⟨by rw [e9, mi_si, if_pos ⟨rfl, rfl⟩], LE.rf L1, fun a k y1 y2 y3 => by rw [e9, mi_si, if_neg y2]; exact F4.1 a k y1, fun a k y => by rw [e9, mp_si]; exact F4.mp, Or.inl ⟨k, p, hx, rfl, v9.trans g1⟩⟩⟩
    exact ⟨fun _ => ⟨fun _ => done, fun _ => ⟨fun z => absurd z nz, fun _ => done⟩⟩, fun _ => done⟩
end CLW
