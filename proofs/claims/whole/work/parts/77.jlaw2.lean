-- LEVEL 3, part 61: the reference reads a law; the call law on both sides
def PLm (a k : Nat) : Prop := a = 92 ∧ (k = 0 ∨ k = 42 ∨ k = 44 ∨ k = 45 ∨ k = 46 ∨ k = 47 ∨ k = 49 ∨ k = 50)
def lrM (M : Mem) (R : (Nat × Nat) ⊕ lS) (x : Int32) (M' : Mem) : Prop := mi M' 92 42 = 0 ∧
  ((∃ k p, R = .inl (k, p) ∧ x = nI (k + 16 * p) ∧ FLg PLm M M') ∨ ∃ s, R = .inr s ∧ x = 0 ∧ mi M' 92 40 = nI s.1 ∧ mi M' 92 41 = jmax 0 s.2 ∧ mi M' 102 0 = 1 ∧ FLg (fun a k => PLm a k ∨ (a = 92 ∧ (k = 40 ∨ k = 41)) ∨ (a = 102 ∧ k = 0)) M M')
section MLW
variable {L : Lay} {M : Mem}
theorem m_rlaw {T : Nat → Nat} {n : Nat} {Q : Int32 → Mem → Prop} (hT : okT T n) (h42 : mi M 92 42 = nI n) (h129 : ∀ i, i < n → mi M 129 i = nI (T i)) (hQ : ∀ x M', lrM M (lwL T n (n + 1) (tkB T n 0) (0, -1)) x M' → Q x M') : w_X12_law L M Q := by
  have hn := hT.1
  have jl : ∀ a k, PJ a k → PLm a k := fun a k z => by unfold PJ at z; unfold PLm; omega
  have teE : ∀ e, e ≤ n → tkE T n e ≤ n := fun e he => (tkE_rng (T := T) he).2.2
  unfold w_X12_law
  intro M1 e1 M2 e2 M3 e3 M4 e4
  have F4 : FLg PLm M M4 := by rw [e4, e3, e2, e1]; exact (((FLg.rf.si (by unfold PLm; omega)).si (by unfold PLm; omega)).si (by unfold PLm; omega)).si (by unfold PLm; omega)
  have k44 : mi M4 92 44 = nI n := by rw [e4, mi_si, if_neg (by omega), e3, mi_si, if_neg (by omega), e2, mi_si, if_pos ⟨rfl, rfl⟩, e1, mi_si, if_neg (by omega)]; exact h42
  have k42 : mi M4 92 42 = 0 := by rw [e4, mi_si, if_neg (by omega), e3, mi_si, if_pos ⟨rfl, rfl⟩]
  have r4 : rdM M4 T n := ⟨k44, fun i hi => by rw [F4.1 _ _ (by unfold PLm; omega)]; exact h129 i hi⟩
  refine m_next5 (e := 0) hT r4 (by rw [e4, mi_si, if_pos ⟨rfl, rfl⟩]; rfl) (Nat.zero_le _) (fun M5 t5 F5 => ?_)
  have b0 := (tk_rng (T := T) (n := n) (e := 0) (Nat.zero_le _)).2.1
  have r5 : rdM M5 T n := rdM_cg r4 (F5.1 _ _ (by unfold PJ; omega)) (fun i => F5.1 _ _ (by unfold PJ; omega))
  have w0 := wt_3
  have w1 := wt_4
  simp only [List.cons.injEq] at w0 w1
  obtain ⟨u0, u1, u2, u3, u4, u5, -, u7, u8, -⟩ := w0
  generalize hR : lwL T n (n + 1) (tkB T n 0) (0, -1) = R at *
  refine LP3_m (fun m (v1 v2 : Int32) M' => ∃ b f s, m = f ∧ v1 = nI s.1 ∧ v2 = s.2 ∧ s.1 < 64 ∧ dOK s.2 ∧ b ≤ n ∧ n < b + f ∧ R = lwL T n f b s ∧ rdM M' T n ∧ rtM M' T n b ∧ FLg PJ M4 M') (n + 1)
    ⟨tkB T n 0, n + 1, (0, -1), rfl, rfl, rfl, by decide, Or.inl rfl, b0, by omega, hR.symm, r5, t5, F5⟩ ?_
  intro m v1 v2 M6 ⟨b, f, s, em, z1, z2, s64, sd, bn, nf, hx, g1, g2, G⟩ K hK
  subst em z1 z2
  obtain ⟨f', rfl⟩ : ∃ f', m = f' + 1 := ⟨m - 1, by omega⟩
  rw [lwL_s] at hx
  have tc := tk_code (T := T) (n := n) (b := b) hT
  have f0 := tm_0 g2.2.2
  have jj : ∀ {M7 : Mem}, FLg PJ M4 M7 → FLg PLm M M7 ∧ mi M7 92 42 = 0 := fun F => ⟨F4.tr (F.mono jl), by rw [F.1 _ _ (by unfold PJ; omega)]; exact k42⟩
  unfold w_X12_law_31
  refine ⟨fun z M7 e7 M8 e8 M9 e9 => ?_, fun z => ?_⟩
  · rw [if_pos (f0.mp z)] at hx
    refine hQ 0 M9 ⟨?_, Or.inr ⟨s, hx, rfl, ?_, ?_, by rw [e9, mi_si, if_pos ⟨rfl, rfl⟩], ?_⟩⟩
    · rw [e9, mi_si, if_neg (by omega), e8, mi_si, if_neg (by omega), e7, mi_si, if_neg (by omega)]; exact (jj G).2
    · rw [e9, mi_si, if_neg (by omega), e8, mi_si, if_neg (by omega), e7, mi_si, if_pos ⟨rfl, rfl⟩]
    · rw [e9, mi_si, if_neg (by omega), e8, mi_si, if_pos ⟨rfl, rfl⟩]
    · rw [e9, e8, e7]
      have G0 : FLg (fun a k => PLm a k ∨ (a = 92 ∧ (k = 40 ∨ k = 41)) ∨ (a = 102 ∧ k = 0)) M M6 := (jj G).1.mono (fun a k q => Or.inl q)
      exact ((G0.si (Or.inr (Or.inl ⟨rfl, Or.inl rfl⟩))).si (Or.inr (Or.inl ⟨rfl, Or.inr rfl⟩))).si (Or.inr (Or.inr ⟨rfl, rfl⟩))
  · rw [if_neg (fun w => z (f0.mpr w))] at hx
    have bl : b < n := by
      by_cases y : b < n
      · exact y
      · exact absurd (f0.mpr (tc.2.1.mpr y)) z
    have nb := nx_rng (T := T) bn
    have b1 := nb.2.1
    have n1 := nx_rng (T := T) b1
    have n2 := nx_rng (T := T) n1.2.1
    obtain ⟨W, hW⟩ : ∃ W, lwR T n b s = W := ⟨_, rfl⟩
    rw [hW] at hx
    unfold lwR at hW
    obtain ⟨cc, hc⟩ : ∃ cc, tkC T n b = cc := ⟨_, rfl⟩
    obtain ⟨p, hpe⟩ : ∃ p, nxT T n b = p := ⟨_, rfl⟩
    rw [hc, hpe] at hW
    rw [hc] at tc
    rw [hpe] at nb b1 n1 n2
    -- a fault
    have flt : ∀ (M7 : Mem) (k q : Nat), FLg PJ M4 M7 → mi M7 92 46 = nI q → W = .inl (k, q) → w_X12_fails L (nI k) M7 (fun _ M' => Q (mi M' 92 50) M') := fun M7 k q F7 h46 hk => by
      refine m_fails h46 (fun M8 e8 => ?_)
      have v8 : mi M8 92 50 = nI (k + 16 * q) := by rw [e8, mi_si, if_pos ⟨rfl, rfl⟩]
      rw [hk] at hx
      rw [v8]
      refine hQ _ M8 ⟨?_, Or.inl ⟨k, q, hx, rfl, ?_⟩⟩
      · rw [e8, mi_si, if_neg (by omega)]; exact (jj F7).2
      · rw [e8]; exact (jj F7).1.si (by unfold PLm; omega)
    have en : ∀ (M7 : Mem) (s' : lS), rdM M7 T n → rtM M7 T n p → FLg PJ M4 M7 → s'.1 < 64 → dOK s'.2 → W = lqE T n (nxT T n p) s' → w_X12_law_273 L K (nI s'.1) s'.2 M7 Q := fun M7 s' a1 a2 a3 a4 a5 a6 => by
      unfold w_X12_law_273
      refine m_next5 hT a1 a2.2.1 (teE p b1) (fun M8 t8 F8 => ?_)
      have t8 : rtM M8 T n (nxT T n p) := t8
      have r8 : rdM M8 T n := rdM_cg a1 (F8.1 _ _ (by unfold PJ; omega)) (fun i => F8.1 _ _ (by unfold PJ; omega))
      unfold lqE at a6
      unfold w_X12_ends
      refine m_is (s := 59) hT r8 t8 (by decide) (fun q => ?_) (fun q => ?_)
      · rw [if_neg q] at a6
        refine m_fails (k := 1) t8.1 (fun M9 e9 => ⟨fun _ => ?_, fun w => absurd rfl w⟩)
        have v9 : mi M9 92 50 = nI (1 + 16 * nxT T n p) := by rw [e9, mi_si, if_pos ⟨rfl, rfl⟩]
        rw [a6] at hx
        rw [v9]
        refine hQ _ M9 ⟨?_, Or.inl ⟨1, _, hx, rfl, ?_⟩⟩
        · rw [e9, mi_si, if_neg (by omega)]; exact (jj (a3.tr F8)).2
        · rw [e9]; exact (jj (a3.tr F8)).1.si (by unfold PLm; omega)
      · rw [if_pos q] at a6
        refine m_next5 hT r8 t8.2.1 (teE _ n1.2.1) (fun M9 t9 F9 => ⟨fun w => absurd w (by decide), fun _ => ?_⟩)
        rw [a6] at hx
        exact hK f' (by omega) _ _ M9 ⟨_, f', s', rfl, rfl, rfl, a4, a5, n2.2.1, by omega, hx, rdM_cg r8 (F9.1 _ _ (by unfold PJ; omega)) (fun i => F9.1 _ _ (by unfold PJ; omega)), t9, (a3.tr F8).tr F9⟩
    have tp := (tk_code (b := p) hT).1
    refine m_iwV (k := 7) g2 (by decide) (by rw [u7]; rfl) ?_
    rw [hc]
    by_cases c7 : cc = 7
    · rw [if_pos c7] at hW ⊢
      refine ⟨fun w => absurd w (by decide), fun _ => ?_⟩
      unfold w_X12_law_71
      refine ⟨fun w => absurd w (by decide), fun _ => ?_⟩
      unfold w_X12_law_90
      refine m_next5 hT g1 g2.2.1 (teE b bn) (fun M7 t7 F7 => ⟨fun w => absurd w (by decide), fun _ => ?_⟩)
      have t7 : rtM M7 T n p := by rw [← hpe]; exact t7
      have r7 : rdM M7 T n := rdM_cg g1 (F7.1 _ _ (by unfold PJ; omega)) (fun i => F7.1 _ _ (by unfold PJ; omega))
      have F7 := G.tr F7
      have r200 : ∀ y : Int32, ∀ k : Nat, (if y = 0 then (1 : Int32) else 3) = nI k → W = .inl (k, p) → w_X12_law_200 L y M7 Q := fun y k hy hw => by
        unfold w_X12_law_200
        intro x57 e57
        rw [e57, hy]
        exact flt M7 k p F7 t7.1 hw
      have r186 : ∀ (c : Nat) (y : Int32), c < 6 → y = nI (2 ^ c) → tkC T n p = c → w_X12_law_186 L K (nI s.1) s.2 y M7 Q := fun c y hc6 hy hp => by
        obtain ⟨y1, y2, y3, y4⟩ := lw_t s.1 s64 c hc6
        rw [hp, if_pos hc6] at hW
        unfold w_X12_law_186
        rw [hy]
        refine ⟨fun w => absurd w y4, fun _ => ⟨fun w x63 e63 => ?_, fun w => ?_⟩⟩
        · rw [if_pos w] at hW
          rw [e63, y2]
          exact en M7 (s.1 ||| 2 ^ c, s.2) r7 t7 F7 y3 sd hW.symm
        · rw [if_neg w] at hW
          exact r200 _ 3 (by rw [if_neg y4]; rfl) hW.symm
      refine m_iw (k := 0) t7 (by decide) (by rw [u0]; rfl) (fun z0 => m_iw (k := 1) t7 (by decide) (by rw [u1]; rfl) (fun z1 => m_iw (k := 2) t7 (by decide) (by rw [u2]; rfl) (fun z2 => m_iw (k := 3) t7 (by decide) (by rw [u3]; rfl) (fun z3 => m_iw (k := 4) t7 (by decide) (by rw [u4]; rfl) (fun z4 => m_iwV (k := 5) t7 (by decide) (by rw [u5]; rfl) (fun x44 e44 => ?_)) (fun w => r186 4 16 (by omega) rfl w)) (fun w => r186 3 8 (by omega) rfl w)) (fun w => r186 2 4 (by omega) rfl w)) (fun w => r186 1 2 (by omega) rfl w)) (fun w => r186 0 1 (by omega) rfl w)
      show w_X12_law_186 L K (nI s.1) s.2 x44 M7 Q
      by_cases w : tkC T n p = 5
      · rw [if_pos w, if_neg (by decide)] at e44
        exact r186 5 x44 (by omega) e44 w
      · rw [if_neg w, if_pos rfl] at e44
        rw [if_neg (by omega)] at hW
        unfold w_X12_law_186
        rw [e44]
        exact ⟨fun _ => r200 0 1 rfl hW.symm, fun q => absurd rfl q⟩
    · rw [if_neg c7] at hW ⊢
      refine ⟨fun _ => m_iw (k := 8) g2 (by decide) (by rw [u8]; rfl) (fun c8 => ?_) (fun c8 => ?_), fun w => absurd rfl w⟩
      · rw [if_neg (by omega)] at hW
        exact flt M6 1 b G g2.1 hW.symm
      · rw [if_pos (by omega)] at hW
        unfold w_X12_law_71
        have dl : s.2 < 0 ↔ s.2 = -1 := by
          rcases sd with q | ⟨v, q1, q2⟩
          · rw [q]; exact ⟨fun _ => rfl, fun _ => by decide⟩
          · rw [q2]
            exact ⟨fun w => absurd w (nI_pos (by omega)), fun w => by rw [nI_m1 (by omega)] at w; exact absurd w id⟩
        refine ⟨fun _ => ⟨fun w => ?_, fun w => ?_⟩, fun w => absurd rfl w⟩
        · rw [if_pos (dl.mp w)] at hW
          unfold w_X12_law_90
          refine m_next5 hT g1 g2.2.1 (teE b bn) (fun M7 t7 F7 => ⟨fun _ => ?_, fun w => absurd rfl w⟩)
          have t7 : rtM M7 T n p := by rw [← hpe]; exact t7
          have r7 : rdM M7 T n := rdM_cg g1 (F7.1 _ _ (by unfold PJ; omega)) (fun i => F7.1 _ _ (by unfold PJ; omega))
          have F7 := G.tr F7
          have f2 := tm_2 t7.2.2
          refine ⟨fun q => ?_, fun q => ?_⟩
          · have c30 := f2.mp q
            have tv := tkV_lt hT c30
            rw [if_pos c30] at hW
            rw [tm_v t7.2.2 c30, show (99 : Int32) = nI 99 from rfl, nI_lt' (by omega) (by omega)]
            refine ⟨fun y => ?_, fun y x26 e26 => ?_⟩
            · rw [if_neg (by omega)] at hW
              unfold w_X12_law_245
              intro x49 e49
              rw [if_pos q] at e49
              rw [e49]
              exact flt M7 4 p F7 t7.1 hW.symm
            · rw [if_pos (by omega)] at hW
              rw [e26]
              exact en M7 (s.1, nI (tkV T n p)) r7 t7 F7 s64 (Or.inr ⟨_, by omega, rfl⟩) hW.symm
          · rw [if_neg (fun y => q (f2.mpr y))] at hW
            unfold w_X12_law_245
            intro x49 e49
            rw [if_neg q] at e49
            rw [e49]
            exact flt M7 1 p F7 t7.1 hW.symm
        · rw [if_neg (fun y => w (dl.mpr y))] at hW
          exact flt M6 3 b G g2.1 hW.symm
theorem j_law {rc rs : Nat} (hL : 159 ≤ L.1) (h : RR L M) (hrc : 1 ≤ rc) (hrs : 2 ≤ rs) : w_X11_law L rc rs M (fun a L1 M1 => w_X12_law L1 M1 (fun b M2 => a = b ∧ LE L L1 ∧ RR L1 M2)) := by
  obtain ⟨t, X, h⟩ := h
  obtain ⟨n, T, hT, hr, h42, h129⟩ := tp_text h.2.2.1
  have hn := hT.1
  unfold w_X11_law
  refine ⟨rc, rs, Nat.le_refl _, Nat.le_refl _, c_rlaw hT hL hr hrc hrs (fun o L1 M1 hC => ?_)⟩
  obtain ⟨c1, c2, c3, c4, c5⟩ := hC
  have g42 : mi M1 92 42 = nI n := (c3 _ _ (by unfold PEx; omega) (by omega) (by omega)).trans h42
  have g129 : ∀ i, i < n → mi M1 129 i = nI (T i) := fun i hi => (c3 _ _ (by unfold PEx; omega) (by omega) (by omega)).trans (h129 i hi)
  have hd := h.1.2.2.1.2.2.2.2.2.2.2.1
  have pk := h.1.2.2.2.2.2.2.2.2.2.2
  rcases c5 with ⟨k, p, q1, q2, q3⟩ | ⟨s, q1, q2, q3, q4, q5, q6, q7, q8⟩
  · subst q2
    refine ⟨fun _ => ?_, fun a z => absurd z (fun w => by cases w)⟩
    refine m_rlaw hT g42 g129 (fun x M2 hm => ?_)
    obtain ⟨m42, ⟨k', p', e1, e2, F⟩ | ⟨s, e1, -⟩⟩ := hm
    · have e : k' = k ∧ p' = p := by rw [q1] at e1; cases e1; exact ⟨rfl, rfl⟩
      obtain ⟨rfl, rfl⟩ := e
      have lo : ∀ b k, b ≠ 92 → ¬ PEx b k → ¬ (b = 71 ∧ k = 1) → b < L.1 → mi M2 b k = mi M b k := fun b k z1 z2 z3 z4 => by rw [F.1 b k (by unfold PLm; omega), c3 b k z2 z3 z4]
      refine ⟨by rw [q3, e2], c2, t, _, RX_gr h hL c2 (fun a k z1 z2 z3 z4 z5 z6 => ?_) (fun a k _ z => (F.2 a k).trans (c4 a k z)) ⟨0, by omega, ?_, m42, fun i hi => absurd hi (by omega)⟩ ?_ ?_ pk⟩
      · rw [F.1 a k (by unfold PLm; unfold PN at z1; omega), c3 a k (fun w => z1 (by unfold PEx at w; unfold PN; omega)) (by omega) z6]
      · rw [F.1 _ _ (by unfold PLm; omega)]; exact c1
      · rw [F.2, c4 _ _ (by omega)]
        exact optC_lay c2 (optC_cg (fun b b1 b2 => funext fun k => lo b k (by omega) (by unfold PEx; omega) (by omega) b2) (fun b b1 b2 => funext fun k => (F.2 b k).trans (c4 b k b2)) h.1.2.1.2.2.2.2.1)
      · unfold hdM at hd ⊢
        rw [lo 101 0 (by omega) (by unfold PEx; omega) (by omega) (by omega)]
        rcases hd with q | ⟨q, P, e3, e4⟩
        · exact Or.inl q
        · exact Or.inr ⟨q, P, e3, pacM_cg (fun b j z => lo b j (by unfold slM at z; omega) (by unfold slM at z; unfold PEx; omega) (by unfold slM at z; omega) (by unfold slM at z; omega)) e4⟩
    · rw [q1] at e1; cases e1
  · subst q2
    refine ⟨fun z => absurd z (fun w => by cases w), fun a7 z M3 e3 => ?_⟩
    have i3 : ∀ b k, mi M3 b k = mi M1 b k := fun b k => by rw [e3, mi_sq]
    have p3 : ∀ b k, ¬ (b = 1 ∧ k = 10) → mp M3 b k = mp M1 b k := fun b k q => by rw [e3, mp_sq, if_neg q]
    refine m_rlaw hT ((i3 _ _).trans g42) (fun i hi => (i3 _ _).trans (g129 i hi)) (fun x M2 hm => ?_)
    obtain ⟨m42, ⟨k', p', e1, -⟩ | ⟨s', e1, e2, e4, e5, e6, F⟩⟩ := hm
    · rw [q1] at e1; cases e1
    · have es : s' = s := by rw [q1] at e1; cases e1; rfl
      subst es
      have up : ∀ b k, b ≠ 92 → b ≠ 102 → mi M2 b k = mi M1 b k := fun b k z1 z2 => by rw [F.1 b k (by unfold PLm; omega), i3]
      have lo : ∀ b k, b ≠ 92 → b ≠ 102 → ¬ PEx b k → ¬ (b = 71 ∧ k = 1) → b < L.1 → mi M2 b k = mi M b k := fun b k z1 z1' z2 z3 z4 => by rw [up b k z1 z1', c3 b k z2 z3 z4]
      refine ⟨by rw [i3, q3, e2], c2, t, _, RX_gl (l' := (nI s'.1, jmax 0 s'.2)) h hL c2 (fun b k z1 z2 z3 z4 z5 z7 z6 => ?_) (fun b k z1 z => ((F.2 b k).trans (p3 b k (by omega))).trans (c4 b k z)) ⟨0, by omega, ?_, m42, fun i hi => absurd hi (by omega)⟩ ?_ ?_ pk ?_ ⟨s'.1, q7, rfl⟩ (by rw [if_pos e6, e4, e5])⟩
      · rw [F.1 b k (by unfold PLm; unfold PN at z1; omega), i3, c3 b k (fun w => z1 (by unfold PEx at w; unfold PN; omega)) (by omega) z6]
      · rw [up _ _ (by omega) (by omega)]; exact c1
      · rw [F.2, p3 _ _ (by omega), c4 _ _ (by omega)]
        exact optC_lay c2 (optC_cg (fun b b1 b2 => funext fun k => lo b k (by omega) (by omega) (by unfold PEx; omega) (by omega) b2) (fun b b1 b2 => funext fun k => ((F.2 b k).trans (p3 b k (by omega))).trans (c4 b k b2)) h.1.2.1.2.2.2.2.1)
      · unfold hdM at hd ⊢
        rw [lo 101 0 (by omega) (by omega) (by unfold PEx; omega) (by omega) (by omega)]
        rcases hd with q | ⟨q, P, e3', e4'⟩
        · exact Or.inl q
        · exact Or.inr ⟨q, P, e3', pacM_cg (fun b j z => lo b j (by unfold slM at z; omega) (by unfold slM at z; omega) (by unfold slM at z; unfold PEx; omega) (by unfold slM at z; omega) (by unfold slM at z; omega)) e4'⟩
      · rw [F.2, e3, mp_sq, if_pos ⟨rfl, rfl⟩]
        exact ⟨L.1, rfl, q4, Or.inr (Or.inr hL), (up _ _ (by omega) (by omega)).trans q5, (up _ _ (by omega) (by omega)).trans q6⟩
end MLW
