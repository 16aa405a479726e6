-- LEVEL 3, part 58: the call pact on both sides
theorem moP_lay {L L' : Lay} {M : Mem} {t m : Nat} (hE : LE L L') (h : moP L M t m) : moP L' M t m := by
  rcases h with q | ⟨hm, a, q, P, e1, e2, e3, e4, e5⟩
  · exact Or.inl q
  · refine Or.inr ⟨hm, a, q, P, e1, e2, e3, ?_, e5⟩
    have := optC_lay (o := some a) (p := some P) hE (Or.inr ⟨a, P, rfl, rfl, e4⟩)
    rcases this with ⟨z, -⟩ | ⟨a', P', z1, z2, z3⟩
    · cases z
    · cases z1; cases z2; exact z3
theorem RX_gr {L L' : Lay} {M M' : Mem} {t : Nat} {X : WS} {h' : Option Pc} (h : RX L M t X) (hL : 159 ≤ L.1) (hE : LE L L')
    (hi : ∀ a k, ¬ PN a k → ¬ ((a = 71 ∧ k = 1) ∨ (a = 92 ∧ k = 42)) → ¬ slM 24 a k → ¬ PMp a k → ¬ (a = 101 ∧ k = 0) → a < L.1 → mi M' a k = mi M a k)
    (hp : ∀ a k, ¬ (a = 1 ∧ k = 12) → a < L.1 → mp M' a k = mp M a k)
    (hT : TP M') (hc : optC L' M' (mp M' 1 12) h') (hm : hdM 0 M' h') (ho : pOK h') : RX L' M' t (X.1, X.2.1, X.2.2.1, X.2.2.2.1, h') := by
  obtain ⟨⟨h1, h2, h3, h4, h5, h6, h7, h8, h9, hA, -⟩, w1, -, w3, w4, w5⟩ := h
  obtain ⟨x1, x2, x3, x4, x5, x6⟩ := h2
  obtain ⟨y1, y2, y3, y4, y5, y6, y7, y8, y9, ya, yb⟩ := h3
  -- places below the pacts
  have lo : ∀ a k, a < 92 → a ≠ 71 → a ≠ 73 → a ≠ 74 → a ≠ 80 → a ≠ 89 → a ≠ 91 → mi M' a k = mi M a k := fun a k q1 q2 q3 q4 q5 q6 q7 => hi a k (by unfold PN; omega) (by omega) (by unfold slM; omega) (by unfold PMp; omega) (by omega) (by omega)
  have md : ∀ a k, 93 ≤ a → a < 130 → a ≠ 101 → mi M' a k = mi M a k := fun a k q1 q2 q3 => hi a k (by unfold PN; omega) (by omega) (by unfold slM; omega) (by unfold PMp; omega) (by omega) (by omega)
  have up : ∀ a k, 149 ≤ a → a < 158 → mi M' a k = mi M a k := fun a k q1 q2 => hi a k (by unfold PN; omega) (by omega) (by unfold slM; omega) (by unfold PMp; omega) (by omega) (by omega)
  have nw : ∀ a k, 159 ≤ a → a < L.1 → mi M' a k = mi M a k := fun a k q1 q2 => hi a k (by unfold PN; omega) (by omega) (by unfold slM; omega) (by unfold PMp; omega) (by omega) q2
  have p92 : ∀ k, (k = 28 ∨ k = 34 ∨ k = 37 ∨ k = 40 ∨ k = 41 ∨ k = 73 ∨ k = 80) → mi M' 92 k = mi M 92 k := fun k q => hi 92 k (by unfold PN; omega) (by omega) (by unfold slM; omega) (by unfold PMp; omega) (by omega) (by omega)
  have m80 : mi M' 80 0 = mi M 80 0 := hi 80 0 (by unfold PN; omega) (by omega) (by unfold slM; omega) (by unfold PMp; omega) (by omega) (by omega)
  have sl : ∀ q a k, q ≤ 23 → slM q a k → mi M' a k = mi M a k := fun q a k hq z => hi a k (by unfold slM at z; unfold PN; omega) (by unfold slM at z; omega) (by unfold slM at z ⊢; omega) (by unfold slM at z; unfold PMp; omega) (by unfold slM at z; omega) (by unfold slM at z; omega)
  have row : ∀ b, (b = 5 ∨ b = 40 ∨ 159 ≤ b) → b < L.1 → M'.1 b = M.1 b := fun b q1 q2 => funext fun k => by
    rcases q1 with q | q | q
    · exact lo b k (by omega) (by omega) (by omega) (by omega) (by omega) (by omega) (by omega)
    · exact lo b k (by omega) (by omega) (by omega) (by omega) (by omega) (by omega) (by omega)
    · exact nw b k q q2
  have rowp : ∀ b, 159 ≤ b → b < L.1 → M'.2.1 b = M.2.1 b := fun b q1 q2 => funext fun k => hp b k (by omega) q2
  have pw : ∀ k, k ≠ 12 → mp M' 1 k = mp M 1 k := fun k q => hp 1 k (by omega) (by omega)
  have HB' : HB M' t := by unfold HB at h8 ⊢; rw [md 99 0 (by omega) (by omega) (by omega)]; exact h8
  refine ⟨⟨h1, ⟨?_, ?_, ?_, ?_, hc, fun i q1 q2 => ?_⟩, ⟨?_, ?_, ?_, y4, y5, ?_, ?_, hm, fun d hd => ?_, fun j i hj q1 q2 => ?_, fun i q1 q2 => ?_⟩, h4, h5, ?_, ?_, HB', h9, hA, ho⟩, ?_, hT, ?_, ?_, ?_⟩
  · rw [vwC_eq (fun a k q1 q2 => lo a k (by omega) (by omega) (by omega) (by omega) (by omega) (by omega) (by omega)) (pw 11 (by decide))]; exact x1
  · rw [pw 9 (by decide)]; exact lawC_lay hE (lawC_cg (fun b q1 q2 => row b q1 q2) x2)
  · rw [pw 10 (by decide)]; exact lawC_lay hE (lawC_cg (fun b q1 q2 => row b q1 q2) x3)
  · rw [pw 11 (by decide)]; exact optC_lay hE (optC_cg (fun b q1 q2 => row b (Or.inr (Or.inr q1)) q2) rowp x4)
  · rw [lo _ _ (by unfold oA; omega) (by unfold oA; omega) (by unfold oA; omega) (by unfold oA; omega) (by unfold oA; omega) (by unfold oA; omega) (by unfold oA; omega)]; exact x6 i q1 q2
  · rw [vwM_cg (M := M) (fun a k q1 q2 q3 q4 _ _ _ _ _ _ _ _ _ _ => ?_)]
    · exact y1
    · by_cases z : a = 92
      · rw [z]; exact p92 k (by have := q3 z; omega)
      · exact md a k (by omega) (by omega) q4
  · rw [md _ _ (by omega) (by omega) (by omega)]; exact y2
  · rw [md _ _ (by omega) (by omega) (by omega)]; exact y3
  · rw [md _ _ (by omega) (by omega) (by omega), p92 40 (by simp), p92 41 (by simp)]; exact y6
  · rw [md 99 0 (by omega) (by omega) (by omega)]
    rcases y7 with q | ⟨q, P, e1, e2, e3, e4⟩
    · exact Or.inl q
    · refine Or.inr ⟨q, P, e1, e2, e3, pacM_cg (fun a j z => sl q a j ?_ z) e4⟩
      rcases h8 with w | ⟨q', w1, w2⟩
      · rw [e1, nI_m1 (by omega)] at w; exact absurd w id
      · have : q = q' := (nI_eq (by omega) (by omega)).mp (e1.symm.trans w1)
        omega
  · rw [md _ _ (by omega) (by omega) (by omega)]; exact y9 d hd
  · rw [md _ _ (by omega) (by omega) (by omega), md _ _ (by omega) (by omega) (by omega)]
    rw [p92 28 (by simp)] at q1
    exact ya j i hj q1 q2
  · rw [md _ _ (by omega) (by omega) (by omega)]; exact yb i q1 q2
  · exact z36_to h6 (Nat.le_refl _) (Nat.le_refl _) (fun a j q1 q2 => lo a j (by omega) (by omega) (by omega) (by omega) (by omega) (by omega) (by omega))
  · rw [lo _ _ (by omega) (by omega) (by omega) (by omega) (by omega) (by omega) (by omega)]; exact h7
  · refine WN_cg w1 (fun a k q => ?_)
    unfold PWn at q
    rcases q with q | q | q | q
    · exact lo a k (by omega) (by omega) (by omega) (by omega) (by omega) (by omega) (by omega)
    · exact lo a k (by omega) (by omega) (by omega) (by omega) (by omega) (by omega) (by omega)
    · rw [q.1, q.2]; exact p92 37 (by simp)
    · exact md a k (by omega) (by omega) (by omega)
  · obtain ⟨v1, v2⟩ := w3
    refine ⟨fun k hk => ?_, fun m hm => moP_lay hE ?_⟩
    · have l77 : ∀ a, 77 ≤ a → a ≤ 79 → mi M' a k = mi M a k := fun a q1 q2 => lo a k (by omega) (by omega) (by omega) (by omega) (by omega) (by omega) (by omega)
      rw [l77 77 (by omega) (by omega), l77 78 (by omega) (by omega), l77 79 (by omega) (by omega), md _ _ (by omega) (by omega) (by omega), md _ _ (by omega) (by omega) (by omega), up _ _ (by omega) (by omega)]
      exact v1 k hk
    · rcases v2 m hm with ⟨a, b⟩ | ⟨hm', a, q, P, e1, e2, e3, e4, e5⟩
      · exact Or.inl ⟨(hp 76 m (by omega) (by omega)).trans a, (md 128 m (by omega) (by omega) (by omega)).trans b⟩
      · exact Or.inr ⟨hm', a, q, P, (hp 76 m (by omega) (by omega)).trans e1, (md 128 m (by omega) (by omega) (by omega)).trans e2, e3, pacC_cg (fun b q1 q2 => row b (Or.inr (Or.inr q1)) q2) rowp e4, pacM_cg (fun b j z => sl q b j (by omega) z) e5⟩
  · refine RE_cg w4 (fun a k q => ?_)
    unfold PRe at q
    rcases q with q | q | q | q
    · rw [q.1, q.2]; exact m80
    · exact lo a k (by omega) (by omega) (by omega) (by omega) (by omega) (by omega) (by omega)
    · rw [q.1, q.2]; exact p92 73 (by simp)
    · exact up a k (by omega) (by omega)
  · refine SA_cg w5 (Nat.le_refl _) (fun a k q => ?_)
    unfold PSa at q
    rcases q with q | q | q
    · exact lo a k (by omega) (by omega) (by omega) (by omega) (by omega) (by omega) (by omega)
    · rw [q.1, q.2]; exact p92 80 (by simp)
    · exact up a k (by omega) (by omega)
theorem pOK_mt {s : pS} (h : s.2.2.2 = -1 ∨ ¬ s.2.2.2 < 0) : pOK (some (mtP s)) := fun P e => by
  cases e; exact h
-- the text on the tape
theorem tp_text {M : Mem} (h : TP M) : ∃ (n : Nat) (T : Nat → Nat), okT T n ∧ rdC M T n ∧ mi M 92 42 = nI n ∧ ∀ i, i < n → mi M 129 i = nI (T i) := by
  obtain ⟨n, h1, h2, h3, h4⟩ := h
  have ex : ∀ i, ∃ c : Nat, i < n → (c = 10 ∨ (32 ≤ c ∧ c ≤ 126)) ∧ mi M 129 i = nI c := fun i => by
    by_cases q : i < n
    · obtain ⟨-, c, c1, c2⟩ := h4 i q
      exact ⟨c, fun _ => ⟨c1, c2⟩⟩
    · exact ⟨0, fun z => absurd z q⟩
  refine ⟨n, fun i => (ex i).choose, ⟨h1, fun i hi => ((ex i).choose_spec hi).1⟩, ⟨h2, fun i hi => ?_⟩, h3, fun i hi => ((ex i).choose_spec hi).2⟩
  rw [(h4 i hi).1]; exact ((ex i).choose_spec hi).2
section JPC
variable {L : Lay} {M : Mem}
theorem j_pact {rc rs : Nat} (hL : 159 ≤ L.1) (h : RR L M) (hrc : 20 ≤ rc) (hrs : 9087 ≤ rs) : w_X11_pact L rc rs M (fun a L1 M1 => w_X12_pact L1 M1 (fun b M2 => a = b ∧ LE L L1 ∧ RR L1 M2)) := by
  obtain ⟨t, X, h⟩ := h
  obtain ⟨n, T, hT, hr, h42, h129⟩ := tp_text h.2.2.1
  have hn := hT.1
  unfold w_X11_pact
  refine ⟨rc, rs, Nat.le_refl _, Nat.le_refl _, c_rpact hT hL hr hrc hrs (fun o L1 M1 hC => ?_)⟩
  obtain ⟨c1, c2, c3, c4, c5⟩ := hC
  have g42 : mi M1 92 42 = nI n := (c2 _ _ (by unfold PEx; omega) (by omega) (by omega)).trans h42
  have g129 : ∀ i, i < n → mi M1 129 i = nI (T i) := fun i hi => (c2 _ _ (by unfold PEx; omega) (by omega) (by omega)).trans (h129 i hi)
  -- what the reference's pact leaves of the class's cells
  have nM : ∀ a k, (a < 92 ∨ 159 ≤ a) → ¬ (PMq a k ∨ slM 24 a k ∨ (a = 101 ∧ k = 0)) := fun a k q z => by unfold PMq PMp slM at z; omega
  rcases c5 with ⟨k, p, q1, q2, q3⟩ | ⟨s, a, q1, q2, q3, q4, q5⟩
  · subst q2
    refine ⟨fun _ => ?_, fun a z => absurd z (fun w => by cases w)⟩
    refine m_rpact hT g42 g129 (fun x M2 hm => ?_)
    obtain ⟨m42, ⟨k', p', e1, e2, F⟩ | ⟨s, e1, -⟩⟩ := hm
    · have e : k' = k ∧ p' = p := by rw [q1] at e1; cases e1; exact ⟨rfl, rfl⟩
      obtain ⟨rfl, rfl⟩ := e
      refine ⟨by rw [q3, e2], c1, t, _, RX_gr h hL c1 (fun a k z1 z2 z3 z4 z5 z6 => ?_) (fun a k _ z => (F.2 a k).trans (c3 a k z)) ⟨0, by omega, ?_, m42, fun i hi => absurd hi (by omega)⟩ ?_ ?_ h.1.2.2.2.2.2.2.2.2.2.2⟩
      · rw [F.1 a k (fun w => w.elim z4 (fun v => by unfold PN at z1; omega)), c2 a k (fun w => z1 (by unfold PEx at w; unfold PN; omega)) (by omega) z6]
      · rw [F.1 _ _ (by unfold PMq PMp; omega)]; exact c4
      · rw [F.2, c3 _ _ (by omega)]
        refine optC_lay c1 (optC_cg (fun b b1 b2 => funext fun k => ?_) (fun b b1 b2 => funext fun k => (F.2 b k).trans (c3 b k b2)) h.1.2.1.2.2.2.2.1)
        show mi M2 b k = mi M b k
        rw [F.1 b k (by unfold PMq PMp; omega), c2 b k (by unfold PEx; omega) (by omega) b2]
      · have hd := h.1.2.2.1.2.2.2.2.2.2.2.1
        have e101 : mi M2 101 0 = mi M 101 0 := by rw [F.1 _ _ (by unfold PMq PMp; omega), c2 _ _ (by unfold PEx; omega) (by omega) (by omega)]
        unfold hdM at hd ⊢
        rw [e101]
        rcases hd with q | ⟨q, P, e3, e4⟩
        · exact Or.inl q
        · refine Or.inr ⟨q, P, e3, pacM_cg (fun b j z => ?_) e4⟩
          rw [F.1 b j (by unfold slM at z; unfold PMq PMp; omega), c2 b j (by unfold slM at z; unfold PEx; omega) (by unfold slM at z; omega) (by unfold slM at z; omega)]
    · rw [q1] at e1; cases e1
  · subst q2
    refine ⟨fun z => absurd z (fun w => by cases w), fun a7 z M3 e3 => ?_⟩
    have i3 : ∀ b k, mi M3 b k = mi M1 b k := fun b k => by rw [e3, mi_sq]
    have p3 : ∀ b k, ¬ (b = 1 ∧ k = 12) → mp M3 b k = mp M1 b k := fun b k q => by rw [e3, mp_sq, if_neg q]
    refine m_rpact hT ((i3 _ _).trans g42) (fun i hi => (i3 _ _).trans (g129 i hi)) (fun x M2 hm => ?_)
    obtain ⟨m42, ⟨k', p', e1, -⟩ | ⟨s', e1, e2, F, e4, e5, e6⟩⟩ := hm
    · rw [q1] at e1; cases e1
    · have es : s' = s := by rw [q1] at e1; cases e1; rfl
      subst es
      have lo : ∀ b k, (b < 92 ∨ 159 ≤ b) → mi M2 b k = mi M1 b k := fun b k q => (F.1 b k (nM b k q)).trans (i3 b k)
      refine ⟨by rw [i3, q4, e2], c1, t, _, RX_gr (h' := some (mtP s')) h hL c1 (fun b k z1 z2 z3 z4 z5 z6 => ?_) (fun b k z1 z => ((F.2 b k).trans (p3 b k z1)).trans (c3 b k z)) ⟨0, by omega, ?_, m42, fun i hi => absurd hi (by omega)⟩ ?_ ?_ (pOK_mt e6)⟩
      · rw [F.1 b k (fun w => w.elim (fun v => v.elim z4 (fun v => by unfold PN at z1; omega)) (fun v => v.elim z3 z5)), i3, c2 b k (fun w => z1 (by unfold PEx at w; unfold PN; omega)) (by omega) z6]
      · rw [lo _ _ (by omega)]; exact c4
      · rw [F.2, e3, mp_sq, if_pos ⟨rfl, rfl⟩]
        refine Or.inr ⟨a, mtP s', rfl, rfl, pacC_cg (fun b b1 b2 => funext fun k => lo b k (by omega)) (fun b b1 b2 => funext fun k => ?_) (pcC_mt hn q5)⟩
        exact (F.2 b k).trans (p3 b k (by omega))
      · exact Or.inr ⟨e4, _, rfl, e5⟩
end JPC
