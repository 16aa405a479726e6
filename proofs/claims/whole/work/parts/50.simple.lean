-- LEVEL 3, part 34: the calls that tell one thing
def wi (p lo hi : Int32) : Prop := ¬ p < lo ∧ ¬ hi < p
theorem c_wiB {L : Lay} {p lo hi : Int32} {M : Mem} {A B : Mem → Prop} (h0 : ¬ wi p lo hi → A M) (h1 : wi p lo hi → B M) : w_X11_isWithin L p lo hi M (fun x M1 => (x = 0 → A M1) ∧ (¬ x = 0 → B M1)) := by
  intro x hx
  by_cases c : p < lo
  · rw [if_pos c] at hx; subst hx
    exact ⟨fun _ => h0 (fun z => z.1 c), fun q => absurd rfl q⟩
  · rw [if_neg c] at hx
    by_cases d : hi < p
    · rw [if_pos d] at hx; subst hx
      exact ⟨fun _ => h0 (fun z => z.2 d), fun q => absurd rfl q⟩
    · rw [if_neg d] at hx; subst hx
      exact ⟨fun q => absurd q (by decide), fun _ => h1 ⟨c, d⟩⟩
theorem m_wiB {L : Lay} {p lo hi : Int32} {M : Mem} {A B : Mem → Prop} (h0 : ¬ wi p lo hi → A M) (h1 : wi p lo hi → B M) : w_X12_within L p lo hi M (fun x M1 => (x = 0 → A M1) ∧ (¬ x = 0 → B M1)) := by
  intro x hx
  by_cases c : p < lo
  · rw [if_pos c] at hx; subst hx
    exact ⟨fun _ => h0 (fun z => z.1 c), fun q => absurd rfl q⟩
  · rw [if_neg c] at hx
    by_cases d : hi < p
    · rw [if_pos d] at hx; subst hx
      exact ⟨fun _ => h0 (fun z => z.2 d), fun q => absurd rfl q⟩
    · rw [if_neg d] at hx; subst hx
      exact ⟨fun q => absurd q (by decide), fun _ => h1 ⟨c, d⟩⟩
theorem wi_nI {p : Int32} {a b : Nat} (ha : a < 2 ^ 31) (hb : b < 2 ^ 31) (h : wi p (nI a) (nI b)) : ∃ k, a ≤ k ∧ k ≤ b ∧ p = nI k := by
  have h0 : ¬ p < 0 := fun q => h.1 (by
    have := nI_pos (n := a) ha
    rw [Int32.lt_iff_toInt_lt] at *; omega)
  obtain ⟨k, hk, rfl⟩ := nI_of h0
  obtain ⟨h1, h2⟩ := h
  rw [nI_lt' hk ha] at h1
  rw [nI_lt' hb hk] at h2
  exact ⟨k, by omega, by omega, rfl⟩
theorem wi_of {a b k : Nat} (hb : b < 2 ^ 31) (h1 : a ≤ k) (h2 : k ≤ b) : wi (nI k) (nI a) (nI b) := by
  constructor
  · rw [nI_lt' (by omega) (by omega)]; omega
  · rw [nI_lt' (by omega) (by omega)]; omega
def isN (n : Nat) (p : Int32) : Prop := ∃ o, o < n ∧ p = nI o
theorem isN_lt {n : Nat} {p : Int32} (hn : n < 2 ^ 31) : isN n p ↔ ¬ p < 0 ∧ p < nI n := by
  constructor
  · rintro ⟨o, ho, rfl⟩
    exact ⟨nI_pos (by omega), by rw [nI_lt' (by omega) hn]; exact ho⟩
  · rintro ⟨h1, h2⟩
    obtain ⟨k, hk, rfl⟩ := nI_of h1
    rw [nI_lt' hk hn] at h2
    exact ⟨k, h2, rfl⟩
theorem isN_wi {n : Nat} {p : Int32} (hn : n < 2 ^ 31) : wi p 0 (nI n - 1) ↔ isN n p := by
  constructor
  · intro h
    obtain ⟨k, hk, rfl⟩ := nI_of h.1
    have h2 := h.2
    cases n with
    | zero => exact absurd (show (nI 0 - 1 : Int32) < nI k from by
        rw [show (nI 0 - 1 : Int32) = -1 from by decide]
        have := nI_pos hk
        rw [Int32.lt_iff_toInt_lt] at *
        have : (-1 : Int32).toInt = -1 := rfl
        have : (0 : Int32).toInt = 0 := rfl
        omega) h2
    | succ n =>
      rw [show (1 : Int32) = nI 1 from rfl, pk_sub (by omega), Nat.add_sub_cancel, nI_lt' (by omega) hk] at h2
      exact ⟨k, by omega, rfl⟩
  · rintro ⟨o, ho, rfl⟩
    refine ⟨nI_pos (by omega), ?_⟩
    rw [show (1 : Int32) = nI 1 from rfl, pk_sub (by omega), nI_lt' (by omega) (by omega)]; omega
theorem c_ownB {L : Lay} {p : Int32} {n : Nat} {M : Mem} {A B : Mem → Prop} (hm : mi M 1 2 = nI n) (hn : n ≤ 10) (h0 : ¬ isN n p → A M) (h1 : isN n p → B M) : w_X11_isOwner L p M (fun x M1 => (x = 0 → A M1) ∧ (¬ x = 0 → B M1)) := by
  intro x hx
  rw [hm] at hx
  have e := isN_lt (n := n) (p := p) (by omega)
  by_cases c : p < 0
  · rw [if_pos c] at hx; subst hx
    exact ⟨fun _ => h0 (fun z => (e.mp z).1 c), fun q => absurd rfl q⟩
  · rw [if_neg c] at hx
    by_cases d : p < nI n
    · rw [if_pos d] at hx; subst hx
      exact ⟨fun q => absurd q (by decide), fun _ => h1 (e.mpr ⟨c, d⟩)⟩
    · rw [if_neg d] at hx; subst hx
      exact ⟨fun _ => h0 (fun z => d (e.mp z).2), fun q => absurd rfl q⟩
theorem m_ownB {L : Lay} {p : Int32} {n : Nat} {M : Mem} {A B : Mem → Prop} (hm : mi M 92 28 = nI n) (hn : n ≤ 10) (h0 : ¬ isN n p → A M) (h1 : isN n p → B M) : w_X12_isOwner L p M (fun x M1 => (x = 0 → A M1) ∧ (¬ x = 0 → B M1)) := by
  unfold w_X12_isOwner
  rw [hm]
  exact m_wiB (fun q => h0 (fun z => q ((isN_wi (by omega)).mpr z))) (fun q => h1 ((isN_wi (by omega)).mp q))
theorem c_shpB {L : Lay} {p : Int32} {n : Nat} {M : Mem} {A B : Mem → Prop} (hm : mi M 1 4 = nI n) (hn : n ≤ 10) (h0 : ¬ isN n p → A M) (h1 : isN n p → B M) : w_X11_isShip L p M (fun x M1 => (x = 0 → A M1) ∧ (¬ x = 0 → B M1)) := by
  intro x hx
  rw [hm] at hx
  have e := isN_lt (n := n) (p := p) (by omega)
  by_cases c : p < 0
  · rw [if_pos c] at hx; subst hx
    exact ⟨fun _ => h0 (fun z => (e.mp z).1 c), fun q => absurd rfl q⟩
  · rw [if_neg c] at hx
    by_cases d : p < nI n
    · rw [if_pos d] at hx; subst hx
      exact ⟨fun q => absurd q (by decide), fun _ => h1 (e.mpr ⟨c, d⟩)⟩
    · rw [if_neg d] at hx; subst hx
      exact ⟨fun _ => h0 (fun z => d (e.mp z).2), fun q => absurd rfl q⟩
-- a change of the world's numbers on both sides
def PU (a k : Nat) : Prop := PN a k ∨ (1 ≤ a ∧ a < 36 ∧ a ≠ 5 ∧ ¬ (a = 1 ∧ k = 14) ∧ ¬ (10 ≤ a ∧ a < 20 ∧ k = 8)) ∨ (a = 92 ∧ (k = 28 ∨ k = 34)) ∨ (93 < a ∧ a < 99) ∨ a = 100 ∨ (105 ≤ a ∧ a < 117 ∧ a ≠ 109) ∨ (120 ≤ a ∧ a < 127)
theorem RX_upd {L : Lay} {M M' : Mem} {t : Nat} {X : WS} {S' : SS} (h : RX L M t X) (hC : vwC 1 M' = S') (hM : vwM 0 M' = S') (hok : okX t (S', X.2)) (hz : zrX S') (hl : lfX S') (hn : tn (X.1 28 0) ≤ tn (S' 28 0)) (hs : tn (X.1 34 0) ≤ tn (S' 34 0)) (hF : FJ PU M M') : RX L M' t (S', X.2) := by
  obtain ⟨⟨h1, h2, h3, h4, h5, h6, h7, h8, h9⟩, hR⟩ := h
  have e28 : mi M 92 28 = X.1 28 0 := by rw [rM_28 (s := 0), h3.1]
  have e28' : mi M' 92 28 = S' 28 0 := by rw [rM_28 (s := 0), hM]
  refine ⟨⟨h1, ?_, ?_, hok, hz, ?_, ?_, ?_, hl, h9.2⟩, ?_⟩
  · refine wsC_to h2 rfl hC (fun a k q => hF.1 a k (by unfold PU PN; omega)) (fun a k _ => hF.mp) (fun i q1 q2 => ?_)
    rw [hF.1 _ _ (by unfold PU PN oA; omega)]
    exact h2.2.2.2.2.2 i (Nat.le_trans hn q1) q2
  · refine wsM_to h3 rfl hM (fun a k q => hF.1 a k (by unfold PU PN; omega)) (by rw [e28, e28']; exact hn) (fun i q1 q2 => ?_)
    rw [hF.1 _ _ (by unfold PU PN; omega)]
    exact h3.2.2.2.2.2.2.2.2.2.2 i (Nat.le_trans hn q1) q2
  · exact z36_to h6 hn hs (fun a j q1 q2 => hF.1 _ _ (by unfold PU PN; omega))
  · rw [hF.1 _ _ (by unfold PU PN; omega)]; exact h7
  · unfold HB; rw [hF.1 _ _ (by unfold PU PN; omega)]; exact h8
  · exact RT_cg hR hn (fun a k q => hF.1 a k (by unfold PU PN; unfold PRt at q; omega)) (fun a k _ => hF.mp)
theorem ok_u {t f i : Nat} {S : SS} {x : Int32} {Y : (Int32 × Int32) × (Int32 × Int32) × Option Pc × Option Pc} (h : okX t (S, Y)) (hf : f ≠ 28 ∧ f ≠ 34 ∧ f ≠ 93 ∧ f ≠ 94 ∧ f ≠ 95 ∧ f ≠ 109 ∧ f ≠ 111 ∧ f ≠ 113 ∧ f ≠ 115 ∧ f ≠ 116 ∧ f ≠ 120 ∧ f ≠ 121 ∧ f ≠ 125) : okX t (u2 S f i x, Y) := by
  obtain ⟨h1, h2, h3⟩ := h
  refine ⟨?_, ?_, fun j => ?_⟩
  · refine gd_cong (Nat.le_refl _) ?_ ?_ ?_ ?_ ?_ ?_ ?_ ?_ ?_ ?_ ?_ ?_ h1 <;> (try intro k) <;> exact u2_f (by omega)
  · show u2 S f i x 93 0 = _
    rw [u2_f (by omega)]; exact h2
  · show ¬ u2 S f i x 109 j < 0
    rw [u2_f (by omega)]; exact h3 j
theorem zr_u {f i : Nat} {S : SS} {x : Int32} (h : zrX S) (hf : f ≠ 28 ∧ f ≠ 34) (hi : ¬ tlS (tn (S 28 0)) (tn (S 34 0)) f i) : zrX (u2 S f i x) := by
  intro g j q
  rw [u2_f (g := 28) (by omega), u2_f (g := 34) (by omega)] at q
  rw [u2_def, if_neg (fun z => hi (by rw [← z.1, ← z.2]; exact q))]
  exact h g j q
theorem lf_u {f i : Nat} {S : SS} {x : Int32} (h : lfX S) (hf : f ≠ 112 ∧ f ≠ 114) : lfX (u2 S f i x) := fun k hk => by
  unfold lfK
  rw [u2_f (g := 112) (by omega), u2_f (g := 114) (by omega)]; exact h k hk
theorem u2_cnt {f i : Nat} {S : SS} {x : Int32} (hf : f ≠ 28 ∧ f ≠ 34) : tn (S 28 0) ≤ tn (u2 S f i x 28 0) ∧ tn (S 34 0) ≤ tn (u2 S f i x 34 0) := by
  rw [u2_f (g := 28) (by omega), u2_f (g := 34) (by omega)]; exact ⟨Nat.le_refl _, Nat.le_refl _⟩
-- a single number
theorem RX_one {L : Lay} {M M' : Mem} {t f i : Nat} {x : Int32} {X : WS} (h : RX L M t X) (hC : vwC 1 M' = u2 (vwC 1 M) f i x) (hM : vwM 0 M' = u2 (vwM 0 M) f i x) (hf : f ≠ 28 ∧ f ≠ 34 ∧ f ≠ 93 ∧ f ≠ 94 ∧ f ≠ 95 ∧ f ≠ 109 ∧ f ≠ 111 ∧ f ≠ 113 ∧ f ≠ 115 ∧ f ≠ 116 ∧ f ≠ 120 ∧ f ≠ 121 ∧ f ≠ 125) (hf2 : f ≠ 112 ∧ f ≠ 114) (hi : ¬ tlS (tn (X.1 28 0)) (tn (X.1 34 0)) f i) (hF : FJ PU M M') : RX L M' t (u2 X.1 f i x, X.2) := by
  have c := u2_cnt (S := X.1) (i := i) (x := x) (f := f) ⟨hf.1, hf.2.1⟩
  refine RX_upd h ?_ ?_ (ok_u h.1.2.2.2.1 hf) (zr_u h.1.2.2.2.2.1 ⟨hf.1, hf.2.1⟩ hi) (lf_u h.1.2.2.2.2.2.2.2.2.1 hf2) c.1 c.2 hF
  · rw [hC, h.1.2.1.1]
  · rw [hM, h.1.2.2.1.1]
section SIM
variable {L : Lay} {M : Mem}
theorem j_digs {p0 p1 : Int32} (h : RR L M) : w_X11_digs L p0 p1 M (fun a M1 => w_X12_digs L p0 p1 M1 (fun b M2 => a = b ∧ RR L M2)) := by
  obtain ⟨t, X, h⟩ := h
  obtain ⟨⟨n1, n2, n3⟩, -⟩ := RX_n h
  have no : ∀ M1 : Mem, M1 = si M 92 0 0 → RR L M1 := fun M1 e => by subst e; exact RR_th ⟨t, X, h⟩
  unfold w_X11_digs
  refine c_ownB n1 n3 (fun q => ?_) (fun q => c_wiB (fun r => ?_) (fun r => ?_))
  · unfold w_X12_digs
    intro M1 e
    refine m_ownB (n := tn (X.1 28 0)) (by rw [e]; exact n2) n3 (fun _ => ⟨rfl, no M1 e⟩) (fun z => absurd z q)
  · unfold w_X12_digs
    intro M1 e
    refine m_ownB (n := tn (X.1 28 0)) (by rw [e]; exact n2) n3 (fun _ => ⟨rfl, no M1 e⟩) (fun _ => m_wiB (fun _ => ⟨rfl, no M1 e⟩) (fun z => absurd z r))
  · obtain ⟨o, ho, rfl⟩ := q
    rw [tn_nI (by omega)]
    refine ⟨vp_in_nI (by omega) (by decide), fun M8 e8 => ?_⟩
    unfold w_X12_digs
    intro M1 e
    have n2' : mi M1 92 28 = nI (tn (X.1 28 0)) := by rw [e, mi_si, if_neg (by omega), e8, mi_si, if_neg (by unfold oA; omega)]; exact n2
    refine m_ownB n2' n3 (fun z => absurd ⟨o, ho, rfl⟩ z) (fun _ => m_wiB (fun z => absurd r z) (fun _ => ?_))
    rw [tn_nI (by omega)]
    refine ⟨vp_in_nI (by omega) (by decide), fun M9 e9 => ⟨rfl, t, _, RX_one (f := 122) (i := o) (x := p1) h ?_ ?_ (by decide) (by decide) (by unfold tlS; omega) ?_⟩⟩
    · rw [e9, e, e8, vwC_far (by omega), vwC_far (by omega), sC_122 (by omega)]
    · rw [e9, e, e8, sM_122 (by omega), vwM_out (by omega), vwM_out (by unfold oA; omega)]
    · rw [e9, e, e8]
      exact ((FJ.rf.si (by unfold PU oA; omega)).si (by unfold PU PN; omega)).si (by unfold PU; omega)
theorem j_rebate {p0 p1 : Int32} (h : RR L M) : w_X11_rebate L p0 p1 M (fun a M1 => w_X12_rebate L p0 p1 M1 (fun b M2 => a = b ∧ RR L M2)) := by
  obtain ⟨t, X, h⟩ := h
  obtain ⟨⟨n1, n2, n3⟩, -⟩ := RX_n h
  have no : ∀ M1 : Mem, M1 = si M 92 0 0 → RR L M1 := fun M1 e => by subst e; exact RR_th ⟨t, X, h⟩
  unfold w_X11_rebate
  refine c_ownB n1 n3 (fun q => ?_) (fun q => c_wiB (fun r => ?_) (fun r => ?_))
  · unfold w_X12_rebate
    intro M1 e
    refine m_ownB (n := tn (X.1 28 0)) (by rw [e]; exact n2) n3 (fun _ => ⟨rfl, no M1 e⟩) (fun z => absurd z q)
  · unfold w_X12_rebate
    intro M1 e
    refine m_ownB (n := tn (X.1 28 0)) (by rw [e]; exact n2) n3 (fun _ => ⟨rfl, no M1 e⟩) (fun _ => m_wiB (fun _ => ⟨rfl, no M1 e⟩) (fun z => absurd z r))
  · obtain ⟨o, ho, rfl⟩ := q
    rw [tn_nI (by omega)]
    refine ⟨vp_in_nI (by omega) (by decide), fun M8 e8 => ?_⟩
    unfold w_X12_rebate
    intro M1 e
    have n2' : mi M1 92 28 = nI (tn (X.1 28 0)) := by rw [e, mi_si, if_neg (by omega), e8, mi_si, if_neg (by unfold oA; omega)]; exact n2
    refine m_ownB n2' n3 (fun z => absurd ⟨o, ho, rfl⟩ z) (fun _ => m_wiB (fun z => absurd r z) (fun _ => ?_))
    rw [tn_nI (by omega)]
    refine ⟨vp_in_nI (by omega) (by decide), fun M9 e9 => ⟨rfl, t, _, RX_one (f := 124) (i := o) (x := p1) h ?_ ?_ (by decide) (by decide) (by unfold tlS; omega) ?_⟩⟩
    · rw [e9, e, e8, vwC_far (by omega), vwC_far (by omega), sC_124 (by omega)]
    · rw [e9, e, e8, sM_124 (by omega), vwM_out (by omega), vwM_out (by unfold oA; omega)]
    · rw [e9, e, e8]
      exact ((FJ.rf.si (by unfold PU oA; omega)).si (by unfold PU PN; omega)).si (by unfold PU; omega)
theorem j_breaker {p0 p1 : Int32} (hb : BZ p1) (h : RR L M) : w_X11_breaker L p0 p1 M (fun a M1 => w_X12_breaker L p0 p1 M1 (fun b M2 => a = b ∧ RR L M2)) := by
  obtain ⟨t, X, h⟩ := h
  obtain ⟨⟨n1, n2, n3⟩, -⟩ := RX_n h
  have no : ∀ M1 : Mem, M1 = si M 92 0 0 → RR L M1 := fun M1 e => by subst e; exact RR_th ⟨t, X, h⟩
  unfold w_X11_breaker
  refine c_ownB n1 n3 (fun q => ?_) (fun q => ?_)
  · unfold w_X12_breaker
    intro M1 e
    refine m_ownB (n := tn (X.1 28 0)) (by rw [e]; exact n2) n3 (fun _ => ⟨rfl, no M1 e⟩) (fun z => absurd z q)
  · obtain ⟨o, ho, rfl⟩ := q
    rw [tn_nI (by omega)]
    refine ⟨vp_in_nI (by omega) (by decide), hb, fun M8 e8 => ?_⟩
    unfold w_X12_breaker
    intro M1 e
    have n2' : mi M1 92 28 = nI (tn (X.1 28 0)) := by rw [e, mi_si, if_neg (by omega), e8, mi_si, if_neg (by unfold oA; omega)]; exact n2
    refine m_ownB n2' n3 (fun z => absurd ⟨o, ho, rfl⟩ z) (fun _ => ?_)
    rw [tn_nI (by omega), narZ_B hb]
    have hok : okX t (u2 X.1 111 o p1, X.2) := by
      obtain ⟨⟨g1, g2, g3, g4, g5, g6, g7, g8, g9, ga, gb, gc⟩, k2, k3⟩ := h.1.2.2.2.1
      have z : ∀ f i, f ≠ 111 → u2 X.1 111 o p1 f i = X.1 f i := fun f i q => u2_f q
      refine ⟨?_, (z 93 0 (by decide)).trans k2, fun i => by show ¬ u2 X.1 111 o p1 109 i < 0; rw [z 109 i (by decide)]; exact k3 i⟩
      show gdT t (u2 X.1 111 o p1)
      unfold gdT shG
      simp only [z 28 _ (by decide), z 34 _ (by decide), z 93 _ (by decide), z 94 _ (by decide), z 95 _ (by decide), z 113 _ (by decide), z 115 _ (by decide), z 116 _ (by decide), z 120 _ (by decide), z 121 _ (by decide), z 125 _ (by decide)]
      refine ⟨g1, g2, g3, g4, g5, g6, g7, g8, g9, ga, gb, fun j hj => ⟨(gc j hj).1, (gc j hj).2.1, ?_⟩⟩
      by_cases c : j = o
      · subst c; rw [u2_s]; exact hb
      · rw [u2_i c]; exact (gc j hj).2.2
    have c := u2_cnt (S := X.1) (i := o) (x := p1) (f := 111) (by decide)
    refine ⟨vp_in_nI (by omega) (by decide), fun M9 e9 => ⟨rfl, t, _, RX_upd h ?_ ?_ hok (zr_u h.1.2.2.2.2.1 (by decide) (by unfold tlS; omega)) (lf_u h.1.2.2.2.2.2.2.2.2.1 (by decide)) c.1 c.2 ?_⟩⟩
    · rw [e9, e, e8, vwC_far (by omega), vwC_far (by omega), sC_111 (by omega), h.1.2.1.1]
    · have s := sM_111 (s := 0) (i := o) (M := si (si M (oA 1 o) 5 p1) 92 0 0) (x := p1) (by omega)
      rw [Nat.mul_zero, Nat.zero_add] at s
      rw [e9, e, e8, s, vwM_out (by omega), vwM_out (by unfold oA; omega), h.1.2.2.1.1]
    · rw [e9, e, e8]
      exact ((FJ.rf.si (by unfold PU oA; omega)).si (by unfold PU PN; omega)).si (by unfold PU; omega)
theorem j_keels {p0 : Int32} (h : RR L M) : w_X11_keels L p0 M (fun a M1 => w_X12_keels L p0 M1 (fun b M2 => a = b ∧ RR L M2)) := by
  obtain ⟨t, X, h⟩ := h
  have no : ∀ M1 : Mem, M1 = si M 92 0 0 → RR L M1 := fun M1 e => by subst e; exact RR_th ⟨t, X, h⟩
  unfold w_X11_keels
  refine c_wiB (fun q => ?_) (fun q => ?_)
  · unfold w_X12_keels
    intro M1 e
    exact m_wiB (fun _ => ⟨rfl, no M1 e⟩) (fun z => absurd z q)
  · intro M4 e4
    unfold w_X12_keels
    intro M1 e
    refine m_wiB (fun z => absurd q z) (fun _ M5 e5 => ⟨rfl, t, (u2 X.1 94 0 p0, X.2), ?_⟩)
    obtain ⟨k, -, hk, rfl⟩ := wi_nI (a := 0) (b := 6) (by decide) (by decide) q
    have hok : okX t (u2 X.1 94 0 (nI k), X.2) := by
      obtain ⟨⟨g1, g2, g3, g4, g5, g6, g7, g8, g9, ga, gb, gc⟩, k2, k3⟩ := h.1.2.2.2.1
      have z : ∀ f i, f ≠ 94 → u2 X.1 94 0 (nI k) f i = X.1 f i := fun f i q => u2_f q
      refine ⟨?_, (z 93 0 (by decide)).trans k2, fun i => by show ¬ u2 X.1 94 0 (nI k) 109 i < 0; rw [z 109 i (by decide)]; exact k3 i⟩
      show gdT t (u2 X.1 94 0 (nI k))
      unfold gdT shG
      simp only [z 28 _ (by decide), z 34 _ (by decide), z 93 _ (by decide), z 111 _ (by decide), z 95 _ (by decide), z 113 _ (by decide), z 115 _ (by decide), z 116 _ (by decide), z 120 _ (by decide), z 121 _ (by decide), z 125 _ (by decide), u2_s, tn_nI (show k < 2 ^ 31 by omega)]
      exact ⟨g1, g2, g3, g4, g5, g6, trivial, hk, g9, ga, gb, gc⟩
    have c := u2_cnt (S := X.1) (i := 0) (x := nI k) (f := 94) (by decide)
    refine RX_upd h ?_ ?_ hok (zr_u h.1.2.2.2.2.1 (by decide) (by unfold tlS; omega)) (lf_u h.1.2.2.2.2.2.2.2.2.1 (by decide)) c.1 c.2 ?_
    · rw [e5, e, e4, vwC_far (by omega), vwC_far (by omega), sC_94, h.1.2.1.1]
    · rw [e5, e, e4, sM_94, vwM_out (by omega), vwM_out (by omega), h.1.2.2.1.1]
    · rw [e5, e, e4]
      exact ((FJ.rf.si (by unfold PU; omega)).si (by unfold PU PN; omega)).si (by unfold PU; omega)
theorem j_city {p0 p1 p2 : Int32} (h : RR L M) : w_X11_city L p0 p1 p2 M (fun a M1 => w_X12_city L p0 p1 p2 M1 (fun b M2 => a = b ∧ RR L M2)) := by
  obtain ⟨t, X, h⟩ := h
  have no : ∀ M1 : Mem, M1 = si M 92 0 0 → RR L M1 := fun M1 e => by subst e; exact RR_th ⟨t, X, h⟩
  unfold w_X11_city
  refine c_wiB (fun q => ?_) (fun q => c_wiB (fun q2 => ?_) (fun q2 => c_wiB (fun q3 => ?_) (fun q3 => ?_)))
  · unfold w_X12_city
    intro M1 e
    exact m_wiB (fun _ => ⟨rfl, no M1 e⟩) (fun z => absurd z q)
  · unfold w_X12_city
    intro M1 e
    exact m_wiB (fun _ => ⟨rfl, no M1 e⟩) (fun _ => m_wiB (fun _ => ⟨rfl, no M1 e⟩) (fun z => absurd z q2))
  · unfold w_X12_city
    intro M1 e
    exact m_wiB (fun _ => ⟨rfl, no M1 e⟩) (fun _ => m_wiB (fun _ => ⟨rfl, no M1 e⟩) (fun _ => m_wiB (fun _ => ⟨rfl, no M1 e⟩) (fun z => absurd z q3)))
  · intro M4 e4 M5 e5 M6 e6
    unfold w_X12_city
    intro M1 e
    refine m_wiB (fun z => absurd q z) (fun _ => m_wiB (fun z => absurd q2 z) (fun _ => m_wiB (fun z => absurd q3 z) (fun _ M7 e7 M8 e8 M9 e9 => ⟨rfl, t, (u2 (u2 (u2 X.1 96 0 p0) 97 0 p1) 98 0 p2, X.2), ?_⟩)))
    have a1 := ok_u (f := 96) (i := 0) (x := p0) h.1.2.2.2.1 (by decide)
    have a2 := ok_u (f := 97) (i := 0) (x := p1) a1 (by decide)
    have a3 := ok_u (f := 98) (i := 0) (x := p2) a2 (by decide)
    have z1 := zr_u (f := 96) (i := 0) (x := p0) h.1.2.2.2.2.1 (by decide) (by unfold tlS; omega)
    have z2 := zr_u (f := 97) (i := 0) (x := p1) z1 (by decide) (by unfold tlS; omega)
    have z3 := zr_u (f := 98) (i := 0) (x := p2) z2 (by decide) (by unfold tlS; omega)
    refine RX_upd h ?_ ?_ a3 z3 (lf_u (lf_u (lf_u h.1.2.2.2.2.2.2.2.2.1 (by decide)) (by decide)) (by decide)) (by rw [u2_f (by decide), u2_f (by decide), u2_f (by decide)]; exact Nat.le_refl _) (by rw [u2_f (by decide), u2_f (by decide), u2_f (by decide)]; exact Nat.le_refl _) ?_
    · rw [e9, e8, e7, e, e6, e5, e4, vwC_far (by omega), vwC_far (by omega), vwC_far (by omega), vwC_far (by omega), show (4 : Nat) = 1 + 3 from rfl, sC_98, sC_97, sC_96, h.1.2.1.1]
    · rw [e9, e8, e7, e, e6, e5, e4, sM_98, sM_97, sM_96, vwM_out (by omega), vwM_out (by omega), vwM_out (by omega), vwM_out (by omega), h.1.2.2.1.1]
    · rw [e9, e8, e7, e, e6, e5, e4]
      exact ((((((FJ.rf.si (by unfold PU; omega)).si (by unfold PU; omega)).si (by unfold PU; omega)).si (by unfold PU PN; omega)).si (by unfold PU; omega)).si (by unfold PU; omega)).si (by unfold PU; omega)
theorem j_price {p0 : Int32} (h : RR L M) : w_X11_price L p0 M (fun a M1 => w_X12_price L p0 M1 (fun b M2 => a = b ∧ RR L M2)) := by
  have h' := h
  obtain ⟨t, X, h⟩ := h
  have no : ∀ M1 : Mem, M1 = si M 92 0 0 → RR L M1 := fun M1 e => by subst e; exact RR_th h'
  unfold w_X11_price
  refine c_wiB (fun q => ?_) (fun q => ?_)
  · unfold w_X12_price
    intro M1 e
    exact m_wiB (fun _ => ⟨rfl, no M1 e⟩) (fun z => absurd z q)
  · refine c_price (w := 1) ?_
    unfold w_X12_price
    intro M1 e
    refine m_wiB (fun z => absurd q z) (fun _ => m_price (s := 0) (by decide) ⟨?_, no M1 e⟩)
    rw [e, vwM_out (by omega), h.1.2.1.1, h.1.2.2.1.1]
end SIM
