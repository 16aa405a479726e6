-- LEVEL 3, part 35: more calls that tell or show one thing
theorem c_wiV {L : Lay} {p lo hi : Int32} {M : Mem} {Q : Int32 → Mem → Prop} (h0 : ¬ wi p lo hi → Q 0 M) (h1 : wi p lo hi → Q 1 M) : w_X11_isWithin L p lo hi M Q := by
  intro x hx
  by_cases c : p < lo
  · rw [if_pos c] at hx; subst hx; exact h0 (fun z => z.1 c)
  · rw [if_neg c] at hx
    by_cases d : hi < p
    · rw [if_pos d] at hx; subst hx; exact h0 (fun z => z.2 d)
    · rw [if_neg d] at hx; subst hx; exact h1 ⟨c, d⟩
theorem m_wiV {L : Lay} {p lo hi : Int32} {M : Mem} {Q : Int32 → Mem → Prop} (h0 : ¬ wi p lo hi → Q 0 M) (h1 : wi p lo hi → Q 1 M) : w_X12_within L p lo hi M Q := by
  intro x hx
  by_cases c : p < lo
  · rw [if_pos c] at hx; subst hx; exact h0 (fun z => z.1 c)
  · rw [if_neg c] at hx
    by_cases d : hi < p
    · rw [if_pos d] at hx; subst hx; exact h0 (fun z => z.2 d)
    · rw [if_neg d] at hx; subst hx; exact h1 ⟨c, d⟩
theorem c_ovB {L : Lay} {p : Int32} {t : Nat} {M : Mem} {A B : Mem → Prop} (hm : mi M 1 0 = nI t) (ht : t ≤ 720) (h0 : ¬ isN (t / 30) p → A M) (h1 : isN (t / 30) p → B M) : w_X11_isOver L p M (fun x M1 => (x = 0 → A M1) ∧ (¬ x = 0 → B M1)) := by
  unfold w_X11_isOver
  have e := isN_lt (n := t / 30) (p := p) (by omega)
  rw [hm, show (30 : Int32) = nI 30 from rfl, pk_div (by omega) (by omega) (by omega)]
  refine ⟨fun c => ⟨fun _ => h0 (fun z => (e.mp z).1 c), fun q => absurd rfl q⟩, fun c x hx => ?_⟩
  by_cases d : p < nI (t / 30)
  · rw [if_pos d] at hx; subst hx
    exact ⟨fun q => absurd q (by decide), fun _ => h1 (e.mpr ⟨c, d⟩)⟩
  · rw [if_neg d] at hx; subst hx
    exact ⟨fun _ => h0 (fun z => d (e.mp z).2), fun q => absurd rfl q⟩
theorem m_ovB {L : Lay} {p0 p1 : Int32} {n t : Nat} {M : Mem} {A B : Mem → Prop} (h28 : mi M 92 28 = nI n) (hn : n ≤ 10) (hm : mi M 93 0 = nI t) (ht : t ≤ 720) (h0 : ¬ (isN n p0 ∧ isN (t / 30) p1) → A M) (h1 : isN n p0 → isN (t / 30) p1 → B M) :
    w_X12_isOver L p0 p1 M (fun x M1 => (x = 0 → A M1) ∧ (¬ x = 0 → B M1)) := by
  unfold w_X12_isOver
  refine m_ownB h28 hn (fun q => ⟨fun _ => h0 (fun z => q z.1), fun z => absurd rfl z⟩) (fun q => m_wiV (fun r x hx => ?_) (fun r x hx => ?_))
  · rw [if_pos rfl] at hx; subst hx
    refine ⟨fun _ => h0 (fun z => r ?_), fun z => absurd rfl z⟩
    obtain ⟨m, h2, rfl⟩ := z.2
    exact wi_of (a := 0) (b := 23) (by decide) (by omega) (by omega)
  · rw [if_neg (by decide)] at hx
    obtain ⟨m, -, h2, rfl⟩ := wi_nI (a := 0) (b := 23) (by decide) (by decide) r
    rw [hm, show (30 : Int32) = nI 30 from rfl, pk_mul, nI_add] at hx
    have el := nI_ltI (a := t) (b := 30 * m + 30) (by omega) (by omega)
    by_cases c : t < 30 * m + 30
    · rw [if_pos (el.mpr c)] at hx; subst hx
      refine ⟨fun _ => h0 (fun z => ?_), fun z => absurd rfl z⟩
      obtain ⟨m', h3, e⟩ := z.2
      have := (nI_eq (by omega) (by omega)).mp e
      omega
    · rw [if_neg (fun y => c (el.mp y))] at hx; subst hx
      exact ⟨fun z => absurd z (by decide), fun _ => h1 q ⟨m, by omega, rfl⟩⟩
theorem m_shB {L : Lay} {p : Int32} {n : Nat} {M : Mem} {A B : Mem → Prop} (hm : mi M 92 34 = nI n) (hn : n ≤ 10) (h0 : ¬ isN n p → A M) (h1 : isN n p → B M) : w_X12_within L p 0 (mi M 92 34 - 1) M (fun x M1 => (x = 0 → A M1) ∧ (¬ x = 0 → B M1)) := by
  rw [hm]
  exact m_wiB (fun q => h0 (fun z => q ((isN_wi (by omega)).mpr z))) (fun q => h1 ((isN_wi (by omega)).mp q))
section TEL
variable {L : Lay} {M : Mem}
theorem j_owner {p0 p1 p2 p3 : Int32} (h : RR L M) : w_X11_owner L p0 p1 p2 p3 M (fun a M1 => w_X12_owner L p0 p1 p2 p3 M1 (fun b M2 => a = b ∧ RR L M2)) := by
  obtain ⟨t, X, h⟩ := h
  obtain ⟨⟨n1, n2, n3⟩, -, -, -, -, n4, -⟩ := RX_n h
  have no : ∀ M1 : Mem, M1 = si M 92 0 0 → RR L M1 := fun M1 e => by subst e; exact RR_th ⟨t, X, h⟩
  have bad : ∀ (x11 : Int32) (M1 : Mem), ¬ (wi p0 0 4 ∧ wi p1 1 999 ∧ wi p2 0 99 ∧ wi p3 0 99 ∧ tn (X.1 28 0) < 10) → x11 = -1 → M1 = M → w_X12_owner L p0 p1 p2 p3 M1 (fun b M2 => x11 = b ∧ RR L M2) := fun x M1 q e1 e2 => by
    subst e2
    unfold w_X12_owner
    intro M2 e
    refine m_wiB (fun _ => ⟨e1, no M2 e⟩) (fun q1 => m_wiB (fun _ => ⟨e1, no M2 e⟩) (fun q2 => m_wiB (fun _ => ⟨e1, no M2 e⟩) (fun q3 => m_wiB (fun _ => ⟨e1, no M2 e⟩) (fun q4 => ?_))))
    have n2' : mi M2 92 28 = nI (tn (X.1 28 0)) := by rw [e]; exact n2
    rw [n2', show (10 : Int32) = nI 10 from rfl, nI_eq' (by omega) (by decide)]
    exact ⟨fun _ => ⟨e1, no M2 e⟩, fun z => absurd ⟨q1, q2, q3, q4, by omega⟩ q⟩
  unfold w_X11_owner
  refine c_wiB (fun q => ?_) (fun q1 => c_wiB (fun q => ?_) (fun q2 => c_wiB (fun q => ?_) (fun q3 => c_wiV (fun q x hx => ?_) (fun q4 x hx => ?_))))
  · unfold w_X11_owner_45 w_X11_owner_46
    exact ⟨fun _ => bad _ _ (fun z => q z.1) rfl rfl, fun z => absurd rfl z⟩
  · unfold w_X11_owner_45 w_X11_owner_46
    exact ⟨fun _ => bad _ _ (fun z => q z.2.1) rfl rfl, fun z => absurd rfl z⟩
  · unfold w_X11_owner_45 w_X11_owner_46
    exact ⟨fun _ => bad _ _ (fun z => q z.2.2.1) rfl rfl, fun z => absurd rfl z⟩
  · rw [if_pos rfl] at hx; subst hx
    exact ⟨fun _ => bad _ _ (fun z => q z.2.2.2.1) rfl rfl, fun z => absurd rfl z⟩
  · rw [if_neg (by decide)] at hx; subst hx
    refine ⟨fun z => absurd z (by decide), fun _ => ?_⟩
    rw [n1, show (10 : Int32) = nI 10 from rfl, nI_lt' (by omega) (by decide), tn_nI (n := tn (X.1 28 0)) (by omega)]
    refine ⟨fun hlt => ⟨vp_in_nI (by omega) (by decide), fun M1 e1 M2 e2 M3 e3 M4 e4 M5 e5 => ?_⟩, fun z => bad _ _ (fun w => z w.2.2.2.2) rfl rfl⟩
    obtain ⟨a0, -, a04, rfl⟩ := wi_nI (a := 0) (b := 4) (by decide) (by decide) q1
    obtain ⟨a1, a11, a12, rfl⟩ := wi_nI (a := 1) (b := 999) (by decide) (by decide) q2
    generalize hnn : tn (X.1 28 0) = n at *
    have c4 : mi M4 1 2 = nI n := by rw [e4, e3, e2, e1, mi_si, if_neg (by unfold oA; omega), mi_si, if_neg (by unfold oA; omega), mi_si, if_neg (by unfold oA; omega), mi_si, if_neg (by unfold oA; omega)]; exact n1
    have FC5 : FJ PU M M5 := by
      rw [e5, e4, e3, e2, e1]
      exact ((((FJ.rf.si (by unfold PU oA; omega)).si (by unfold PU oA; omega)).si (by unfold PU oA; omega)).si (by unfold PU oA; omega)).si (by unfold PU; omega)
    have v5 : vwC 1 M5 = u2 (u2 (u2 (u2 (u2 X.1 120 n (nI a0)) 121 n (nI a1)) 122 n p2) 123 n p3) 28 0 (nI (n + 1)) := by
      rw [e5, c4, nI_1, sC_28, e4, sC_123 (by omega), e3, sC_122 (by omega), e2, sC_121 (by omega), e1, sC_120 (by omega), h.1.2.1.1]
    have w5 : vwM 0 M5 = vwM 0 M := by rw [e5, vwM_out (by omega), e4, vwM_out (by unfold oA; omega), e3, vwM_out (by unfold oA; omega), e2, vwM_out (by unfold oA; omega), e1, vwM_out (by unfold oA; omega)]
    unfold w_X12_owner
    intro M6 e6
    refine m_wiB (fun z => absurd q1 z) (fun _ => m_wiB (fun z => absurd q2 z) (fun _ => m_wiB (fun z => absurd q3 z) (fun _ => m_wiB (fun z => absurd q4 z) (fun _ => ?_))))
    have n6 : mi M6 92 28 = nI n := by rw [e6, mi_si, if_neg (by omega), e5, mi_si, if_neg (by omega), e4, mi_si, if_neg (by omega), e3, mi_si, if_neg (by omega), e2, mi_si, if_neg (by omega), e1, mi_si, if_neg (by omega)]; exact n2
    rw [n6, show (10 : Int32) = nI 10 from rfl, nI_eq' (by omega) (by decide), tn_nI (n := n) (by omega)]
    refine ⟨fun z => absurd z (by omega), fun _ => ⟨vp_in_nI (by omega) (by decide), fun M7 e7 => ?_⟩⟩
    have n7 : mi M7 92 28 = nI n := by rw [e7, mi_si, if_neg (by omega)]; exact n6
    rw [n7, tn_nI (n := n) (by omega)]
    refine ⟨vp_in_nI (by omega) (by decide), fun M8 e8 => ?_⟩
    have n8 : mi M8 92 28 = nI n := by rw [e8, mi_si, if_neg (by omega)]; exact n7
    rw [n8, tn_nI (n := n) (by omega)]
    refine ⟨vp_in_nI (by omega) (by decide), fun M9 e9 => ?_⟩
    have n9 : mi M9 92 28 = nI n := by rw [e9, mi_si, if_neg (by omega)]; exact n8
    rw [n9, tn_nI (n := n) (by omega)]
    refine ⟨vp_in_nI (by omega) (by decide), fun MA eA MB eB => ?_⟩
    have nA : mi MA 92 28 = nI n := by rw [eA, mi_si, if_neg (by omega)]; exact n9
    rw [nA, nI_1] at eB
    have nB : mi MB 92 28 = nI (n + 1) := by rw [eB, mi_si, if_pos ⟨rfl, rfl⟩]
    have vB : vwM 0 MB = u2 (u2 (u2 (u2 (u2 X.1 120 n (nI a0)) 121 n (nI a1)) 122 n p2) 123 n p3) 28 0 (nI (n + 1)) := by
      rw [eB, sM_28, eA, sM_123 (by omega), e9, sM_122 (by omega), e8, sM_121 (by omega), e7, sM_120 (by omega), e6, vwM_out (by omega), w5, h.1.2.2.1.1]
    have vB1 : vwC 1 MB = vwC 1 M5 := by rw [eB, vwC_far (by omega), eA, vwC_far (by omega), e9, vwC_far (by omega), e8, vwC_far (by omega), e7, vwC_far (by omega), e6, vwC_far (by omega)]
    have FB : FJ PU M MB := by
      rw [eB, eA, e9, e8, e7, e6]
      exact (((((FC5.si (by unfold PU PN; omega)).si (by unfold PU; omega)).si (by unfold PU; omega)).si (by unfold PU; omega)).si (by unfold PU; omega)).si (by unfold PU; omega)
    rw [v5] at vB1
    have hX := h.1
    obtain ⟨-, -, -, ⟨⟨g1, g2, g3, g4, g5, g6, g7, g8, g9, ga, gb, gc⟩, k2, k3⟩, kz, -, -, -, kl, -⟩ := hX
    have z : ∀ f i, f ≠ 120 → f ≠ 121 → f ≠ 122 → f ≠ 123 → f ≠ 28 → u2 (u2 (u2 (u2 (u2 X.1 120 n (nI a0)) 121 n (nI a1)) 122 n p2) 123 n p3) 28 0 (nI (n + 1)) f i = X.1 f i := fun f i c1 c2 c3 c4 c5 => by
      rw [u2_f c5, u2_f c4, u2_f c3, u2_f c2, u2_f c1]
    have zi : ∀ f i, f ≠ 28 → i ≠ n → u2 (u2 (u2 (u2 (u2 X.1 120 n (nI a0)) 121 n (nI a1)) 122 n p2) 123 n p3) 28 0 (nI (n + 1)) f i = X.1 f i := fun f i c1 c2 => by
      rw [u2_f c1, u2_i c2, u2_i c2, u2_i c2, u2_i c2]
    have z28 : u2 (u2 (u2 (u2 (u2 X.1 120 n (nI a0)) 121 n (nI a1)) 122 n p2) 123 n p3) 28 0 (nI (n + 1)) 28 0 = nI (n + 1) := u2_s
    have z120 : u2 (u2 (u2 (u2 (u2 X.1 120 n (nI a0)) 121 n (nI a1)) 122 n p2) 123 n p3) 28 0 (nI (n + 1)) 120 n = nI a0 := by rw [u2_f (by decide), u2_f (by decide), u2_f (by decide), u2_f (by decide), u2_s]
    have z121 : u2 (u2 (u2 (u2 (u2 X.1 120 n (nI a0)) 121 n (nI a1)) 122 n p2) 123 n p3) 28 0 (nI (n + 1)) 121 n = nI a1 := by rw [u2_f (by decide), u2_f (by decide), u2_f (by decide), u2_s]
    generalize u2 (u2 (u2 (u2 (u2 X.1 120 n (nI a0)) 121 n (nI a1)) 122 n p2) 123 n p3) 28 0 (nI (n + 1)) = S' at *
    rw [hnn] at ga
    have t28 : tn (S' 28 0) = n + 1 := by rw [z28, tn_nI (by omega)]
    have zd : ∀ f i, (f = 34 ∨ f = 93 ∨ f = 94 ∨ f = 95 ∨ f = 109 ∨ f = 111 ∨ f = 112 ∨ f = 113 ∨ f = 114 ∨ f = 115 ∨ f = 116 ∨ f = 125) → S' f i = X.1 f i := fun f i q => z f i (by omega) (by omega) (by omega) (by omega) (by omega)
    have hok : okX t (S', X.2) := by
      refine ⟨?_, (zd 93 0 (by simp)).trans k2, fun i => by show ¬ S' 109 i < 0; rw [zd 109 i (by simp)]; exact k3 i⟩
      show gdT t S'
      unfold gdT shG
      rw [t28, z28, zd 34 0 (by simp), zd 93 0 (by simp), zd 94 0 (by simp), zd 95 0 (by simp)]
      refine ⟨rfl, by omega, g3, g4, g5, g6, g7, g8, g9, by omega, fun k hk => ?_, fun o ho => ?_⟩
      · have := gb k hk
        unfold shG at this
        rw [hnn] at this
        rw [zd 113 k (by simp), zd 115 k (by simp), zd 125 k (by simp)]
        refine ⟨this.1, this.2.1, this.2.2.1, this.2.2.2.1, this.2.2.2.2.1, this.2.2.2.2.2.1, fun i hi => ?_⟩
        rw [zd 116 _ (by simp)]
        have := this.2.2.2.2.2.2 i hi
        exact ⟨this.1, by omega⟩
      · rw [zd 111 o (by simp)]
        by_cases c : o = n
        · subst c; rw [z120, z121]; exact ⟨nI_pos (by omega), nI_pos (by omega), (gc o ho).2.2⟩
        · rw [zi 120 o (by decide) c, zi 121 o (by decide) c]; exact gc o ho
    have hz : zrX S' := fun f i q => by
      rw [t28, zd 34 0 (by simp)] at q
      by_cases c2 : i = n
      · rw [z f i (by intro w; unfold tlS at q; omega) (by intro w; unfold tlS at q; omega) (by intro w; unfold tlS at q; omega) (by intro w; unfold tlS at q; omega) (by intro w; unfold tlS at q; omega)]
        exact kz f i (by rw [hnn]; unfold tlS at *; omega)
      · rw [zi f i (by intro w; unfold tlS at q; omega) c2]
        exact kz f i (by rw [hnn]; unfold tlS at *; omega)
    have hlf : lfX S' := fun k hk => by
      unfold lfK
      rw [zd 112 k (by simp), zd 114 k (by simp)]; exact kl k hk
    refine ⟨?_, t, (S', X.2), RX_upd h vB1 vB hok hz hlf (by rw [t28, hnn]; omega) (by rw [zd 34 0 (by simp)]; exact Nat.le_refl _) FB⟩
    rw [c4, nB, show (1 : Int32) = nI 1 from rfl, pk_sub (by omega), Nat.add_sub_cancel]
theorem j_ship {p0 p1 : Int32} (h : RR L M) : w_X11_ship L p0 p1 M (fun a M1 => w_X12_ship L p0 p1 M1 (fun b M2 => a = b ∧ RR L M2)) := by
  obtain ⟨t, X, h⟩ := h
  obtain ⟨-, ⟨n1, n2, n3⟩, n93, m93, n720, -, n4⟩ := RX_n h
  have no : ∀ M1 : Mem, M1 = si M 92 0 0 → RR L M1 := fun M1 e => by subst e; exact RR_th ⟨t, X, h⟩
  have bad : ∀ (x11 : Int32) (M1 : Mem), ¬ (wi p0 8 96 ∧ wi p1 0 4 ∧ tn (X.1 34 0) < 8) → x11 = -1 → M1 = M → w_X12_ship L p0 p1 M1 (fun b M2 => x11 = b ∧ RR L M2) := fun x M1 q e1 e2 => by
    subst e2
    unfold w_X12_ship
    intro M2 e
    refine m_wiB (fun _ => ⟨e1, no M2 e⟩) (fun q1 => m_wiB (fun _ => ⟨e1, no M2 e⟩) (fun q2 => ?_))
    have n2' : mi M2 92 34 = nI (tn (X.1 34 0)) := by rw [e]; exact n2
    rw [n2', show (8 : Int32) = nI 8 from rfl, nI_eq' (by omega) (by decide)]
    exact ⟨fun _ => ⟨e1, no M2 e⟩, fun z => absurd ⟨q1, q2, by omega⟩ q⟩
  unfold w_X11_ship
  refine c_wiB (fun q => bad _ _ (fun z => q z.1) rfl rfl) (fun q1 => c_wiB (fun q => bad _ _ (fun z => q z.2.1) rfl rfl) (fun q2 => ?_))
  have n1' := n1
  rw [n1, show (8 : Int32) = nI 8 from rfl, nI_lt' (by omega) (by decide), tn_nI (n := tn (X.1 34 0)) (by omega)]
  refine ⟨fun hlt => ⟨vp_in_nI (by omega) (by decide), fun M1 e1 M2 e2 M3 e3 M4 e4 => ?_⟩, fun z => bad _ _ (fun w => z w.2.2) rfl rfl⟩
  obtain ⟨a0, a01, a04, rfl⟩ := wi_nI (a := 8) (b := 96) (by decide) (by decide) q1
  generalize hnn : tn (X.1 34 0) = n at *
  have c2 : mi M2 1 0 = nI t := by rw [e2, mi_si, if_neg (by unfold sA; omega), e1, mi_si, if_neg (by unfold sA; omega)]; exact n93
  rw [c2] at e3
  have c3 : mi M3 1 4 = nI n := by rw [e3, mi_si, if_neg (by unfold sA; omega), e2, mi_si, if_neg (by unfold sA; omega), e1, mi_si, if_neg (by unfold sA; omega)]; exact n1'
  rw [c3, nI_1] at e4
  have FC4 : FJ PU M M4 := by
    rw [e4, e3, e2, e1]
    exact (((FJ.rf.si (by unfold PU sA; omega)).si (by unfold PU sA; omega)).si (by unfold PU sA; omega)).si (by unfold PU; omega)
  have v4 : vwC 1 M4 = u2 (u2 (u2 (u2 X.1 125 n (nI a0)) 126 n p1) 115 n (nI t)) 34 0 (nI (n + 1)) := by
    rw [e4, sC_34, e3, sC_115 (by omega), e2, sC_126 (by omega), e1, sC_125 (by omega), h.1.2.1.1]
  have w4 : vwM 0 M4 = vwM 0 M := by rw [e4, vwM_out (by omega), e3, vwM_out (by unfold sA; omega), e2, vwM_out (by unfold sA; omega), e1, vwM_out (by unfold sA; omega)]
  unfold w_X12_ship
  intro M6 e6
  refine m_wiB (fun z => absurd q1 z) (fun _ => m_wiB (fun z => absurd q2 z) (fun _ => ?_))
  have n6 : mi M6 92 34 = nI n := by rw [e6, mi_si, if_neg (by omega), e4, mi_si, if_neg (by omega), e3, mi_si, if_neg (by unfold sA; omega), e2, mi_si, if_neg (by unfold sA; omega), e1, mi_si, if_neg (by unfold sA; omega)]; exact n2
  rw [n6, show (8 : Int32) = nI 8 from rfl, nI_eq' (by omega) (by decide), tn_nI (n := n) (by omega)]
  refine ⟨fun z => absurd z (by omega), fun _ => ⟨vp_in_nI (by omega) (by decide), fun M7 e7 => ?_⟩⟩
  have n7 : mi M7 92 34 = nI n := by rw [e7, mi_si, if_neg (by omega)]; exact n6
  rw [n7, tn_nI (n := n) (by omega)]
  refine ⟨vp_in_nI (by omega) (by decide), fun M8 e8 => ?_⟩
  have n8 : mi M8 92 34 = nI n := by rw [e8, mi_si, if_neg (by omega)]; exact n7
  have d8 : mi M8 93 0 = nI t := by rw [e8, mi_si, if_neg (by omega), e7, mi_si, if_neg (by omega), e6, mi_si, if_neg (by omega), e4, mi_si, if_neg (by omega), e3, mi_si, if_neg (by unfold sA; omega), e2, mi_si, if_neg (by unfold sA; omega), e1, mi_si, if_neg (by unfold sA; omega)]; exact m93
  rw [n8, d8, tn_nI (n := n) (by omega)]
  refine ⟨vp_in_nI (by omega) (by decide), fun M9 e9 MB eB => ?_⟩
  have n9 : mi M9 92 34 = nI n := by rw [e9, mi_si, if_neg (by omega)]; exact n8
  rw [n9, nI_1] at eB
  have nB : mi MB 92 34 = nI (n + 1) := by rw [eB, mi_si, if_pos ⟨rfl, rfl⟩]
  have vB : vwM 0 MB = u2 (u2 (u2 (u2 X.1 125 n (nI a0)) 126 n p1) 115 n (nI t)) 34 0 (nI (n + 1)) := by
    have s := sM_115 (s := 0) (i := n) (M := M8) (x := nI t) (by omega)
    rw [Nat.mul_zero, Nat.zero_add] at s
    rw [eB, sM_34, e9, s, e8, sM_126 (by omega), e7, sM_125 (by omega), e6, vwM_out (by omega), w4, h.1.2.2.1.1]
  have vB1 : vwC 1 MB = vwC 1 M4 := by rw [eB, vwC_far (by omega), e9, vwC_far (by omega), e8, vwC_far (by omega), e7, vwC_far (by omega), e6, vwC_far (by omega)]
  have FB : FJ PU M MB := by
    rw [eB, e9, e8, e7, e6]
    exact ((((FC4.si (by unfold PU PN; omega)).si (by unfold PU; omega)).si (by unfold PU; omega)).si (by unfold PU; omega)).si (by unfold PU; omega)
  rw [v4] at vB1
  have hX := h.1
  obtain ⟨-, -, -, ⟨⟨g1, g2, g3, g4, g5, g6, g7, g8, g9, ga, gb, gc⟩, k2, k3⟩, kz, -, -, -, kl, -⟩ := hX
  have z : ∀ f i, f ≠ 125 → f ≠ 126 → f ≠ 115 → f ≠ 34 → u2 (u2 (u2 (u2 X.1 125 n (nI a0)) 126 n p1) 115 n (nI t)) 34 0 (nI (n + 1)) f i = X.1 f i := fun f i c1 c2 c3 c4 => by
    rw [u2_f c4, u2_f c3, u2_f c2, u2_f c1]
  have zi : ∀ f i, f ≠ 34 → i ≠ n → u2 (u2 (u2 (u2 X.1 125 n (nI a0)) 126 n p1) 115 n (nI t)) 34 0 (nI (n + 1)) f i = X.1 f i := fun f i c1 c2 => by
    rw [u2_f c1, u2_i c2, u2_i c2, u2_i c2]
  have z34 : u2 (u2 (u2 (u2 X.1 125 n (nI a0)) 126 n p1) 115 n (nI t)) 34 0 (nI (n + 1)) 34 0 = nI (n + 1) := u2_s
  have z125 : u2 (u2 (u2 (u2 X.1 125 n (nI a0)) 126 n p1) 115 n (nI t)) 34 0 (nI (n + 1)) 125 n = nI a0 := by rw [u2_f (by decide), u2_f (by decide), u2_f (by decide), u2_s]
  have z115 : u2 (u2 (u2 (u2 X.1 125 n (nI a0)) 126 n p1) 115 n (nI t)) 34 0 (nI (n + 1)) 115 n = nI t := by rw [u2_f (by decide), u2_s]
  generalize u2 (u2 (u2 (u2 X.1 125 n (nI a0)) 126 n p1) 115 n (nI t)) 34 0 (nI (n + 1)) = S' at *
  have t34 : tn (S' 34 0) = n + 1 := by rw [z34, tn_nI (by omega)]
  have zd : ∀ f i, (f = 28 ∨ f = 93 ∨ f = 94 ∨ f = 95 ∨ f = 109 ∨ f = 111 ∨ f = 112 ∨ f = 113 ∨ f = 114 ∨ f = 116 ∨ f = 120 ∨ f = 121) → S' f i = X.1 f i := fun f i q => z f i (by omega) (by omega) (by omega) (by omega)
  have hok : okX t (S', X.2) := by
    refine ⟨?_, (zd 93 0 (by simp)).trans k2, fun i => by show ¬ S' 109 i < 0; rw [zd 109 i (by simp)]; exact k3 i⟩
    show gdT t S'
    unfold gdT shG
    rw [t34, z34, zd 28 0 (by simp), zd 93 0 (by simp), zd 94 0 (by simp), zd 95 0 (by simp)]
    refine ⟨g1, g2, rfl, by omega, g5, g6, g7, g8, g9, ga, fun k hk => ?_, fun o ho => ?_⟩
    · have := gb k hk
      unfold shG at this
      rw [zd 113 k (by simp)]
      have e116 : ∀ i, S' 116 i = X.1 116 i := fun i => zd 116 i (by simp)
      by_cases c : k = n
      · subst c
        have e0 : X.1 113 k = 0 := kz 113 k (by rw [hnn]; unfold tlS; omega)
        rw [z115, z125, e0, tn_nI (n := a0) (by omega), tn_nI (n := t) (by omega)]
        refine ⟨rfl, rfl, ?_, by omega, rfl, Nat.le_refl _, fun i hi => absurd hi ?_⟩
        · rw [show tn (0 : Int32) = 0 from rfl]; omega
        · rw [show tn (0 : Int32) = 0 from rfl]; omega
      · rw [zi 115 k (by decide) c, zi 125 k (by decide) c]
        refine ⟨this.1, this.2.1, this.2.2.1, this.2.2.2.1, this.2.2.2.2.1, this.2.2.2.2.2.1, fun i hi => ?_⟩
        rw [e116]
        exact this.2.2.2.2.2.2 i hi
    · rw [zd 111 o (by simp), zd 120 o (by simp), zd 121 o (by simp)]; exact gc o ho
  have hz : zrX S' := fun f i q => by
    rw [t34, zd 28 0 (by simp)] at q
    by_cases c : f = 34 ∨ f = 28
    · exfalso; unfold tlS at q; omega
    · by_cases c2 : i = n
      · rw [z f i (by intro w; unfold tlS at q; omega) (by intro w; unfold tlS at q; omega) (by intro w; unfold tlS at q; omega) (by omega)]
        exact kz f i (by rw [hnn]; unfold tlS at *; omega)
      · rw [zi f i (by omega) c2]
        exact kz f i (by rw [hnn]; unfold tlS at *; omega)
  have hlf : lfX S' := fun k hk => by
    unfold lfK
    rw [zd 112 k (by simp), zd 114 k (by simp)]; exact kl k hk
  refine ⟨?_, t, (S', X.2), RX_upd h vB1 vB hok hz hlf (by rw [zd 28 0 (by simp)]; exact Nat.le_refl _) (by rw [t34, hnn]; omega) FB⟩
  rw [c3, nB, show (1 : Int32) = nI 1 from rfl, pk_sub (by omega), Nat.add_sub_cancel]
theorem j_month {p0 p1 p2 : Int32} (h : RR L M) : w_X11_month L p0 p1 p2 M (fun a M1 => w_X12_month L p0 p1 p2 M1 (fun b M2 => a = b ∧ RR L M2)) := by
  have h' := h
  obtain ⟨t, X, h⟩ := h
  obtain ⟨⟨n1, n2, n3⟩, -, n93, m93, n720, -⟩ := RX_n h
  have no : ∀ M1 : Mem, M1 = si M 92 0 0 → RR L M1 := fun M1 e => by subst e; exact RR_th h'
  have bad : ∀ M1 : Mem, ¬ ((isN (tn (X.1 28 0)) p0 ∧ isN (t / 30) p1) ∧ wi p2 0 1) → M1 = M → w_X12_month L p0 p1 p2 M1 (fun b M2 => -1 = b ∧ RR L M2) := fun M1 q e2 => by
    subst e2
    unfold w_X12_month
    intro M2 e
    refine m_ovB (n := tn (X.1 28 0)) (t := t) (by rw [e]; exact n2) n3 (by rw [e]; exact m93) n720 (fun _ => ⟨rfl, no M2 e⟩) (fun r1 r2 => m_wiB (fun _ => ⟨rfl, no M2 e⟩) (fun r3 => absurd ⟨⟨r1, r2⟩, r3⟩ q))
  unfold w_X11_month
  refine c_ownB n1 n3 (fun q => bad _ (fun z => q z.1.1) rfl) (fun q1 => c_ovB n93 n720 (fun q => bad _ (fun z => q z.1.2) rfl) (fun q2 => c_wiB (fun q => bad _ (fun z => q z.2) rfl) (fun q3 => ?_)))
  obtain ⟨o, ho, rfl⟩ := q1
  obtain ⟨m, hm, rfl⟩ := q2
  have ec : nI m * 10 + nI o = nI (10 * m + o) := by rw [show (10 : Int32) = nI 10 from rfl, pk_mul, nI_add, Nat.mul_comm]
  have em : (10 : Int32) * nI m + nI o = nI (10 * m + o) := by rw [show (10 : Int32) = nI 10 from rfl, pk_mul, nI_add]
  obtain ⟨mo1, mo2⟩ := h.2.2.2.1
  have mk := mo1 (10 * m + o) (by omega)
  have run : ∀ (a : Int32) (B : Mem → Prop), (∀ M1 : Mem, M1 = si M 92 0 0 → ((p2 = 0 → vp_in (nI (10 * m + o)) 480 ∧ (a = mi M1 117 (10 * m + o) ∧ RR L M1)) ∧ (¬ p2 = 0 → vp_in (nI m) 24 ∧ ((mi M1 128 m < 0 → a = -1 ∧ RR L M1) ∧ (¬ mi M1 128 m < 0 → vp_in (nI (10 * m + o)) 480 ∧ (a = jmax 0 (mi M1 118 (10 * m + o)) ∧ RR L M1)))))) →
      w_X12_month L (nI o) (nI m) p2 M (fun b M2 => a = b ∧ RR L M2) := fun a B hh => by
    unfold w_X12_month
    intro M2 e
    refine m_ovB (n := tn (X.1 28 0)) (t := t) (by rw [e]; exact n2) n3 (by rw [e]; exact m93) n720 (fun z => absurd ⟨⟨o, ho, rfl⟩, ⟨m, hm, rfl⟩⟩ z) (fun r1 r2 => m_wiB (fun z => absurd q3 z) (fun r3 => ?_))
    rw [em, tn_nI (n := 10 * m + o) (by omega), tn_nI (n := m) (by omega)]
    exact hh M2 e
  unfold w_X2_place
  dsimp only
  rw [ec, tn_nI (n := 10 * m + o) (by omega), tn_nI (n := m) (by omega)]
  refine ⟨fun z => ⟨vp_in_nI (by omega) (by decide), run _ (fun _ => True) (fun M1 e => ⟨fun _ => ⟨vp_in_nI (by omega) (by decide), ?_, no M1 e⟩, fun w => absurd z w⟩)⟩, fun z => ⟨vp_in_nI (by omega) (by decide), fun w => run _ (fun _ => True) (fun M1 e => ⟨fun w => absurd w z, fun _ => ⟨vp_in_nI (by omega) (by decide), fun _ => ⟨rfl, no M1 e⟩, fun y => absurd ?_ y⟩⟩), fun a w => ⟨vp_in_nI (by omega) (by decide), run _ (fun _ => True) (fun M1 e => ⟨fun w => absurd w z, fun _ => ⟨vp_in_nI (by omega) (by decide), fun y => absurd y ?_, fun _ => ⟨vp_in_nI (by omega) (by decide), ?_, no M1 e⟩⟩⟩)⟩⟩⟩
  · rw [e]; exact mk.1
  · rw [e]
    show mi M 128 m < 0
    rcases mo2 m (by omega) with ⟨-, y1⟩ | ⟨-, a, q, P, y1, -⟩
    · rw [y1]; decide
    · rw [w] at y1; cases y1
  · rw [e]
    show ¬ mi M 128 m < 0
    rcases mo2 m (by omega) with ⟨y1, -⟩ | ⟨-, a, q, P, y1, y2, y3, -⟩
    · rw [w] at y1; cases y1
    · rw [y2]; exact nI_pos (by omega)
  · rw [e]; exact mk.2.1
theorem j_load {p0 p1 : Int32} (h : RR L M) : w_X11_load L p0 p1 M (fun a M1 => w_X12_load L p0 p1 M1 (fun b M2 => a = b ∧ RR L M2)) := by
  have h' := h
  obtain ⟨t, X, h⟩ := h
  obtain ⟨-, ⟨n1, n2, n3⟩, -⟩ := RX_n h
  have no : ∀ M1 : Mem, M1 = si M 92 0 0 → RR L M1 := fun M1 e => by subst e; exact RR_th h'
  unfold w_X11_load
  refine c_shpB n1 (by omega) (fun q => ?_) (fun q => ?_)
  · unfold w_X12_load
    intro M1 e
    exact m_shB (n := tn (X.1 34 0)) (by rw [e]; exact n2) (by omega) (fun _ => ⟨rfl, no M1 e⟩) (fun z => absurd z q)
  · obtain ⟨s, hs, rfl⟩ := q
    have hg := h.1.2.2.2.1.1
    obtain ⟨s1, s2, s3, s4, -, -, s5⟩ := hg.2.2.2.2.2.2.2.2.2.2.1 s (by omega)
    have e13 : mi M (sA 1 s) 5 = nI (tn (X.1 113 s)) := by rw [rC_113 (by omega), h.1.2.1.1]; exact s1
    have m13 : mi M 113 s = nI (tn (X.1 113 s)) := by
      have := rM_113 (s := 0) (i := s) (M := M) (by omega)
      rw [Nat.mul_zero, Nat.zero_add] at this
      rw [this, h.1.2.2.1.1]; exact s1
    have run : ∀ (a : Int32), ((¬ isN (tn (X.1 113 s)) p1 → a = -1) ∧ ∀ i, i < tn (X.1 113 s) → p1 = nI i → a = X.1 116 (12 * s + i)) → w_X12_load L (nI s) p1 M (fun b M2 => a = b ∧ RR L M2) := fun a hh => by
      unfold w_X12_load
      intro M1 e
      refine m_shB (n := tn (X.1 34 0)) (by rw [e]; exact n2) (by omega) (fun z => absurd ⟨s, hs, rfl⟩ z) (fun _ => ⟨vp_in_nI (by omega) (by decide), ?_⟩)
      rw [tn_nI (n := s) (by omega), show mi M1 113 s = nI (tn (X.1 113 s)) from by rw [e]; exact m13]
      refine m_wiB (fun z => ⟨hh.1 (fun y => z ((isN_wi (by omega)).mpr y)), no M1 e⟩) (fun z => ?_)
      obtain ⟨i, hi, rfl⟩ := (isN_wi (by omega)).mp z
      rw [show (12 : Int32) = nI 12 from rfl, pk_mul, nI_add, tn_nI (n := 12 * s + i) (by omega)]
      refine ⟨vp_in_nI (by omega) (by decide), ?_, no M1 e⟩
      have := rM_116 (s := 0) (i := 12 * s + i) (M := M) (by omega)
      rw [Nat.mul_zero, Nat.zero_add] at this
      rw [hh.2 i hi rfl, e, mi_si, if_neg (by omega), this, h.1.2.2.1.1]
    rw [tn_nI (n := s) (by omega), e13]
    refine ⟨fun z => run _ ⟨fun _ => rfl, fun i hi e => absurd z (by rw [e]; exact nI_pos (by omega))⟩, fun z => ⟨vp_in_nI (by omega) (by decide), fun w => ?_, fun w => run _ ⟨fun _ => rfl, fun i hi e => absurd (by rw [e, nI_lt' (by omega) (by omega)]; exact hi) w⟩⟩⟩
    obtain ⟨i, hi, rfl⟩ := (isN_lt (n := tn (X.1 113 s)) (by omega)).mpr ⟨z, w⟩
    rw [tn_nI (n := i) (by omega)]
    refine ⟨vp_in_nI (by omega) (by decide), run _ ⟨fun y => absurd ⟨i, hi, rfl⟩ y, fun j hj e => ?_⟩⟩
    have := (nI_eq (by omega) (by omega)).mp e
    subst this
    rw [rC_116 (by omega) (by omega), h.1.2.1.1]
theorem j_lies {p0 p1 : Int32} (h : RR L M) : w_X11_lies L p0 p1 M (fun a M1 => w_X12_lies L p0 p1 M1 (fun b M2 => a = b ∧ RR L M2)) := by
  have h' := h
  obtain ⟨t, X, h⟩ := h
  obtain ⟨-, ⟨n1, n2, n3⟩, -⟩ := RX_n h
  have no : ∀ M1 : Mem, M1 = si M 92 0 0 → RR L M1 := fun M1 e => by subst e; exact RR_th h'
  unfold w_X11_lies
  refine c_shpB n1 (by omega) (fun q => ?_) (fun q => ?_)
  · unfold w_X12_lies
    intro M1 e
    exact m_shB (n := tn (X.1 34 0)) (by rw [e]; exact n2) (by omega) (fun _ => ⟨rfl, no M1 e⟩) (fun z => absurd z q)
  · obtain ⟨s, hs, rfl⟩ := q
    have c12 : mi M (sA 1 s) 2 = X.1 112 s := by rw [rC_112 (by omega), h.1.2.1.1]
    have c13 : mi M (sA 1 s) 5 = X.1 113 s := by rw [rC_113 (by omega), h.1.2.1.1]
    have c14 : mi M (sA 1 s) 3 = X.1 114 s := by rw [rC_114 (by omega), h.1.2.1.1]
    have c15 : mi M (sA 1 s) 4 = X.1 115 s := by rw [rC_115 (by omega), h.1.2.1.1]
    have d12 : mi M 112 s = X.1 112 s := by
      have := rM_112 (s := 0) (i := s) (M := M) (by omega)
      rw [Nat.mul_zero, Nat.zero_add] at this
      rw [this, h.1.2.2.1.1]
    have d13 : mi M 113 s = X.1 113 s := by
      have := rM_113 (s := 0) (i := s) (M := M) (by omega)
      rw [Nat.mul_zero, Nat.zero_add] at this
      rw [this, h.1.2.2.1.1]
    have d14 : mi M 114 s = X.1 114 s := by
      have := rM_114 (s := 0) (i := s) (M := M) (by omega)
      rw [Nat.mul_zero, Nat.zero_add] at this
      rw [this, h.1.2.2.1.1]
    have d15 : mi M 115 s = X.1 115 s := by
      have := rM_115 (s := 0) (i := s) (M := M) (by omega)
      rw [Nat.mul_zero, Nat.zero_add] at this
      rw [this, h.1.2.2.1.1]
    have lf := h.1.2.2.2.2.2.2.2.2.1 s (by omega)
    have run : ∀ (a : Int32), ((p1 = 0 → a = X.1 112 s) ∧ (p1 = 1 → a = X.1 113 s) ∧ (p1 = 2 → a = X.1 114 s) ∧ (p1 = 3 → a = X.1 115 s) ∧ (¬ p1 = 0 → ¬ p1 = 1 → ¬ p1 = 2 → ¬ p1 = 3 → a = -1)) → w_X12_lies L (nI s) p1 M (fun b M2 => a = b ∧ RR L M2) := fun a hh => by
      unfold w_X12_lies
      intro M1 e
      refine m_shB (n := tn (X.1 34 0)) (by rw [e]; exact n2) (by omega) (fun z => absurd ⟨s, hs, rfl⟩ z) (fun _ => m_wiB (fun z => ⟨?_, no M1 e⟩) (fun z => ?_))
      · refine hh.2.2.2.2 (fun y => z ?_) (fun y => z ?_) (fun y => z ?_) (fun y => z ?_)
        · rw [y]; exact wi_of (a := 0) (b := 3) (k := 0) (by decide) (by decide) (by decide)
        · rw [y]; exact wi_of (a := 0) (b := 3) (k := 1) (by decide) (by decide) (by decide)
        · rw [y]; exact wi_of (a := 0) (b := 3) (k := 2) (by decide) (by decide) (by decide)
        · rw [y]; exact wi_of (a := 0) (b := 3) (k := 3) (by decide) (by decide) (by decide)
      · have f : ∀ b, b ≠ 92 → mi M1 b s = mi M b s := fun b hb => by rw [e, mi_si, if_neg (fun y => hb y.1)]
        rw [tn_nI (n := s) (by omega), f 112 (by decide), f 113 (by decide), f 114 (by decide), f 115 (by decide), d12, d13, d14, d15]
        have vp : vp_in (nI s) 16 := vp_in_nI (by omega) (by decide)
        refine ⟨fun y => ⟨vp, hh.1 y, no M1 e⟩, fun y0 => ⟨fun y => ⟨vp, hh.2.1 y, no M1 e⟩, fun y1 => ⟨fun y => ⟨vp, fun w => ⟨hh.2.2.1 y, no M1 e⟩, fun w => ⟨?_, no M1 e⟩⟩, fun y2 => ⟨vp, hh.2.2.2.1 ?_, no M1 e⟩⟩⟩⟩
        · rw [hh.2.2.1 y]
          rcases lf with ⟨-, l2⟩ | ⟨l1 | l1, -⟩
          · exact l2
          · rw [l1] at w; exact absurd (by decide) w
          · rw [l1] at w; exact absurd (by decide) w
        · obtain ⟨k, -, hk, rfl⟩ := wi_nI (a := 0) (b := 3) (by decide) (by decide) z
          rcases (show k = 0 ∨ k = 1 ∨ k = 2 ∨ k = 3 by omega) with rfl | rfl | rfl | rfl
          · exact absurd rfl y0
          · exact absurd rfl y1
          · exact absurd rfl y2
          · rfl
    have ne : ∀ x y : Int32, x ≠ y → p1 = x → ¬ p1 = y := fun x y q e z => q (e.symm.trans z)
    rw [tn_nI (n := s) (by omega), c12, c13, c14, c15]
    refine ⟨vp_in_nI (by omega) (by decide), fun z => run _ ⟨fun _ => rfl, fun w => absurd w (ne 0 1 (by decide) z), fun w => absurd w (ne 0 2 (by decide) z), fun w => absurd w (ne 0 3 (by decide) z), fun w => absurd z w⟩, fun z0 => ⟨fun z => run _ ⟨fun w => absurd w z0, fun _ => rfl, fun w => absurd w (ne 1 2 (by decide) z), fun w => absurd w (ne 1 3 (by decide) z), fun _ w => absurd z w⟩, fun z1 => ⟨fun z => run _ ⟨fun w => absurd w z0, fun w => absurd w z1, fun _ => rfl, fun w => absurd w (ne 2 3 (by decide) z), fun _ _ w => absurd z w⟩, fun z2 => ⟨fun z => run _ ⟨fun w => absurd w z0, fun w => absurd w z1, fun w => absurd w z2, fun _ => rfl, fun _ _ _ w => absurd z w⟩, fun z3 => run _ ⟨fun w => absurd w z0, fun w => absurd w z1, fun w => absurd w z2, fun w => absurd w z3, fun _ _ _ _ => rfl⟩⟩⟩⟩⟩
end TEL
