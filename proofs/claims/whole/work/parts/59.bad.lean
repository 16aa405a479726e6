-- LEVEL 3, part 43: bad sales, what is counted
def brX (X : WS) : Int32 := match X.2.2.2.1 with
  | none => -1
  | some P => if vdF X.2.1.1 5 = true then -1 else P.2.2.2
def isB (M : Mem) (bar : Int32) (k : Nat) : Bool := !decide (bar = -1) && decide (mi M 156 k * bar < (mi M 156 k - mi M 157 k) * 100)
section BAD
variable {L : Lay} {M : Mem}
theorem c_bar {X : WS} {Q : Int32 → Mem → Prop} (hX : wsC L 1 M X) (h : Q (brX X) M) : w_X10_barNow L 1 M Q := by
  obtain ⟨x1, ⟨la, l1, l2, l3, l4, l5⟩, -, x4, -⟩ := hX
  unfold w_X10_barNow
  rcases x4 with ⟨q1, q2⟩ | ⟨a, P, q1, q2, q3⟩
  · refine ⟨fun _ => ?_, fun a e => by rw [q1] at e; cases e⟩
    unfold brX at h; rw [q2] at h; exact h
  · refine ⟨fun e => (by rw [q1] at e; cases e), fun a' e => ⟨la, l1, l2, c_void (k := 5) l4 ?_⟩⟩
    unfold brX at h; rw [q2] at h
    by_cases c : vdF X.2.1.1 5 = true
    · rw [if_pos c]
      have h : Q (if vdF X.2.1.1 5 = true then -1 else P.2.2.2) M := h
      rw [if_pos c] at h
      exact ⟨fun z => absurd z (by decide), fun _ => h⟩
    · rw [if_neg c]
      have h : Q (if vdF X.2.1.1 5 = true then -1 else P.2.2.2) M := h
      rw [if_neg c] at h
      refine ⟨fun _ => ⟨a, q1, q3.1, ?_⟩, fun z => absurd rfl z⟩
      rw [q3.2.2.2.2.2.2.2]; exact h
theorem m_isBad {t k n : Nat} {X : WS} {Q : Int32 → Mem → Prop} (h : RX L M t X) (hk : k < 60) (hQ : Q (if isB M (brX X) k = true then 1 else 0) M) : w_X12_isBad L (nI k) M Q := by
  obtain ⟨⟨h1, h2, h3, h4, h5, h6, h7, h8, h9⟩, hR⟩ := h
  obtain ⟨x1, x2, x3, x4, x5, x6, x7, -⟩ := h3
  unfold w_X12_isBad
  unfold isB brX at hQ
  have hv := vd_b (v := X.2.1.1) x4 (k := 5) (by decide)
  rcases x7 with ⟨q1, q2⟩ | ⟨q, P, q1, q2, q3, q4⟩
  · rw [q1]
    rw [q2] at hQ
    exact ⟨fun _ => hQ, fun z => absurd (by decide) z⟩
  · rw [q3] at hQ
    have hQ : Q (if (!decide ((if vdF X.2.1.1 5 = true then -1 else P.2.2.2) = (-1 : Int32)) && decide (mi M 156 k * (if vdF X.2.1.1 5 = true then -1 else P.2.2.2) < (mi M 156 k - mi M 157 k) * 100)) = true then 1 else 0) M := hQ
    rw [q1, tn_nI (n := q) (by omega), tn_nI (n := k) (by omega), q4.2.2.2.2.2, x2, show (32 : Int32) = nI (2 ^ 5) from rfl, hv]
    refine ⟨fun z => absurd z (nI_pos (by omega)), fun _ => ⟨vp_in_nI (by omega) (by decide), fun c => ?_, fun c => ⟨fun d => ⟨vp_in_nI (by omega) (by decide), fun x hx => ?_⟩, fun d => ?_⟩⟩⟩
    · have hb := (h9.2.1 P q3).resolve_right (fun y => y c)
      rw [if_neg] at hQ
      · exact hQ
      · by_cases y : vdF X.2.1.1 5 = true
        · simp [y]
        · simp [y, hb]
    · have hn : ¬ P.2.2.2 = -1 := fun y => c (by rw [y]; decide)
      rw [d] at hQ
      simp only [Bool.false_eq_true, if_false] at hQ
      rw [hx]
      by_cases y : mi M 156 k * P.2.2.2 < (mi M 156 k - mi M 157 k) * 100
      · rw [if_pos y]
        rw [if_pos (by simp [hn, y])] at hQ; exact hQ
      · rw [if_neg y]
        rw [if_neg (by simp [y])] at hQ; exact hQ
    · have d' : vdF X.2.1.1 5 = true := by simpa using d
      rw [d'] at hQ
      rw [if_neg (by simp)] at hQ; exact hQ
theorem isB_cg {M' : Mem} {bar : Int32} {k : Nat} (h : ∀ a k, a = 156 ∨ a = 157 → mi M' a k = mi M a k) : isB M' bar k = isB M bar k := by
  unfold isB; rw [h 156 k (Or.inl rfl), h 157 k (Or.inr rfl)]
theorem c_bad {t n : Nat} {X : WS} {bar : Int32} {Q : Int32 → Mem → Prop} (hn : n ≤ 60) (hC : mi M 85 0 = nI n) (hk : ∀ k, k < n → saK t M k)
    (hQ : ∀ M', (∀ j, j < cnF (isB M bar) n → ∃ k, k < n ∧ isB M bar k = true ∧ mi M' 89 j = mi M 155 k) → (∀ k, k < n → isB M bar k = true → ∃ j, j < cnF (isB M bar) n ∧ mi M' 89 j = mi M 155 k) → FJ (fun a _ => a = 89) M M' → Q (nI (cnF (isB M bar) n)) M') : w_X8_countBad L bar M Q := by
  have le : ∀ i, cnF (isB M bar) i ≤ i := by
    intro i
    induction i with
    | zero => exact Nat.le_refl _
    | succ i ih => show cnF (isB M bar) i + (if isB M bar i = true then 1 else 0) ≤ i + 1; split <;> omega
  unfold w_X8_countBad
  refine LP3_c1 0 n (fun i (v : Int32) M' => v = nI (cnF (isB M bar) i) ∧ (∀ j, j < cnF (isB M bar) i → ∃ k, k < i ∧ isB M bar k = true ∧ mi M' 89 j = mi M 155 k) ∧ (∀ k, k < i → isB M bar k = true → ∃ j, j < cnF (isB M bar) i ∧ mi M' 89 j = mi M 155 k) ∧ FJ (fun a _ => a = 89) M M') rfl (Nat.zero_le _) ⟨rfl, fun j hj => absurd hj (Nat.not_lt_zero j), fun k hk => absurd hk (by omega), FJ.rf⟩ ?_
  intro i v M1 hi _ ⟨ev, a1, b1, F1⟩ K hK
  subst ev
  have lei := le i
  unfold w_X8_countBad_4
  rw [F1.1 85 0 (by omega), hC, nI_lt' (by omega) (by omega), tn_nI (n := i) (by omega), tn_nI (n := cnF (isB M bar) i) (by omega), F1.1 86 _ (by omega), F1.1 87 _ (by omega), F1.1 88 _ (by omega)]
  refine ⟨fun hlt => ⟨fun c => ?_, fun c => ⟨vp_in_nI (by omega) (by decide), ?_⟩⟩, fun hge => ?_⟩
  · have z : ∀ k, isB M bar k = false := fun k => by unfold isB; simp [c]
    have e0 : ∀ j, cnF (isB M bar) j = 0 := by
      intro j
      induction j with
      | zero => rfl
      | succ j ih => show cnF (isB M bar) j + (if isB M bar j = true then 1 else 0) = 0; rw [ih, z, if_neg (by decide)]
    have := hQ M1 (fun j hj => absurd hj (by rw [e0]; omega)) (fun k _ hb => absurd hb (by rw [z]; decide)) F1
    rw [e0] at this ⊢
    exact this
  · obtain ⟨s1, s2, s3, -⟩ := hk i hlt
    rw [s1, s2, s3]
    have cs : cnF (isB M bar) (i + 1) = cnF (isB M bar) i + (if isB M bar i = true then 1 else 0) := rfl
    refine ⟨fun d => ⟨vp_in_nI (by omega) (by decide), fun M2 e2 x hx y hy => ?_⟩, fun d x hx => ?_⟩
    · have tb : isB M bar i = true := by unfold isB; simp [c, d]
      rw [if_pos tb] at cs
      rw [hx, hy, nI_1, nI_1]
      refine hK hlt _ M2 ⟨by rw [cs], fun j hj => ?_, fun k hk hb => ?_, by rw [e2]; exact F1.si rfl⟩
      · rw [cs] at hj
        rw [e2, mi_si]
        by_cases w : j = cnF (isB M bar) i
        · rw [if_pos ⟨rfl, w⟩]; exact ⟨i, by omega, tb, rfl⟩
        · rw [if_neg (fun y => w y.2)]
          obtain ⟨k, k1, k2, k3⟩ := a1 j (by omega)
          exact ⟨k, by omega, k2, k3⟩
      · rw [cs]
        by_cases w : k = i
        · subst w
          exact ⟨cnF (isB M bar) k, by omega, by rw [e2, mi_si, if_pos ⟨rfl, rfl⟩]⟩
        · obtain ⟨j, j1, j2⟩ := b1 k (by omega) hb
          exact ⟨j, by omega, by rw [e2, mi_si, if_neg (fun y => by omega)]; exact j2⟩
    · have fb : isB M bar i = false := by unfold isB; simp [d]
      rw [fb, if_neg (by decide)] at cs
      rw [hx, nI_1]
      refine hK hlt _ M1 ⟨by rw [cs]; rfl, fun j hj => ?_, fun k hk hb => ?_, F1⟩
      · obtain ⟨k, k1, k2, k3⟩ := a1 j (by rw [cs] at hj; exact hj)
        exact ⟨k, by omega, k2, k3⟩
      · have : k ≠ i := fun y => by rw [y, fb] at hb; cases hb
        obtain ⟨j, j1, j2⟩ := b1 k (by omega) hb
        exact ⟨j, by rw [cs]; exact j1, j2⟩
  · have : i = n := by omega
    subst this
    exact hQ M1 a1 b1 F1
theorem m_bads {t n : Nat} {X : WS} {Q : Int32 → Mem → Prop} (h : RX L M t X) (hn : n ≤ 60) (hM : mi M 92 80 = nI n) (hQ : Q (nI (cnF (isB M (brX X)) n)) M) : w_X12_bads L M Q := by
  unfold w_X12_bads
  refine LP3_c1 0 n (fun i (v : Int32) M' => v = nI (cnF (isB M (brX X)) i) ∧ M' = M) rfl (Nat.zero_le _) ⟨rfl, rfl⟩ ?_
  intro i v M1 hi _ ⟨ev, e⟩ K hK
  subst e ev
  unfold w_X12_bads_4
  rw [hM, nI_lt' (by omega) (by omega)]
  refine ⟨fun hlt => m_isBad (n := n) h (by omega) ?_, fun hge => ?_⟩
  · have cs : cnF (isB M1 (brX X)) (i + 1) = cnF (isB M1 (brX X)) i + (if isB M1 (brX X) i = true then 1 else 0) := rfl
    by_cases c : isB M1 (brX X) i = true
    · rw [if_pos c] at cs ⊢
      refine ⟨fun z => absurd z (by decide), fun _ x hx y hy => ?_⟩
      rw [hx, hy, nI_1, nI_1]
      exact hK hlt _ _ ⟨by rw [cs], rfl⟩
    · rw [if_neg c] at cs ⊢
      refine ⟨fun _ x hx => ?_, fun z => absurd rfl z⟩
      rw [hx, nI_1]
      exact hK hlt _ _ ⟨by rw [cs]; rfl, rfl⟩
  · have : i = n := by omega
    subst this
    exact hQ
theorem bs_count {p : Nat → Bool} {n : Nat} (hn : n ≤ 10) : bcF (nI (bsN p n)) = nI (cnF p n) := by
  have h1 := bsN_lt (p := p) n
  have p2 := p31 hn
  rw [bc_nat (by omega)]
  have h3 := pc_bits n (bsN p n) h1 p (fun i hi => by rw [bsN_bit]; simp [hi])
  have z0 : ∀ k, pcN k 0 = 0 := by
    intro k
    induction k with
    | zero => rfl
    | succ k ih => show 0 % 2 + pcN k (0 / 2) = 0; rw [show 0 / 2 = 0 from rfl, ih]
  rw [show 32 = n + (32 - n) by omega, pcN_add, Nat.div_eq_of_lt h1, z0, h3, Nat.add_zero]
theorem m_cnt {T : Nat} {K0 : Int32} {Q : Int32 → Mem → Prop} (hg : gdT T (vwM 0 M)) (h : Q (nI (cnF (brF (vwM 0 M)) (tn (vwM 0 M 28 0)))) M) : LP3 (fun K187 v2 v3 M => w_X12_count_187 L K0 K187 v2 v3 M Q) 0 0 M := by
  have hg' := hg
  obtain ⟨n1, n2, -⟩ := hg'
  refine LP3_c1 0 (tn (vwM 0 M 28 0)) (fun i (v1 : Int32) M' => M' = M ∧ v1 = nI (cnF (brF (vwM 0 M)) i)) rfl (Nat.zero_le _) ⟨rfl, rfl⟩ ?_
  intro i v1 M' hi _ ⟨e, ev⟩ K hK
  subst e ev
  unfold w_X12_count_187
  rw [rM_28 (s := 0), n1, nI_lt' (by omega) (by omega), tn_nI (n := i) (by omega)]
  refine ⟨fun hlt => ⟨vp_in_nI (by omega) (by decide), ?_⟩, fun hge => ?_⟩
  · have := rM_111 (s := 0) (i := i) (M := M') (by omega)
    rw [Nat.mul_zero, Nat.zero_add] at this
    rw [this]
    have cs : cnF (brF (vwM 0 M')) (i + 1) = cnF (brF (vwM 0 M')) i + (if brF (vwM 0 M') i = true then 1 else 0) := rfl
    refine ⟨fun c x hx => ?_, fun c x hx y hy => ?_⟩
    · rw [hx, nI_1]
      refine hK hlt _ _ ⟨rfl, ?_⟩
      rw [cs, if_neg (by unfold brF; simp [c])]; rfl
    · rw [hx, hy, nI_1, nI_1]
      refine hK hlt _ _ ⟨rfl, ?_⟩
      rw [cs, if_pos (by unfold brF; simp [c])]
  · have : i = tn (vwM 0 M' 28 0) := by omega
    subst this; exact h
def cuF (M : Mem) (X : WS) (n : Nat) (w : Int32) : Int32 :=
  if w = 0 then X.1 93 0 else if w = 1 then X.1 28 0 else if w = 2 then X.1 34 0 else if w = 3 then X.1 94 0 else if w = 4 then X.1 96 0 else if w = 5 then (if X.2.2.2.1.isSome then 1 else 0) else if w = 6 then (if X.2.2.2.1.isSome then X.1 100 0 else -1)
  else if w = 7 then mi M 92 73 else if w = 8 then mi M 92 80 else if w = 9 then nI (cnF (isB M (brX X)) n) else if w = 10 then X.1 106 0 else if w = 11 then X.1 95 0 else if w = 12 then nI (cnF (brF X.1) (tn (X.1 28 0))) else if w = 13 then mi M 92 42 else if w = 14 then mi M 92 37 else if w = 15 then X.1 105 0 else if w = 16 then (if X.2.2.2.2.isSome then 1 else 0) else -1
theorem c_count {t n : Nat} {X : WS} {w : Int32} {Q : Int32 → Mem → Prop} (h : RX L M t X) (hn : n ≤ 60) (hC : mi M 85 0 = nI n) (hk : ∀ k, k < n → saK (tn (X.1 28 0)) M k) (hM : mi M 92 80 = nI n)
    (hQ : ∀ M', FJ (fun a _ => a = 89) M M' → Q (cuF M X n w) M') : w_X11_count L w M Q := by
  obtain ⟨nn, a1, a2, a3, -⟩ := h.2.2.2.2.1
  obtain ⟨n4, b1, b2, b3, -⟩ := h.2.2.1
  obtain ⟨n5, c1, c2, c3, -⟩ := h.2.1
  have hv := h.1.2.1.1
  have h0 := hQ M FJ.rf
  have x4 := h.1.2.1.2.2.2.1
  have x5 := h.1.2.1.2.2.2.2.1
  unfold w_X11_count
  unfold cuF at h0
  refine ⟨fun w0 => ?_, fun w0 => ⟨fun w1 => ?_, fun w1 => ⟨fun w2 => ?_, fun w2 => ⟨fun w3 => ?_, fun w3 => ⟨fun w4 => ?_, fun w4 => ⟨fun w5 => ?_, fun w5 => ⟨fun w6 => ?_, fun w6 => ⟨fun w7 => ?_, fun w7 => ⟨fun w8 => ?_, fun w8 => ?_⟩⟩⟩⟩⟩⟩⟩⟩⟩
  · rw [if_pos w0, ← hv, ← rC_93 (w := 1)] at h0; exact h0
  · rw [if_neg w0, if_pos w1, ← hv, ← rC_28 (w := 1)] at h0; exact h0
  · rw [if_neg w0, if_neg w1, if_pos w2, ← hv, ← rC_34 (w := 1)] at h0; exact h0
  · rw [if_neg w0, if_neg w1, if_neg w2, if_pos w3, ← hv, ← rC_94 (w := 1)] at h0; exact h0
  · rw [if_neg w0, if_neg w1, if_neg w2, if_neg w3, if_pos w4, ← hv, ← rC_96 (w := 1)] at h0; exact h0
  · rw [if_neg w0, if_neg w1, if_neg w2, if_neg w3, if_neg w4, if_pos w5] at h0
    rcases x4 with ⟨q1, q2⟩ | ⟨a, P, q1, q2, -⟩
    · rw [q2] at h0
      exact ⟨fun _ => h0, fun a e => by rw [q1] at e; cases e⟩
    · rw [q2] at h0
      exact ⟨fun e => (by rw [q1] at e; cases e), fun _ _ => h0⟩
  · rw [if_neg w0, if_neg w1, if_neg w2, if_neg w3, if_neg w4, if_neg w5, if_pos w6, ← hv, ← rC_100 (w := 1)] at h0
    rcases x4 with ⟨q1, q2⟩ | ⟨a, P, q1, q2, -⟩
    · rw [q2] at h0
      exact ⟨fun _ => h0, fun a e => by rw [q1] at e; cases e⟩
    · rw [q2] at h0
      exact ⟨fun e => (by rw [q1] at e; cases e), fun _ _ => h0⟩
  · rw [if_neg w0, if_neg w1, if_neg w2, if_neg w3, if_neg w4, if_neg w5, if_neg w6, if_pos w7, a3, ← a2] at h0; exact h0
  · rw [if_neg w0, if_neg w1, if_neg w2, if_neg w3, if_neg w4, if_neg w5, if_neg w6, if_neg w7, if_pos w8, hM, ← hC] at h0; exact h0
  · unfold w_X11_countMore
    rw [if_neg w0, if_neg w1, if_neg w2, if_neg w3, if_neg w4, if_neg w5, if_neg w6, if_neg w7, if_neg w8] at h0
    refine ⟨fun w9 => c_bar h.1.2.1 (c_bad (t := tn (X.1 28 0)) (X := X) hn hC hk (fun M' _ _ F' => ?_)), fun w9 => ⟨fun wa => ?_, fun wa => ⟨fun wb => ?_, fun wb => ⟨fun wc => ?_, fun wc => ⟨fun wd => ?_, fun wd => ⟨fun we => ?_, fun we => ⟨fun wf => ?_, fun wf => ⟨fun wg => ?_, fun wg => ?_⟩⟩⟩⟩⟩⟩⟩⟩
    · have h1 := hQ M' F'
      unfold cuF at h1
      rw [if_neg w0, if_neg w1, if_neg w2, if_neg w3, if_neg w4, if_neg w5, if_neg w6, if_neg w7, if_neg w8, if_pos w9] at h1
      exact h1
    · rw [if_neg w9, if_pos wa, ← hv, ← rC_106 (w := 1)] at h0; exact h0
    · rw [if_neg w9, if_neg wa, if_pos wb, ← hv, ← rC_95 (w := 1)] at h0; exact h0
    · rw [if_neg w9, if_neg wa, if_neg wb, if_pos wc] at h0
      refine c_brSet (w := 1) (T := t) (by rw [hv]; exact h.1.2.2.2.1.1) (c_bitCount ?_)
      rw [hv, bs_count h.1.2.2.2.1.1.2.1]; exact h0
    · rw [if_neg w9, if_neg wa, if_neg wb, if_neg wc, if_pos wd, b3, ← b2] at h0; exact h0
    · rw [if_neg w9, if_neg wa, if_neg wb, if_neg wc, if_neg wd, if_pos we, c3, ← c2] at h0; exact h0
    · rw [if_neg w9, if_neg wa, if_neg wb, if_neg wc, if_neg wd, if_neg we, if_pos wf, ← hv, ← rC_105 (w := 1)] at h0; exact h0
    · rw [if_neg w9, if_neg wa, if_neg wb, if_neg wc, if_neg wd, if_neg we, if_neg wf, if_pos wg] at h0
      rcases x5 with ⟨q1, q2⟩ | ⟨a, P, q1, q2, -⟩
      · rw [q2] at h0
        exact ⟨fun _ => h0, fun a e => by rw [q1] at e; cases e⟩
      · rw [q2] at h0
        exact ⟨fun e => (by rw [q1] at e; cases e), fun _ _ => h0⟩
    · rw [if_neg w9, if_neg wa, if_neg wb, if_neg wc, if_neg wd, if_neg we, if_neg wf, if_neg wg] at h0; exact h0
theorem j_count {w : Int32} (h : RR L M) : w_X11_count L w M (fun a M1 => w_X12_count L w M1 (fun b M2 => a = b ∧ RR L M2)) := by
  obtain ⟨t, X, h⟩ := h
  obtain ⟨n, hn, hC, hM, hk⟩ := h.2.2.2.2.2
  refine c_count h hn hC hk hM (fun M1 F1 => ?_)
  unfold w_X12_count
  intro M2 e2
  have f2 : ∀ a k, ¬ PN a k → mi M2 a k = mi M a k := fun a k z => by rw [e2, mi_si, if_neg (fun y => z (by unfold PN; omega)), F1.1 a k (fun y => z (by unfold PN; omega))]
  have r2 : RX L M2 t X := RX_cg h f2 (fun a k => by rw [e2]; exact F1.mp)
  have hv := r2.1.2.2.1.1
  have x7 := r2.1.2.2.1.2.2.2.2.2.2.1
  have x8 := r2.1.2.2.1.2.2.2.2.2.2.2.1
  have hM2 : mi M2 92 80 = nI n := (f2 92 80 (by unfold PN; omega)).trans hM
  have eB : cnF (isB M2 (brX X)) n = cnF (isB M (brX X)) n := cn_cg n (fun k _ => isB_cg (fun a k z => f2 a k (by unfold PN; omega)))
  unfold cuF
  refine ⟨fun w0 => ⟨?_, t, X, r2⟩, fun w0 => ⟨fun w1 => ⟨?_, t, X, r2⟩, fun w1 => ⟨fun w2 => ⟨?_, t, X, r2⟩, fun w2 => ⟨fun w3 => ⟨?_, t, X, r2⟩, fun w3 => ⟨fun w4 => ⟨?_, t, X, r2⟩, fun w4 => ⟨fun w5 x hx => ⟨?_, t, X, r2⟩, fun w5 => ⟨fun w6 x hx => ⟨?_, t, X, r2⟩, fun w6 => ⟨fun w7 => ⟨?_, t, X, r2⟩, fun w7 => ⟨fun w8 => ⟨?_, t, X, r2⟩, fun w8 => ⟨fun w9 => m_bads r2 hn hM2 ⟨?_, t, X, r2⟩, fun w9 => ⟨fun wa => ⟨?_, t, X, r2⟩, fun wa => ⟨fun wb => ⟨?_, t, X, r2⟩, fun wb => ⟨fun wc => m_cnt (T := t) (by rw [hv]; exact r2.1.2.2.2.1.1) ⟨?_, t, X, r2⟩, fun wc => ⟨fun wd => ⟨?_, t, X, r2⟩, fun wd => ⟨fun we => ⟨?_, t, X, r2⟩, fun we => ⟨fun wf => ⟨?_, t, X, r2⟩, fun wf => ⟨fun wg => ⟨?_, t, X, r2⟩, fun wg => ⟨?_, t, X, r2⟩⟩⟩⟩⟩⟩⟩⟩⟩⟩⟩⟩⟩⟩⟩⟩⟩⟩
  · rw [if_pos w0, rM_93 (s := 0), hv]
  · rw [if_neg w0, if_pos w1, rM_28 (s := 0), hv]
  · rw [if_neg w0, if_neg w1, if_pos w2, rM_34 (s := 0), hv]
  · rw [if_neg w0, if_neg w1, if_neg w2, if_pos w3, rM_94 (s := 0), hv]
  · rw [if_neg w0, if_neg w1, if_neg w2, if_neg w3, if_pos w4, rM_96 (s := 0), hv]
  · rw [if_neg w0, if_neg w1, if_neg w2, if_neg w3, if_neg w4, if_pos w5, hx]
    rcases x7 with ⟨q1, q2⟩ | ⟨q, P, q1, q2, q3, -⟩
    · rw [q1, q2, if_pos (show (-1 : Int32) < 0 by decide)]; rfl
    · rw [q1, q3, if_neg (nI_pos (by omega))]; rfl
  · rw [if_neg w0, if_neg w1, if_neg w2, if_neg w3, if_neg w4, if_neg w5, if_pos w6, hx]
    rcases x7 with ⟨q1, q2⟩ | ⟨q, P, q1, q2, q3, -⟩
    · rw [q1, q2, if_pos (show (-1 : Int32) < 0 by decide)]; rfl
    · rw [q1, q3, if_neg (nI_pos (by omega)), rM_100 (s := 0), hv]; rfl
  · rw [if_neg w0, if_neg w1, if_neg w2, if_neg w3, if_neg w4, if_neg w5, if_neg w6, if_pos w7, f2 92 73 (by unfold PN; omega)]
  · rw [if_neg w0, if_neg w1, if_neg w2, if_neg w3, if_neg w4, if_neg w5, if_neg w6, if_neg w7, if_pos w8, f2 92 80 (by unfold PN; omega)]
  · rw [if_neg w0, if_neg w1, if_neg w2, if_neg w3, if_neg w4, if_neg w5, if_neg w6, if_neg w7, if_neg w8, if_pos w9, eB]
  · rw [if_neg w0, if_neg w1, if_neg w2, if_neg w3, if_neg w4, if_neg w5, if_neg w6, if_neg w7, if_neg w8, if_neg w9, if_pos wa, rM_106 (s := 0), hv]
  · rw [if_neg w0, if_neg w1, if_neg w2, if_neg w3, if_neg w4, if_neg w5, if_neg w6, if_neg w7, if_neg w8, if_neg w9, if_neg wa, if_pos wb, rM_95 (s := 0), hv]
  · rw [if_neg w0, if_neg w1, if_neg w2, if_neg w3, if_neg w4, if_neg w5, if_neg w6, if_neg w7, if_neg w8, if_neg w9, if_neg wa, if_neg wb, if_pos wc, hv]
  · rw [if_neg w0, if_neg w1, if_neg w2, if_neg w3, if_neg w4, if_neg w5, if_neg w6, if_neg w7, if_neg w8, if_neg w9, if_neg wa, if_neg wb, if_neg wc, if_pos wd, f2 92 42 (by unfold PN; omega)]
  · rw [if_neg w0, if_neg w1, if_neg w2, if_neg w3, if_neg w4, if_neg w5, if_neg w6, if_neg w7, if_neg w8, if_neg w9, if_neg wa, if_neg wb, if_neg wc, if_neg wd, if_pos we, f2 92 37 (by unfold PN; omega)]
  · rw [if_neg w0, if_neg w1, if_neg w2, if_neg w3, if_neg w4, if_neg w5, if_neg w6, if_neg w7, if_neg w8, if_neg w9, if_neg wa, if_neg wb, if_neg wc, if_neg wd, if_neg we, if_pos wf, rM_105 (s := 0), hv]
  · rw [if_neg w0, if_neg w1, if_neg w2, if_neg w3, if_neg w4, if_neg w5, if_neg w6, if_neg w7, if_neg w8, if_neg w9, if_neg wa, if_neg wb, if_neg wc, if_neg wd, if_neg we, if_neg wf, if_pos wg]
    rcases x8 with ⟨q1, q2⟩ | ⟨q1, P, q2, -⟩
    · rw [q1, q2]; rfl
    · rw [q1, q2]; rfl
  · rw [if_neg w0, if_neg w1, if_neg w2, if_neg w3, if_neg w4, if_neg w5, if_neg w6, if_neg w7, if_neg w8, if_neg w9, if_neg wa, if_neg wb, if_neg wc, if_neg wd, if_neg we, if_neg wf, if_neg wg]
end BAD
