-- LEVEL 3, part 8: the month's first day in the class
def lineC (L : Lay) (M : Mem) (o : Option Nat) (e : Option Ex) : Prop := (o = none ∧ e = none) ∨ ∃ b n x, o = some b ∧ 159 ≤ b ∧ AR L b 0 n ∧ n < 2 ^ 30 ∧ e = some x ∧ ∀ (r : Fx) (u : Int32), rcF (cdL M b n) r u = x r
def fallC (L : Lay) (M : Mem) (o : Option Nat) (e : Fx → Bool) : Prop := (o = none ∧ ∀ r, e r = false) ∨ ∃ b n, o = some b ∧ 159 ≤ b ∧ AR L b 0 n ∧ n < 2 ^ 30 ∧ ∀ (r : Fx) (u : Int32), (rcF (cdL M b n) r u = 0 ↔ e r = false)
def pacC (L : Lay) (M : Mem) (a : Nat) (P : Pc) : Prop := OB L a 4 ∧ 159 ≤ a ∧ lineC L M (mp M a 0) (P.1 0) ∧ lineC L M (mp M a 1) (P.1 1) ∧ lineC L M (mp M a 2) (P.1 2) ∧ fallC L M (mp M a 3) P.2.1 ∧ mi M a 5 = P.2.2.1 ∧ mi M a 6 = P.2.2.2
def optC (L : Lay) (M : Mem) (o : Option Nat) (p : Option Pc) : Prop := (o = none ∧ p = none) ∨ ∃ a P, o = some a ∧ p = some P ∧ pacC L M a P
def lawC (L : Lay) (M : Mem) (o : Option Nat) (v : Int32 × Int32) : Prop := ∃ a, o = some a ∧ OB L a 1 ∧ (a = 5 ∨ a = 40 ∨ 159 ≤ a) ∧ mi M a 0 = v.1 ∧ mi M a 1 = v.2
-- pacts and laws stay when nothing of theirs is written
theorem lineC_cg {L : Lay} {M M' : Mem} {o : Option Nat} {e : Option Ex} (h : ∀ b, 159 ≤ b → b < L.1 → M'.1 b = M.1 b) (hl : lineC L M o e) : lineC L M' o e := by
  rcases hl with q | ⟨b, n, x, h1, h2, h3, h4, h5, h6⟩
  · exact Or.inl q
  · exact Or.inr ⟨b, n, x, h1, h2, h3, h4, h5, fun r u => by rw [cdL_cg (h b h2 h3.1)]; exact h6 r u⟩
theorem fallC_cg {L : Lay} {M M' : Mem} {o : Option Nat} {e : Fx → Bool} (h : ∀ b, 159 ≤ b → b < L.1 → M'.1 b = M.1 b) (hl : fallC L M o e) : fallC L M' o e := by
  rcases hl with q | ⟨b, n, h1, h2, h3, h4, h6⟩
  · exact Or.inl q
  · exact Or.inr ⟨b, n, h1, h2, h3, h4, fun r u => by rw [cdL_cg (h b h2 h3.1)]; exact h6 r u⟩
theorem pacC_cg {L : Lay} {M M' : Mem} {a : Nat} {P : Pc} (h : ∀ b, 159 ≤ b → b < L.1 → M'.1 b = M.1 b) (h2 : ∀ b, 159 ≤ b → b < L.1 → M'.2.1 b = M.2.1 b) (hp : pacC L M a P) : pacC L M' a P := by
  obtain ⟨p1, p2, p3, p4, p5, p6, p7, p8⟩ := hp
  have er : ∀ k, mp M' a k = mp M a k := fun k => congrFun (h2 a p2 p1.1) k
  have ei : ∀ k, mi M' a k = mi M a k := fun k => congrFun (h a p2 p1.1) k
  unfold pacC
  rw [er, er, er, er, ei, ei]
  exact ⟨p1, p2, lineC_cg h p3, lineC_cg h p4, lineC_cg h p5, fallC_cg h p6, p7, p8⟩
theorem optC_cg {L : Lay} {M M' : Mem} {o : Option Nat} {p : Option Pc} (h : ∀ b, 159 ≤ b → b < L.1 → M'.1 b = M.1 b) (h2 : ∀ b, 159 ≤ b → b < L.1 → M'.2.1 b = M.2.1 b) (hp : optC L M o p) : optC L M' o p := by
  rcases hp with q | ⟨a, P, e1, e2, e3⟩
  · exact Or.inl q
  · exact Or.inr ⟨a, P, e1, e2, pacC_cg h h2 e3⟩
theorem lawC_cg {L : Lay} {M M' : Mem} {o : Option Nat} {v : Int32 × Int32} (h : ∀ b, b = 5 ∨ b = 40 ∨ 159 ≤ b → b < L.1 → M'.1 b = M.1 b) (hp : lawC L M o v) : lawC L M' o v := by
  obtain ⟨a, e1, e2, e3, e4, e5⟩ := hp
  have ei : ∀ k, mi M' a k = mi M a k := fun k => congrFun (h a e3 e2.1) k
  exact ⟨a, e1, e2, e3, by rw [ei]; exact e4, by rw [ei]; exact e5⟩
theorem optC_lay {L L' : Lay} {M : Mem} {o : Option Nat} {p : Option Pc} (h : LE L L') (hp : optC L M o p) : optC L' M o p := by
  rcases hp with q | ⟨a, P, e1, e2, p1, p2, p3, p4, p5, p6, p7, p8⟩
  · exact Or.inl q
  · have hl : ∀ {o : Option Nat} {e : Option Ex}, lineC L M o e → lineC L' M o e := fun hq => by
      rcases hq with q | ⟨b, n, x, h1, h2, h3, h4, h5, h6⟩
      · exact Or.inl q
      · exact Or.inr ⟨b, n, x, h1, h2, h.ar h3, h4, h5, h6⟩
    refine Or.inr ⟨a, P, e1, e2, h.ob p1, p2, hl p3, hl p4, hl p5, ?_, p7, p8⟩
    rcases p6 with q | ⟨b, n, h1, h2, h3, h4, h6⟩
    · exact Or.inl q
    · exact Or.inr ⟨b, n, h1, h2, h.ar h3, h4, h6⟩
theorem lawC_lay {L L' : Lay} {M : Mem} {o : Option Nat} {v : Int32 × Int32} (h : LE L L') (hp : lawC L M o v) : lawC L' M o v := by
  obtain ⟨a, e1, e2, e3, e4, e5⟩ := hp
  exact ⟨a, e1, h.ob e2, e3, e4, e5⟩
theorem vwC_cg {w : Nat} {M M' : Mem} (h : ∀ a, ¬ a = w + 5 + 1 → M'.1 a = M.1 a) (h2 : M'.2 = M.2) : vwC w M' = vwC w M := by
  have hp : ∀ a k, mp M' a k = mp M a k := fun a k => by unfold mp; rw [h2]
  funext f i
  rw [vwC_def, vwC_def, hp]
  by_cases c : f = 109
  · rw [if_pos c, if_pos c]
    by_cases q : i < 10 ∧ mp M w 11 ≠ none
    · rw [if_pos q, if_pos q]; exact congrFun (h _ (by unfold oA; omega)) 8
    · rw [if_neg q, if_neg q]
  · rw [if_neg c, if_neg c]
    by_cases q : i < rg f
    · rw [if_pos q, if_pos q]
      refine congrFun (h _ ?_) _
      have := cA_not (w := w) q
      omega
    · rw [if_neg q, if_neg q]
-- the facts
theorem c_setFact {L : Lay} {re j : Nat} {x : Int32} {M : Mem} {Q : Mem → Prop} (hj : j < 14) (h : ∀ M', M' = si M (re + 1) j x → Q M') : w_X6_setFact L re (nI (13 + j)) x M Q := by
  unfold w_X6_setFact
  have e : nI (13 + j) - 13 = nI j := by rw [show (13 : Int32) = nI 13 from rfl, pk_sub (by omega), Nat.add_sub_cancel_left]
  refine ⟨fun q => absurd q (by rw [show (13 : Int32) = nI 13 from rfl, nI_lt' (by omega) (by omega)]; omega), fun _ => ⟨fun q => absurd q (by rw [show (26 : Int32) = nI 26 from rfl, nI_lt' (by omega) (by omega)]; omega), fun _ => ?_⟩⟩
  rw [e, tn_nI (by omega)]
  exact ⟨vp_in_nI hj (by decide), fun M' e' => h M' e'⟩
theorem c_clear {L : Lay} {re : Nat} {M : Mem} {Q : Mem → Prop} (h : ∀ M', (∀ j, j < 14 → mi M' (re + 1) j = 0) → FJ (fun b _ => b = re + 1) M M' → Q M') : w_X6_clear L re M Q := by
  unfold w_X6_clear w_J7_fill_53178
  intro x hx
  subst hx
  refine LP3_c0 0 14 (fun i (v3 : Int32) M' => v3 = nI 14 ∧ (∀ j, j < i → mi M' (re + 1) j = 0) ∧ FJ (fun b _ => b = re + 1) M M') rfl (Nat.zero_le _) ⟨rfl, fun j hj => absurd hj (by omega), FJ.rf⟩ ?_
  intro i v3 M1 hi _ ⟨e, hz, hF⟩ K hK
  subst e
  unfold w_J7_fill_53178_5
  refine ⟨fun hlt => ?_, fun hge => ?_⟩
  · rw [nI_lt' (by omega) (by omega)] at hlt
    rw [tn_nI (by omega)]
    refine ⟨vp_in_nI hlt (by decide), fun M2 e2 y hy => ?_⟩
    rw [hy, nI_1]
    refine hK hlt _ M2 ⟨rfl, fun j hj => ?_, by rw [e2]; exact hF.si rfl⟩
    rw [e2, mi_si]
    by_cases q : j = i
    · rw [if_pos ⟨rfl, q⟩]
    · rw [if_neg (fun z => q z.2)]; exact hz j (by omega)
  · rw [nI_lt' (by omega) (by omega)] at hge
    have : i = 14 := by omega
    subst this
    exact h M1 hz hF
-- the set of breakers
def bsN (p : Nat → Bool) : Nat → Nat
  | 0 => 0
  | n + 1 => bsN p n + if p n then 2 ^ n else 0
theorem bsN_lt {p : Nat → Bool} : ∀ n, bsN p n < 2 ^ n := by
  intro n
  induction n with
  | zero => exact Nat.one_pos
  | succ n ih =>
    unfold bsN
    rw [Nat.pow_succ]
    split <;> omega
theorem nI_or (a b : Nat) : nI a ||| nI b = nI (a ||| b) := by
  apply Int32.toBitVec_inj.mp
  show BitVec.ofNat 32 a ||| BitVec.ofNat 32 b = BitVec.ofNat 32 (a ||| b)
  apply BitVec.eq_of_getLsbD_eq
  intro i hi
  simp only [BitVec.getLsbD_or, BitVec.getLsbD_ofNat, Nat.testBit_or]
  cases h : decide (i < 32) <;> simp
theorem or_pow {a n : Nat} (h : a < 2 ^ n) : a ||| 2 ^ n = a + 2 ^ n := by
  have := Nat.two_pow_add_eq_or_of_lt h 1
  rw [Nat.mul_one] at this
  rw [Nat.or_comm, ← this, Nat.add_comm]
theorem bsN_bit {p : Nat → Bool} : ∀ n i, (bsN p n).testBit i = (decide (i < n) && p i) := by
  intro n
  induction n with
  | zero => intro i; show Nat.testBit 0 i = _; simp
  | succ n ih =>
    intro i
    have hl := bsN_lt (p := p) n
    unfold bsN
    by_cases q : p n = true
    · rw [if_pos q, ← or_pow hl, Nat.testBit_or, ih, Nat.testBit_two_pow]
      by_cases c : i = n
      · subst c; simp [q]
      · by_cases d : i < n
        · simp [d, Nat.ne_of_gt d, show i < n + 1 by omega, show ¬ n = i by omega]
        · simp [d, show ¬ i < n + 1 by omega, show ¬ n = i by omega]
    · have q' : p n = false := by simpa using q
      rw [q', if_neg (by decide), Nat.add_zero, ih]
      by_cases c : i = n
      · subst c; simp [q']
      · by_cases d : i < n
        · simp [d, show i < n + 1 by omega]
        · simp [d, show ¬ i < n + 1 by omega]
theorem jshl_1 {i : Nat} (h : i < 31) : jshl 1 (nI i) = nI (2 ^ i) := by
  have : ∀ i, i < 31 → jshl 1 (nI i) = nI (2 ^ i) := by decide +kernel
  exact this i h
def brF (S : SS) : Nat → Bool := fun o => !decide (S 111 o = 0)
theorem c_brSet {L : Lay} {T w : Nat} {M : Mem} {Q : Int32 → Mem → Prop} (hg : gdT T (vwC w M)) (h : Q (nI (bsN (brF (vwC w M)) (tn (vwC w M 28 0)))) M) : w_X10_breakerSet L w M Q := by
  unfold w_X10_breakerSet
  have hg' := hg
  obtain ⟨n1, n2, -⟩ := hg'
  refine LP3_c1 0 (tn (vwC w M 28 0)) (fun i (v1 : Int32) M' => M' = M ∧ v1 = nI (bsN (brF (vwC w M)) i)) rfl (Nat.zero_le _) ⟨rfl, rfl⟩ ?_
  intro i v1 M' hi _ ⟨e, ev⟩ K hK
  subst e ev
  unfold w_X10_breakerSet_4
  rw [rC_28 (w := w), n1]
  refine ⟨fun hlt => ?_, fun hge => ?_⟩
  · rw [nI_lt' (by omega) (by omega)] at hlt
    have hi10 : i < 10 := by omega
    rw [tn_nI (by omega), rC_111 hi10]
    refine ⟨vp_in_nI hi10 (by decide), fun x hx y hy z hz => ?_⟩
    rw [hz, nI_1]
    refine hK hlt y M' ⟨rfl, ?_⟩
    rw [hy, hx]
    conv => rhs; unfold bsN
    by_cases q : vwC w M' 111 i = 0
    · rw [if_pos q, if_neg (by unfold brF; simp [q]), nI_0.symm, nI_or, Nat.or_zero, Nat.add_zero]
    · rw [if_neg q, if_pos (by unfold brF; simp [q]), jshl_1 (by omega), nI_or, or_pow (bsN_lt i)]
  · rw [nI_lt' (by omega) (by omega)] at hge
    have ei : i = tn (vwC w M' 28 0) := by omega
    subst ei
    exact h
theorem br_count {p : Nat → Bool} {n : Nat} (hn : n ≤ 10) : bcF (nI (bsN p n)) = nI (cnF p n) := by
  have h1 := bsN_lt (p := p) n
  have h2 : 2 ^ n ≤ 2 ^ 10 := Nat.pow_le_pow_right (by decide) hn
  have e0 : (2 : Nat) ^ 10 = 1024 := rfl
  rw [bc_nat (by omega)]
  have h3 := pc_bits n (bsN p n) h1 p (fun i hi => by rw [bsN_bit]; simp [hi])
  have e : pcN 32 (bsN p n) = pcN n (bsN p n) := by
    rw [show 32 = n + (32 - n) from by omega, pcN_add, Nat.div_eq_of_lt h1]
    have z : ∀ j, pcN j 0 = 0 := by
      intro j
      induction j with
      | zero => rfl
      | succ j ih => show 0 % 2 + pcN j (0 / 2) = 0; rw [Nat.zero_div, ih]
    rw [z, Nat.add_zero]
  rw [e, h3]
theorem c_bitCount {L : Lay} {x : Int32} {M : Mem} {Q : Int32 → Mem → Prop} (h : Q (bcF x) M) : w_J6_bitCount_0f7a4 L x M Q := by
  unfold w_J6_bitCount_0f7a4
  intro a ea b eb c ec d ed e ee
  subst ea eb ec ed ee
  exact h
theorem gfF_0 {S : SS} {j : Nat} (h : j < 7 ∨ 14 ≤ j) : gfF S j = 0 := by
  unfold gfF
  split <;> first | omega | rfl
-- the facts of all, told
theorem c_tell {L : Lay} {T w : Nat} {M : Mem} {Q : Mem → Prop} (hg : gdT T (vwC w M))
    (h : ∀ M', vwC w M' = vwC w M → fxM M' (w + 5) = gfF (vwC w M) → FJ (PV w) M M' → (∀ a, a ≠ w + 6 → M'.1 a = M.1 a) → Q M') : w_X10_tellFacts L w M Q := by
  unfold w_X10_tellFacts
  have hg' := hg
  obtain ⟨n1, n2, n3, n4, -⟩ := hg'
  generalize hS : vwC w M = S at *
  refine LP3_c1 0 (tn (S 34 0)) (fun i (v1 : Int32) M' => M' = M ∧ v1 = nI (cnF (fun k => decide (S 112 k = 0)) i)) rfl (Nat.zero_le _) ⟨rfl, rfl⟩ ?_
  intro i v1 M' hi _ ⟨e, ev⟩ K hK
  subst e ev
  unfold w_X10_tellFacts_4
  rw [rC_34 (w := w), hS, n3]
  refine ⟨fun hlt => ?_, fun hge => ?_⟩
  · rw [nI_lt' (by omega) (by omega)] at hlt
    have hi8 : i < 8 := by omega
    rw [tn_nI (by omega), rC_112 hi8, hS]
    refine ⟨vp_in_nI hi8 (by decide), fun x hx y hy z hz => ?_⟩
    rw [hz, nI_1]
    refine hK hlt y M' ⟨rfl, ?_⟩
    rw [hy, hx]
    conv => rhs; unfold cnF
    by_cases q : S 112 i = 0
    · rw [if_pos q, if_pos (by simp [q]), nI_succ]
    · rw [if_neg q, if_neg (by simp [q]), Int32.add_zero, Nat.add_zero]
  · rw [nI_lt' (by omega) (by omega)] at hge
    have ei : i = tn (S 34 0) := by omega
    subst ei
    refine c_clear (fun M2 z2 F2 => ?_)
    have step : ∀ (Mx : Mem) (j : Nat) (x : Int32), vwC w Mx = S → vwC w (si Mx (w + 5 + 1) j x) = S := fun Mx j x hx => by rw [vwC_far (by omega)]; exact hx
    have v2 : vwC w M2 = S := by
      rw [← hS]
      exact vwC_cg (fun a ha => F2.row (fun _ => ha)) F2.2
    refine c_price ?_
    rw [v2]
    refine c_setFact (j := 7) (by decide) (fun M3 e3 => ?_)
    have v3 : vwC w M3 = S := by rw [e3]; exact step _ _ _ v2
    rw [rC_96 (w := w), v3]
    refine c_setFact (j := 8) (by decide) (fun M4 e4 => ?_)
    have v4 : vwC w M4 = S := by rw [e4]; exact step _ _ _ v3
    rw [rC_97 (w := w), v4]
    refine c_setFact (j := 9) (by decide) (fun M5 e5 => ?_)
    have v5 : vwC w M5 = S := by rw [e5]; exact step _ _ _ v4
    refine c_setFact (j := 10) (by decide) (fun M6 e6 => ?_)
    have v6 : vwC w M6 = S := by rw [e6]; exact step _ _ _ v5
    unfold w_X0_hungryOfLast30
    rw [rC_119 (w := w), v6]
    refine c_bitCount ?_
    refine c_setFact (j := 11) (by decide) (fun M7 e7 => ?_)
    have v7 : vwC w M7 = S := by rw [e7]; exact step _ _ _ v6
    rw [rC_93 (w := w), v7]
    refine c_setFact (j := 12) (by decide) (fun M8 e8 => ?_)
    have v8 : vwC w M8 = S := by rw [e8]; exact step _ _ _ v7
    refine c_brSet (T := T) (by rw [v8]; exact hg) ?_
    rw [v8]
    refine c_bitCount ?_
    rw [br_count n2]
    refine c_setFact (j := 13) (by decide) (fun M9 e9 => ?_)
    have v9 : vwC w M9 = S := by rw [e9]; exact step _ _ _ v8
    have F9 : FJ (fun b _ => b = w + 5 + 1) M' M9 := by
      rw [e9, e8, e7, e6, e5, e4, e3]
      exact ((((((F2.si rfl).si rfl).si rfl).si rfl).si rfl).si rfl).si rfl
    refine h M9 v9 ?_ (F9.mono (fun a ha => by unfold PV; omega)) (fun a ha => F9.row (fun _ q => ha (by omega)))
    funext j
    show (if j < 14 then mi M9 (w + 5 + 1) j else 0) = gfF S j
    by_cases hj : j < 14
    · rw [if_pos hj, e9, mi_si, e8, mi_si, e7, mi_si, e6, mi_si, e5, mi_si, e4, mi_si, e3, mi_si]
      rcases (show j = 13 ∨ j = 12 ∨ j = 11 ∨ j = 10 ∨ j = 9 ∨ j = 8 ∨ j = 7 ∨ j < 7 by omega) with q | q | q | q | q | q | q | q
      · subst q; rw [if_pos ⟨rfl, rfl⟩]; rfl
      · subst q; rw [if_neg (by omega), if_pos ⟨rfl, rfl⟩]; rfl
      · subst q; rw [if_neg (by omega), if_neg (by omega), if_pos ⟨rfl, rfl⟩]; rfl
      · subst q; rw [if_neg (by omega), if_neg (by omega), if_neg (by omega), if_pos ⟨rfl, rfl⟩]; rfl
      · subst q; rw [if_neg (by omega), if_neg (by omega), if_neg (by omega), if_neg (by omega), if_pos ⟨rfl, rfl⟩]; rfl
      · subst q; rw [if_neg (by omega), if_neg (by omega), if_neg (by omega), if_neg (by omega), if_neg (by omega), if_pos ⟨rfl, rfl⟩]; rfl
      · subst q; rw [if_neg (by omega), if_neg (by omega), if_neg (by omega), if_neg (by omega), if_neg (by omega), if_neg (by omega), if_pos ⟨rfl, rfl⟩]; rfl
      · rw [if_neg (by omega), if_neg (by omega), if_neg (by omega), if_neg (by omega), if_neg (by omega), if_neg (by omega), if_neg (by omega), z2 j hj, gfF_0 (Or.inl q)]
    · rw [if_neg hj, gfF_0 (Or.inr (by omega))]
