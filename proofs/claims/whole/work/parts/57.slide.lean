-- LEVEL 3, part 41: the slide, and the issues that are tried
def tsF (wd : Nat → Int32) (t : Nat) (X : WS) (n s o : Nat) : Bool := !s.testBit o && decide (gnF wd t X n s o < gnF wd t X n (s ||| 2 ^ o) o)
def ltG (T : Nat → Bool) : Nat → Nat → Int32
  | 0, _ => -1
  | r + 1, k => if T k = true then nI k else ltG T r (k + 1)
theorem ltG_s {T : Nat → Bool} {r k : Nat} : ltG T (r + 1) k = if T k = true then nI k else ltG T r (k + 1) := rfl
theorem lt_spec {T : Nat → Bool} : ∀ r k, ltG T r k = -1 ∨ ∃ o, k ≤ o ∧ o < k + r ∧ T o = true ∧ ltG T r k = nI o := by
  intro r
  induction r with
  | zero => intro k; exact Or.inl rfl
  | succ r ih =>
    intro k
    rw [ltG_s]
    by_cases q : T k = true
    · rw [if_pos q]; exact Or.inr ⟨k, by omega, by omega, q, rfl⟩
    · rw [if_neg q]
      rcases ih (k + 1) with z | ⟨o, a, b, c, d⟩
      · exact Or.inl z
      · exact Or.inr ⟨o, by omega, by omega, c, d⟩
def sdG (lt : Nat → Int32) : Nat → Nat → Nat × Nat
  | 0, s => (s, 0)
  | f + 1, s => if lt s = -1 then (s, 0) else ((sdG lt f (s ||| 2 ^ tn (lt s))).1, (sdG lt f (s ||| 2 ^ tn (lt s))).2 + 1)
theorem sdG_s {lt : Nat → Int32} {f s : Nat} : sdG lt (f + 1) s = if lt s = -1 then (s, 0) else ((sdG lt f (s ||| 2 ^ tn (lt s))).1, (sdG lt f (s ||| 2 ^ tn (lt s))).2 + 1) := rfl
theorem sd_end {lt : Nat → Int32} {s : Nat} (h : lt s = -1) : ∀ f, sdG lt f s = (s, 0) := by
  intro f
  cases f with
  | zero => rfl
  | succ f => rw [sdG_s, if_pos h]
theorem cn_lt {p : Nat → Bool} : ∀ n o, o < n → p o = false → cnF p n < n := by
  have le : ∀ n, cnF p n ≤ n := by
    intro n
    induction n with
    | zero => exact Nat.le_refl _
    | succ n ih => show cnF p n + (if p n = true then 1 else 0) ≤ n + 1; split <;> omega
  intro n
  induction n with
  | zero => intro o h; exact absurd h (by omega)
  | succ n ih =>
    intro o ho hp
    show cnF p n + (if p n = true then 1 else 0) < n + 1
    by_cases c : o = n
    · subst c; rw [hp, if_neg (by decide)]; have := le o; omega
    · have := ih o (by omega) hp
      split <;> omega
theorem cn_cg {p q : Nat → Bool} : ∀ n, (∀ i, i < n → p i = q i) → cnF p n = cnF q n := by
  intro n
  induction n with
  | zero => intro _; rfl
  | succ n ih => intro h; show cnF p n + (if p n = true then 1 else 0) = cnF q n + (if q n = true then 1 else 0); rw [ih (fun i hi => h i (by omega)), h n (by omega)]
theorem cn_add {s o : Nat} (h : s.testBit o = false) : ∀ n, o < n → cnF (fun i => (s ||| 2 ^ o).testBit i) n = cnF (fun i => s.testBit i) n + 1 := by
  have e : ∀ i, (s ||| 2 ^ o).testBit i = (s.testBit i || decide (o = i)) := fun i => by rw [Nat.testBit_or, Nat.testBit_two_pow]
  intro n
  induction n with
  | zero => intro h; exact absurd h (by omega)
  | succ n ih =>
    intro ho
    show cnF (fun i => (s ||| 2 ^ o).testBit i) n + (if (s ||| 2 ^ o).testBit n = true then 1 else 0) = cnF (fun i => s.testBit i) n + (if s.testBit n = true then 1 else 0) + 1
    by_cases c : o = n
    · subst c
      have e2 : cnF (fun i => (s ||| 2 ^ o).testBit i) o = cnF (fun i => s.testBit i) o := cn_cg o (fun i hi => by rw [e]; simp [show ¬ o = i by omega])
      rw [e2, e, h]; simp
    · rw [ih (by omega), e n]
      simp only [c, decide_false, Bool.or_false]
      omega
section SLI
variable {L : Lay} {M : Mem}
theorem c_least {t n s : Nat} {X : WS} {wd : Nat → Int32} {Q : Int32 → Mem → Prop} (h : RV L M t X wd) (hs : s < 2 ^ tn (X.1 28 0)) (hn : n ≤ 60)
    (hQ : ∀ M', RV L M' t X wd → Q (ltG (tsF wd t X n s) (tn (X.1 28 0)) 0) M') : w_X11_leastTempted L (nI s) (nI n) M Q := by
  have n10 := h.1.1.2.2.2.1.1.2.1
  have p2 := p31 n10
  unfold w_X11_leastTempted
  refine c_tri h (hb_of h.1 hs) (Or.inl rfl) (by omega) (fun M1 r1 g1 k1 _ => ?_)
  refine LP2_c0 0 (tn (X.1 28 0)) (fun i M' => RV L M' t X wd ∧ (∀ o, o < i → mi M' 91 o = gnF wd t X n s o) ∧ FJ (fun a k => a = 91) M1 M') rfl (Nat.zero_le _) ⟨r1, fun o ho => absurd ho (by omega), FJ.rf⟩ ?_
  intro i M2 hi _ ⟨r2, g2, F2⟩ K hK
  unfold w_X11_leastTempted_9
  rw [F2.1 36 2 (by omega), k1, nI_lt' (by omega) (by omega), tn_nI (n := i) (by omega)]
  refine ⟨fun hlt => ⟨vp_in_nI (by omega) (by decide), fun M3 e3 x hx => ?_⟩, fun hge => ?_⟩
  · rw [hx, nI_1]
    refine hK hlt M3 ⟨RV_cg r2 (fun a k z => by rw [e3, mi_si, if_neg (fun w => z (by unfold PN; omega))]) (fun a k => by rw [e3]; rfl), fun o ho => ?_, by rw [e3]; exact F2.si rfl⟩
    rw [e3, mi_si]
    by_cases c : o = i
    · subst c
      rw [if_pos ⟨rfl, rfl⟩, F2.1 _ _ (by unfold oA; omega)]; exact g1 o (by omega)
    · rw [if_neg (fun w => c w.2)]; exact g2 o (by omega)
  · have : i = tn (X.1 28 0) := by omega
    subst this
    refine LP2_c0 0 (tn (X.1 28 0)) (fun i M' => RV L M' t X wd ∧ (∀ o, o < tn (X.1 28 0) → mi M' 91 o = gnF wd t X n s o) ∧ ltG (tsF wd t X n s) (tn (X.1 28 0)) 0 = ltG (tsF wd t X n s) (tn (X.1 28 0) - i) i) rfl (Nat.zero_le _) ⟨r2, g2, rfl⟩ ?_
    intro i M4 hi _ ⟨r4, g4, l4⟩ K hK
    unfold w_X11_leastTempted_46
    rw [(RX_n r4.1).1.1, nI_lt' (by omega) (by omega)]
    refine ⟨fun hlt => ?_, fun hge => ?_⟩
    · have ls : ltG (tsF wd t X n s) (tn (X.1 28 0) - i) i = if tsF wd t X n s i = true then nI i else ltG (tsF wd t X n s) (tn (X.1 28 0) - (i + 1)) (i + 1) := by
        rw [show tn (X.1 28 0) - i = (tn (X.1 28 0) - (i + 1)) + 1 by omega, ltG_s]
      have skip : ∀ M5 : Mem, RV L M5 t X wd → (∀ o, o < tn (X.1 28 0) → mi M5 91 o = gnF wd t X n s o) → tsF wd t X n s i = false → ∀ x : Int32, x = nI i + 1 → K x M5 := fun M5 a b c x hx => by
        rw [hx, nI_1]
        refine hK hlt M5 ⟨a, b, ?_⟩
        rw [l4, ls, c, if_neg (by decide)]
      rw [sh_bit (by omega) (by omega), ad_eq (by omega), tn_nI (n := i) (by omega)]
      by_cases tb : s.testBit i = true
      · rw [if_pos tb]
        exact ⟨fun z => absurd z (by decide), fun _ x hx => skip M4 r4 g4 (by unfold tsF; rw [tb]; rfl) x hx⟩
      · rw [if_neg tb]
        have tb' : s.testBit i = false := by simpa using tb
        refine ⟨fun _ => c_tri r4 (hb_of r4.1 (ad_lt hs hlt)) (Or.inl rfl) (by omega) (fun M5 r5 g5 _ k5 => ⟨vp_in_nI (by omega) (by decide), ?_⟩), fun z => absurd rfl z⟩
        have g91 : ∀ o, o < tn (X.1 28 0) → mi M5 91 o = gnF wd t X n s o := fun o ho => (k5 o).trans (g4 o ho)
        rw [g91 i hlt, g5 i (by omega)]
        refine ⟨fun c => ?_, fun c x hx => skip M5 r5 g91 (by unfold tsF gnF at *; simp [tb', c]) x hx⟩
        have tt : tsF wd t X n s i = true := by unfold tsF; rw [tb']; simp only [Bool.not_false, Bool.true_and, decide_eq_true_eq]; exact c
        have := hQ M5 r5
        rw [l4, ls, if_pos tt] at this; exact this
    · have : i = tn (X.1 28 0) := by omega
      subst this
      have := hQ M4 r4
      rw [l4, Nat.sub_self] at this; exact this
theorem m_brS {T : Nat} {Q : Int32 → Mem → Prop} (hg : gdT T (vwM 0 M)) (h : Q (nI (bsN (brF (vwM 0 M)) (tn (vwM 0 M 28 0)))) M) : w_X12_breakers L M Q := by
  unfold w_X12_breakers
  have hg' := hg
  obtain ⟨n1, n2, -⟩ := hg'
  refine LP3_c1 0 (tn (vwM 0 M 28 0)) (fun i (v1 : Int32) M' => M' = M ∧ v1 = nI (bsN (brF (vwM 0 M)) i)) rfl (Nat.zero_le _) ⟨rfl, rfl⟩ ?_
  intro i v1 M' hi _ ⟨e, ev⟩ K hK
  subst e ev
  unfold w_X12_breakers_4
  rw [rM_28 (s := 0), n1, nI_lt' (by omega) (by omega), tn_nI (n := i) (by omega)]
  refine ⟨fun hlt => ⟨vp_in_nI (by omega) (by decide), ?_⟩, fun hge => ?_⟩
  · have := rM_111 (s := 0) (i := i) (M := M') (by omega)
    rw [Nat.mul_zero, Nat.zero_add] at this
    rw [this]
    refine ⟨fun c x hx => ?_, fun c x hx y hy => ?_⟩
    · rw [hx, nI_1]
      refine hK hlt _ _ ⟨rfl, ?_⟩
      show _ = nI (bsN (brF (vwM 0 M')) i + if brF (vwM 0 M') i = true then 2 ^ i else 0)
      rw [if_neg (by unfold brF; simp [c])]; rfl
    · rw [hx, hy, nI_1]
      refine hK hlt _ _ ⟨rfl, ?_⟩
      show _ = nI (bsN (brF (vwM 0 M')) i + if brF (vwM 0 M') i = true then 2 ^ i else 0)
      rw [if_pos (by unfold brF; simp [c]), ad_eq (by omega), or_pow (bsN_lt i)]
  · have : i = tn (vwM 0 M' 28 0) := by omega
    subst this; exact h
theorem j_slide {p0 p1 : Int32} (h : RR L M) : w_X11_slide L p0 p1 M (fun a M1 => w_X12_slide L p0 p1 M1 (fun b M2 => a = b ∧ RR L M2)) := by
  have h' := h
  obtain ⟨t, X, h⟩ := h
  have no : ∀ M1 : Mem, M1 = si M 92 0 0 → RR L M1 := fun M1 e => by subst e; exact RR_th h'
  have bad : ∀ M1 : Mem, ¬ (wi p0 1 30 ∧ wi p1 0 1) → M1 = M → w_X12_slide L p0 p1 M1 (fun b M2 => -1 = b ∧ RR L M2) := fun M1 q e2 => by
    subst e2
    unfold w_X12_slide
    intro M2 e
    exact m_wiB (fun _ => ⟨rfl, no M2 e⟩) (fun r1 => m_wiB (fun _ => ⟨rfl, no M2 e⟩) (fun r2 => absurd ⟨r1, r2⟩ q))
  unfold w_X11_slide
  refine c_wiB (fun q => bad _ (fun z => q z.1) rfl) (fun q1 => c_wiB (fun q => bad _ (fun z => q z.2) rfl) (fun q2 => ?_))
  have q1' := q1
  obtain ⟨n, n1, n30, rfl⟩ := wi_nI (a := 1) (b := 30) (by decide) (by decide) q1
  have n10 := h.1.2.2.2.1.1.2.1
  have p2 := p31 n10
  have V := RV_of h
  have b0 : bsN (brF X.1) (tn (X.1 28 0)) < 2 ^ tn (X.1 28 0) := bsN_lt _
  refine c_brSet (w := 1) (T := t) (by rw [h.1.2.1.1]; exact h.1.2.2.2.1.1) ?_
  rw [h.1.2.1.1]
  generalize hs0 : bsN (brF X.1) (tn (X.1 28 0)) = s0 at *
  -- the reference's slide
  have ref : ∀ (a : Int32) (M1 : Mem), RV L M1 t X (fun d => mi M 127 d) → a = (if p1 = 0 then nI (sdG (fun s => ltG (tsF (fun d => mi M 127 d) t X n s) (tn (X.1 28 0)) 0) 10 s0).1 else nI (sdG (fun s => ltG (tsF (fun d => mi M 127 d) t X n s) (tn (X.1 28 0)) 0) 10 s0).2) → w_X12_slide L (nI n) p1 M1 (fun b M2 => a = b ∧ RR L M2) := fun a M1 r1 ea => by
    unfold w_X12_slide
    intro M2 e2
    have r2 : RV L M2 t X (fun d => mi M 127 d) := RV_cg r1 (fun a k z => by rw [e2, mi_si, if_neg (fun w => z (by unfold PN; omega))]) (fun a k => by rw [e2]; rfl)
    refine m_wiB (fun z => absurd q1' z) (fun _ => m_wiB (fun z => absurd q2 z) (fun _ => m_brS (T := t) (by rw [r2.1.1.2.2.1.1]; exact h.1.2.2.2.1.1) ?_))
    rw [r2.1.1.2.2.1.1, hs0]
    refine LP4_m (fun m v3 v4 v5 M' => ∃ f s k, RV L M' t X (fun d => mi M 127 d) ∧ s < 2 ^ tn (X.1 28 0) ∧ v3 = nI s ∧ v4 = nI k ∧ f + k = 10 ∧ tn (X.1 28 0) ≤ f + cnF (fun i => s.testBit i) (tn (X.1 28 0)) ∧
      sdG (fun s => ltG (tsF (fun d => mi M 127 d) t X n s) (tn (X.1 28 0)) 0) 10 s0 = ((sdG (fun s => ltG (tsF (fun d => mi M 127 d) t X n s) (tn (X.1 28 0)) 0) f s).1, (sdG (fun s => ltG (tsF (fun d => mi M 127 d) t X n s) (tn (X.1 28 0)) 0) f s).2 + k) ∧
      ((v5 = 1 ∧ m = 2 * f + 1) ∨ (v5 = 0 ∧ m = 2 * f ∧ ltG (tsF (fun d => mi M 127 d) t X n s) (tn (X.1 28 0)) 0 = -1))) 21 ⟨10, s0, 0, r2, b0, rfl, rfl, rfl, by omega, rfl, Or.inl ⟨rfl, rfl⟩⟩ ?_
    intro m v3 v4 v5 M3 ⟨f, s, k, r3, hs, ev3, ev4, hfk, hcn, hsd, hv⟩ K hK
    subst ev3 ev4
    unfold w_X12_slide_37
    refine ⟨fun c x hx => ?_, fun c => ?_⟩
    · rcases hv with ⟨z, -⟩ | ⟨-, -, z⟩
      · rw [z] at c; exact absurd c (by decide)
      · have e := sd_end (lt := fun s => ltG (tsF (fun d => mi M 127 d) t X n s) (tn (X.1 28 0)) 0) z f
        rw [e] at hsd
        refine ⟨?_, t, X, r3.1⟩
        rw [ea, hsd, hx]
        show (if p1 = 0 then nI s else nI (0 + k)) = _
        rw [Nat.zero_add]
    · have hm : m = 2 * f + 1 := by
        rcases hv with ⟨-, z⟩ | ⟨z, -⟩
        · exact z
        · exact absurd z c
      refine LP5_c3 0 (tn (X.1 28 0)) (fun i v3 v4 v5 M' => RV L M' t X (fun d => mi M 127 d) ∧
        ((v3 = nI s ∧ v4 = nI k ∧ v5 = 0 ∧ ltG (tsF (fun d => mi M 127 d) t X n s) (tn (X.1 28 0)) 0 = ltG (tsF (fun d => mi M 127 d) t X n s) (tn (X.1 28 0) - i) i) ∨
         ∃ o, o < tn (X.1 28 0) ∧ s.testBit o = false ∧ ltG (tsF (fun d => mi M 127 d) t X n s) (tn (X.1 28 0)) 0 = nI o ∧ v3 = nI (s ||| 2 ^ o) ∧ v4 = nI (k + 1) ∧ v5 = 1)) rfl (Nat.zero_le _) ⟨r3, Or.inl ⟨rfl, rfl, rfl, rfl⟩⟩ ?_
      intro i v3 v4 v5 M4 hi _ ⟨r4, hv4⟩ K2 hK2
      unfold w_X12_slide_48
      rw [(RX_n r4.1).1.2.1, nI_lt' (by omega) (by omega)]
      -- found: the outer loop again
      have found : ∀ o, o < tn (X.1 28 0) → s.testBit o = false → ltG (tsF (fun d => mi M 127 d) t X n s) (tn (X.1 28 0)) 0 = nI o → v3 = nI (s ||| 2 ^ o) → v4 = nI (k + 1) → v5 = 1 → K v3 v4 v5 M4 := fun o ho tb el e3 e4 e5 => by
        have c1 := cn_lt (p := fun i => s.testBit i) (tn (X.1 28 0)) o ho tb
        have c2 := cn_add tb (tn (X.1 28 0)) ho
        cases f with
        | zero => omega
        | succ f =>
          rw [sdG_s (f := f) (s := s), if_neg (by show ¬ ltG _ _ _ = -1; rw [el, nI_m1 (by omega)]; exact id)] at hsd
          have hsd : sdG (fun s => ltG (tsF (fun d => mi M 127 d) t X n s) (tn (X.1 28 0)) 0) 10 s0 = ((sdG (fun s => ltG (tsF (fun d => mi M 127 d) t X n s) (tn (X.1 28 0)) 0) f (s ||| 2 ^ tn (ltG (tsF (fun d => mi M 127 d) t X n s) (tn (X.1 28 0)) 0))).1, (sdG (fun s => ltG (tsF (fun d => mi M 127 d) t X n s) (tn (X.1 28 0)) 0) f (s ||| 2 ^ tn (ltG (tsF (fun d => mi M 127 d) t X n s) (tn (X.1 28 0)) 0))).2 + 1 + k) := hsd
          rw [el, tn_nI (by omega)] at hsd
          refine hK (2 * f + 1) (by omega) v3 v4 v5 M4 ⟨f, s ||| 2 ^ o, k + 1, r4, ad_lt hs ho, e3, e4, by omega, by omega, ?_, Or.inl ⟨e5, rfl⟩⟩
          rw [hsd, Nat.add_assoc, Nat.add_comm 1 k]
      refine ⟨fun hlt => ⟨fun c5 => ?_, fun c5 => ?_⟩, fun hge => ?_⟩
      · rcases hv4 with ⟨e3, e4, e5, el⟩ | ⟨o, ho, tb, el, e3, e4, e5⟩
        · subst e3 e4
          have ls : ltG (tsF (fun d => mi M 127 d) t X n s) (tn (X.1 28 0) - i) i = if tsF (fun d => mi M 127 d) t X n s i = true then nI i else ltG (tsF (fun d => mi M 127 d) t X n s) (tn (X.1 28 0) - (i + 1)) (i + 1) := by
            rw [show tn (X.1 28 0) - i = (tn (X.1 28 0) - (i + 1)) + 1 by omega, ltG_s]
          have skip : ∀ M5 : Mem, RV L M5 t X (fun d => mi M 127 d) → tsF (fun d => mi M 127 d) t X n s i = false → ∀ x : Int32, x = nI i + 1 → K2 (nI s) (nI k) v5 x M5 := fun M5 a c x hx => by
            rw [hx, nI_1]
            refine hK2 hlt _ _ _ M5 ⟨a, Or.inl ⟨rfl, rfl, e5, ?_⟩⟩
            rw [el, ls, c, if_neg (by decide)]
          rw [sh_bit (by omega) (by omega)]
          by_cases tb : s.testBit i = true
          · rw [if_pos tb]
            exact ⟨fun _ x hx => skip M4 r4 (by unfold tsF; rw [tb]; rfl) x hx, fun z => absurd rfl z⟩
          · rw [if_neg tb]
            have tb' : s.testBit i = false := by simpa using tb
            refine ⟨fun z => absurd z (by decide), fun _ => m_tp r4 hlt (by omega) (fun M5 r5 => ?_)⟩
            rw [rm_same hs n10 tb']
            by_cases cc : gnF (fun d => mi M 127 d) t X n s i < gnF (fun d => mi M 127 d) t X n (s ||| 2 ^ i) i
            · rw [if_pos cc]
              refine ⟨fun z => absurd z (by decide), fun _ x hx y hy z hz => ?_⟩
              rw [hx, hy, hz, nI_1, nI_1, ad_eq (by omega)]
              refine hK2 hlt _ _ _ M5 ⟨r5, Or.inr ⟨i, hlt, tb', ?_, rfl, rfl, rfl⟩⟩
              rw [el, ls, if_pos]
              unfold tsF; rw [tb']; simp only [Bool.not_false, Bool.true_and, decide_eq_true_eq]; exact cc
            · rw [if_neg cc]
              exact ⟨fun _ x hx => skip M5 r5 (by unfold tsF; simp [tb', cc]) x hx, fun z => absurd rfl z⟩
        · rw [e5] at c5; exact absurd c5 (by decide)
      · rcases hv4 with ⟨e3, e4, e5, el⟩ | ⟨o, ho, tb, el, e3, e4, e5⟩
        · exact absurd e5 c5
        · exact found o ho tb el e3 e4 e5
      · rcases hv4 with ⟨e3, e4, e5, el⟩ | ⟨o, ho, tb, el, e3, e4, e5⟩
        · have : i = tn (X.1 28 0) := by omega
          subst this
          rw [Nat.sub_self] at el
          exact hK (2 * f) (by omega) v3 v4 v5 M4 ⟨f, s, k, r4, hs, e3, e4, hfk, hcn, hsd, Or.inr ⟨e5, rfl, el⟩⟩
        · exact found o ho tb el e3 e4 e5
  -- the class's slide
  refine LP4_c2 0 10 (fun i v3 v4 M' => ∃ s, RV L M' t X (fun d => mi M 127 d) ∧ s < 2 ^ tn (X.1 28 0) ∧ v3 = nI s ∧ v4 = nI i ∧
    sdG (fun s => ltG (tsF (fun d => mi M 127 d) t X n s) (tn (X.1 28 0)) 0) 10 s0 = ((sdG (fun s => ltG (tsF (fun d => mi M 127 d) t X n s) (tn (X.1 28 0)) 0) (10 - i) s).1, (sdG (fun s => ltG (tsF (fun d => mi M 127 d) t X n s) (tn (X.1 28 0)) 0) (10 - i) s).2 + i)) rfl (by decide) ⟨s0, V, b0, rfl, rfl, rfl⟩ ?_
  intro i v3 v4 M1 hi _ ⟨s, r1, hs, e3, e4, hsd⟩ K hK
  subst e3 e4
  unfold w_X11_slide_35 w_X11_slide_75
  rw [show (10 : Int32) = nI 10 from rfl, nI_lt' (by omega) (by omega)]
  refine ⟨fun hlt => c_least r1 hs (by omega) (fun M2 r2 => ⟨fun c x hx => ?_, fun c x hx y hy z hz => ?_⟩), fun hge x hx => ?_⟩
  · refine ref x M2 r2 ?_
    have e := sd_end (lt := fun s => ltG (tsF (fun d => mi M 127 d) t X n s) (tn (X.1 28 0)) 0) c (10 - i)
    rw [e] at hsd
    rw [hsd, hx]
    show _ = if p1 = 0 then nI s else nI (0 + i)
    rw [Nat.zero_add]
  · rcases lt_spec (T := tsF (fun d => mi M 127 d) t X n s) (tn (X.1 28 0)) 0 with q | ⟨o, -, ho, ht, el⟩
    · exact absurd q c
    · have ho' : o < tn (X.1 28 0) := by omega
      rw [el] at hx
      rw [hx, hy, hz, nI_1, ad_eq (by omega)]
      refine hK hlt _ _ M2 ⟨s ||| 2 ^ o, r2, ad_lt hs ho', rfl, rfl, ?_⟩
      rw [show 10 - i = (10 - (i + 1)) + 1 by omega, sdG_s (f := 10 - (i + 1)) (s := s), if_neg c] at hsd
      have hsd : sdG (fun s => ltG (tsF (fun d => mi M 127 d) t X n s) (tn (X.1 28 0)) 0) 10 s0 = ((sdG (fun s => ltG (tsF (fun d => mi M 127 d) t X n s) (tn (X.1 28 0)) 0) (10 - (i + 1)) (s ||| 2 ^ tn (ltG (tsF (fun d => mi M 127 d) t X n s) (tn (X.1 28 0)) 0))).1, (sdG (fun s => ltG (tsF (fun d => mi M 127 d) t X n s) (tn (X.1 28 0)) 0) (10 - (i + 1)) (s ||| 2 ^ tn (ltG (tsF (fun d => mi M 127 d) t X n s) (tn (X.1 28 0)) 0))).2 + 1 + i) := hsd
      rw [el, tn_nI (by omega)] at hsd
      rw [hsd, Nat.add_assoc, Nat.add_comm 1 i]
  · have : i = 10 := by omega
    subst this
    refine ref x M1 r1 ?_
    rw [hsd, hx]
    show _ = if p1 = 0 then nI s else nI (0 + 10)
    rw [Nat.zero_add]
-- issues that are tried
def giF (wd : Nat → Int32) (t : Nat) (X : WS) (iss : Int32) : Int32 := smF (fun o => (trI wd iss t (bkX X (nI (bsN (brF X.1) (tn (X.1 28 0))))) 30).1 110 o) (tn (X.1 28 0))
theorem c_gains {t : Nat} {X : WS} {wd : Nat → Int32} {iss : Int32} {Q : Int32 → Mem → Prop} (h : RV L M t X wd) (hi : iss = -1 ∨ ∃ k, k ≤ 9999 ∧ iss = nI k) (hQ : ∀ M', RV L M' t X wd → Q (giF wd t X iss) M') : w_X11_gainsWith L iss M Q := by
  have n10 := h.1.1.2.2.2.1.1.2.1
  unfold w_X11_gainsWith
  refine c_brSet (w := 1) (T := t) (by rw [h.1.1.2.1.1]; exact h.1.1.2.2.2.1.1) ?_
  rw [h.1.1.2.1.1, show (30 : Int32) = nI 30 from rfl]
  refine c_tri h (hb_of h.1 (bsN_lt _)) hi (by omega) (fun M1 r1 g1 k1 _ => ?_)
  refine LP3_c1 0 (tn (X.1 28 0)) (fun i (v : Int32) M' => M' = M1 ∧ v = smF (fun o => (trI wd iss t (bkX X (nI (bsN (brF X.1) (tn (X.1 28 0))))) 30).1 110 o) i) rfl (Nat.zero_le _) ⟨rfl, rfl⟩ ?_
  intro i v M2 hi2 _ ⟨e, ev⟩ K hK
  subst e ev
  unfold w_X11_gainsWith_18
  rw [k1, nI_lt' (by omega) (by omega), tn_nI (n := i) (by omega)]
  refine ⟨fun hlt => ⟨vp_in_nI (by omega) (by decide), fun x hx y hy => ?_⟩, fun hge => ?_⟩
  · rw [hy, nI_1]
    refine hK hlt _ _ ⟨rfl, ?_⟩
    rw [hx, g1 i (by omega)]; rfl
  · have : i = tn (X.1 28 0) := by omega
    subst this
    exact hQ M2 r1
theorem m_gains {t : Nat} {X : WS} {wd : Nat → Int32} {iss : Int32} {Q : Int32 → Mem → Prop} (h : RV L M t X wd) (hi : iss = -1 ∨ ∃ k, k ≤ 9999 ∧ iss = nI k) (hQ : ∀ M', RV L M' t X wd → mi M' 92 0 = mi M 92 0 → Q (giF wd t X iss) M') : w_X12_triedWith L iss M Q := by
  have n10 := h.1.1.2.2.2.1.1.2.1
  unfold w_X12_triedWith
  refine m_brS (T := t) (by rw [h.1.1.2.2.1.1]; exact h.1.1.2.2.2.1.1) ?_
  rw [h.1.1.2.2.1.1, show (30 : Int32) = nI 30 from rfl]
  refine m_tri h hi (by omega) (fun M1 r1 g1 k1 => ?_)
  refine LP3_c1 0 (tn (X.1 28 0)) (fun i (v : Int32) M' => M' = M1 ∧ v = smF (fun o => (trI wd iss t (bkX X (nI (bsN (brF X.1) (tn (X.1 28 0))))) 30).1 110 o) i) rfl (Nat.zero_le _) ⟨rfl, rfl⟩ ?_
  intro i v M2 hi2 _ ⟨e, ev⟩ K hK
  subst e ev
  unfold w_X12_triedWith_16
  rw [(RX_n r1.1).1.2.1, nI_lt' (by omega) (by omega), show (10 : Int32) = nI 10 from rfl, nI_add, tn_nI (n := 10 + i) (by omega)]
  refine ⟨fun hlt => ⟨vp_in_nI (by omega) (by decide), fun x hx y hy => ?_⟩, fun hge => ?_⟩
  · rw [hy, nI_1]
    refine hK hlt _ _ ⟨rfl, ?_⟩
    rw [hx, g1 i (by omega)]; rfl
  · have : i = tn (X.1 28 0) := by omega
    subst this
    exact hQ M2 r1 k1
def beF (G : Int32 → Int32) (s : Nat) : Nat → Int32 × Int32
  | 0 => (0, G 0)
  | k + 1 => if (beF G s k).2 < G (nI ((k + 1) * s)) then (nI ((k + 1) * s), G (nI ((k + 1) * s))) else beF G s k
theorem beF_s {G : Int32 → Int32} {s k : Nat} : beF G s (k + 1) = if (beF G s k).2 < G (nI ((k + 1) * s)) then (nI ((k + 1) * s), G (nI ((k + 1) * s))) else beF G s k := rfl
theorem j_best {p0 : Int32} (h : RR L M) : w_X11_best L p0 M (fun a M1 => w_X12_best L p0 M1 (fun b M2 => a = b ∧ RR L M2)) := by
  have h' := h
  obtain ⟨t, X, h⟩ := h
  have no : ∀ M1 : Mem, M1 = si M 92 0 0 → RR L M1 := fun M1 e => by subst e; exact RR_th h'
  unfold w_X11_best
  refine c_wiB (fun q => ?_) (fun q1 => ?_)
  · unfold w_X12_best
    intro M2 e
    exact m_wiB (fun _ => ⟨rfl, no M2 e⟩) (fun r1 => absurd r1 q)
  have q1' := q1
  obtain ⟨s, s1, s400, rfl⟩ := wi_nI (a := 1) (b := 400) (by decide) (by decide) q1
  have V := RV_of h
  generalize hwd : (fun d => mi M 127 d) = wd at V
  have iss : ∀ i, i ≤ 20 → ((nI i * nI s = -1) ∨ ∃ k, k ≤ 9999 ∧ nI i * nI s = nI k) := fun i hi => Or.inr ⟨i * s, by have := Nat.mul_le_mul hi s400; omega, by rw [pk_mul]⟩
  refine c_gains V (Or.inr ⟨0, by omega, rfl⟩) (fun M1 r1 => ?_)
  refine LP4_c2 1 21 (fun i v2 v3 M' => RV L M' t X wd ∧ (v2, v3) = beF (giF wd t X) s (i - 1)) rfl (by decide) ⟨r1, rfl⟩ ?_
  intro i v2 v3 M2 hi hi1 ⟨r2, ev⟩ K hK
  unfold w_X11_best_24
  rw [show (20 : Int32) = nI 20 from rfl, nI_lt' (by omega) (by omega)]
  refine ⟨fun hlt => ?_, fun hge => c_gains r2 (iss i (by omega)) (fun M3 r3 => ⟨fun c x hx y hy => ?_, fun c x hx => ?_⟩)⟩
  · have e21 : i = 21 := by omega
    subst e21
    have ev2 : v2 = (beF (giF wd t X) s 20).1 := congrArg Prod.fst ev
    rw [ev2]
    unfold w_X12_best
    intro M3 e3
    have r3 : RV L M3 t X wd := RV_cg r2 (fun a k z => by rw [e3, mi_si, if_neg (fun w => z (by unfold PN; omega))]) (fun a k => by rw [e3]; rfl)
    refine m_wiB (fun z => absurd q1' z) (fun _ => m_gains r3 (Or.inr ⟨0, by omega, rfl⟩) (fun M4 r4 _ => ?_))
    refine LP4_c2 1 21 (fun i v2 v3 M' => RV L M' t X wd ∧ (v2, v3) = beF (giF wd t X) s (i - 1)) rfl (by decide) ⟨r4, rfl⟩ ?_
    intro i w2 w3 M5 hi hi1 ⟨r5, ew⟩ K2 hK2
    unfold w_X12_best_29
    rw [show (20 : Int32) = nI 20 from rfl, nI_lt' (by omega) (by omega)]
    have w23 : w2 = (beF (giF wd t X) s (i - 1)).1 ∧ w3 = (beF (giF wd t X) s (i - 1)).2 := ⟨congrArg Prod.fst ew, congrArg Prod.snd ew⟩
    have bs : beF (giF wd t X) s (i + 1 - 1) = if w3 < giF wd t X (nI i * nI s) then (nI i * nI s, giF wd t X (nI i * nI s)) else (w2, w3) := by
      rw [show i + 1 - 1 = (i - 1) + 1 by omega, beF_s, show i - 1 + 1 = i by omega, ← w23.2, pk_mul, ← ew]
    refine ⟨fun hlt => ?_, fun hge => m_gains r5 (iss i (by omega)) (fun M6 r6 _ => ⟨fun c x hx y hy => ?_, fun c x hx => ?_⟩)⟩
    · have e21 : i = 21 := by omega
      subst e21
      exact ⟨w23.1.symm, t, X, r5.1⟩
    · rw [hx, hy, nI_1]
      refine hK2 (by omega) _ _ M6 ⟨r6, ?_⟩
      rw [bs, if_pos c]
    · rw [hx, nI_1]
      refine hK2 (by omega) _ _ M6 ⟨r6, ?_⟩
      rw [bs, if_neg c]
  · have v23 : v3 = (beF (giF wd t X) s (i - 1)).2 := congrArg Prod.snd ev
    rw [hx, hy, nI_1]
    refine hK (by omega) _ _ M3 ⟨r3, ?_⟩
    rw [show i + 1 - 1 = (i - 1) + 1 by omega, beF_s, show i - 1 + 1 = i by omega, ← v23, ← pk_mul, if_pos c]
  · have v23 : v3 = (beF (giF wd t X) s (i - 1)).2 := congrArg Prod.snd ev
    rw [hx, nI_1]
    refine hK (by omega) _ _ M3 ⟨r3, ?_⟩
    rw [show i + 1 - 1 = (i - 1) + 1 by omega, beF_s, show i - 1 + 1 = i by omega, ← v23, ← pk_mul, if_neg c]; exact ev
end SLI
