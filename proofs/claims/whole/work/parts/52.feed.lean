-- LEVEL 3, part 36: winds and feed
theorem nwB : ∀ w, w < 4 → narB (jbyt (nI w)) = nI w := by decide +kernel
section FEE
variable {L : Lay} {M : Mem}
theorem j_winds {p0 p1 : Int32} (h : RR L M) : w_X11_winds L p0 p1 M (fun a M1 => w_X12_winds L p0 p1 M1 (fun b M2 => a = b ∧ RR L M2)) := by
  have h' := h
  obtain ⟨t, X, h⟩ := h
  obtain ⟨n, hn, hC, hM, hd1, hd2⟩ := h.2.1
  have no : ∀ M1 : Mem, M1 = si M 92 0 0 → RR L M1 := fun M1 e => by subst e; exact RR_th h'
  have bad : ∀ M1 : Mem, ¬ (wi p0 0 3 ∧ wi p1 1 60 ∧ ∀ k, k ≤ 60 → p1 = nI k → n + k ≤ 720) → M1 = M → w_X12_winds L p0 p1 M1 (fun b M2 => -1 = b ∧ RR L M2) := fun M1 q e2 => by
    subst e2
    unfold w_X12_winds
    intro M2 e
    refine m_wiB (fun _ => ⟨rfl, no M2 e⟩) (fun q1 => m_wiB (fun _ => ⟨rfl, no M2 e⟩) (fun q2 => ?_))
    have hM' : mi M2 92 37 = nI n := by rw [e]; exact hM
    have q2' := q2
    obtain ⟨k, k1, k2, rfl⟩ := wi_nI (a := 1) (b := 60) (by decide) (by decide) q2
    rw [hM', nI_add, show (720 : Int32) = nI 720 from rfl, nI_lt' (by omega) (by omega)]
    refine ⟨fun _ => ⟨rfl, no M2 e⟩, fun z => absurd ⟨q1, q2', fun j hj ej => ?_⟩ q⟩
    have := (nI_eq (by omega) (by omega)).mp ej
    omega
  unfold w_X11_winds
  refine c_wiB (fun q => bad _ (fun z => q z.1) rfl) (fun q1 => c_wiB (fun q => bad _ (fun z => q z.2.1) rfl) (fun q2 => ?_))
  have q2' := q2
  obtain ⟨k, k1, k2, rfl⟩ := wi_nI (a := 1) (b := 60) (by decide) (by decide) q2
  have q1' := q1
  obtain ⟨w, w1, w2, rfl⟩ := wi_nI (a := 0) (b := 3) (by decide) (by decide) q1
  rw [hC, nI_add, nI_lt' (by omega) (by omega)]
  refine ⟨fun z => bad _ (fun y => absurd (y.2.2 k k2 rfl) (by omega)) rfl, fun z x8 e8 => ?_⟩
  refine LP2_c0 n (n + k) (fun i M' => (∀ d, n ≤ d → d < i → mi M' 90 d = nI w) ∧ FJ (fun a j => a = 90 ∧ n ≤ j ∧ j < i) M M') e8 (by omega) ⟨fun d a b => absurd b (by omega), FJ.rf⟩ ?_
  intro i M1 hi hi2 ⟨a1, F1⟩ K hK
  unfold w_X11_winds_40
  rw [F1.1 0 7 (by omega), hC, nI_add, nI_lt' (by omega) (by omega), tn_nI (n := i) (by omega), nwB w (by omega)]
  refine ⟨fun hlt => ⟨vp_in_nI (by omega) (by decide), fun M2 e2 x hx => ?_⟩, fun hge M2 e2 => ?_⟩
  · rw [hx, nI_1]
    refine hK hlt M2 ⟨fun d d1 d2 => ?_, ?_⟩
    · rw [e2, mi_si]
      by_cases c : d = i
      · rw [if_pos ⟨rfl, c⟩]
      · rw [if_neg (fun y => c y.2)]; exact a1 d d1 (by omega)
    · rw [e2]; exact (F1.mono (fun a j q => by omega)).si (by omega)
  · have hik : i = n + k := by omega
    subst hik
    have f2 : ∀ a j, ¬ (a = 0 ∧ j = 7) → ¬ (a = 90 ∧ n ≤ j ∧ j < n + k) → mi M2 a j = mi M a j := fun a j c1 c2 => by
      rw [e2, mi_si, if_neg c1, F1.1 a j c2]
    have g2 : ∀ d, n ≤ d → d < n + k → mi M2 90 d = nI w := fun d d1 d2 => by rw [e2, mi_si, if_neg (by omega)]; exact a1 d d1 d2
    have s2 : mi M2 0 7 = nI (n + k) := by rw [e2, mi_si, if_pos ⟨rfl, rfl⟩]
    have p2 : M2.2 = M.2 := by rw [e2]; exact F1.2
    rw [s2]
    unfold w_X12_winds
    intro M3 e3
    have i3 : ∀ a j, ¬ (a = 92 ∧ j = 0) → mi M3 a j = mi M2 a j := fun a j c => by rw [e3, mi_si, if_neg c]
    refine m_wiB (fun y => absurd q1' y) (fun _ => m_wiB (fun y => absurd q2' y) (fun _ => ?_))
    have h37 : mi M3 92 37 = nI n := by rw [i3 _ _ (by omega), f2 _ _ (by omega) (by omega)]; exact hM
    rw [h37, nI_add, show (720 : Int32) = nI 720 from rfl, nI_lt' (by omega) (by omega)]
    refine ⟨fun y => absurd y z, fun _ => ?_⟩
    refine LP2_c0 0 k (fun i M' => mi M' 92 37 = nI (n + i) ∧ (∀ d, n < d → d ≤ n + i → mi M' 127 d = nI w) ∧ FJ (fun a j => (a = 92 ∧ j = 37) ∨ (a = 127 ∧ n < j ∧ j ≤ n + i)) M3 M') rfl (by omega) ⟨h37, fun d a b => absurd b (by omega), FJ.rf⟩ ?_
    intro i M4 hi3 _ ⟨a4, b4, F4⟩ K hK
    unfold w_X12_winds_40
    rw [nI_lt' (by omega) (by omega), a4, nI_1]
    refine ⟨fun hlt M5 e5 => ?_, fun hge => ?_⟩
    · have a5 : mi M5 92 37 = nI (n + i + 1) := by rw [e5, mi_si, if_pos ⟨rfl, rfl⟩]
      rw [a5, tn_nI (n := n + i + 1) (by omega)]
      refine ⟨vp_in_nI (by omega) (by decide), fun M6 e6 x hx => ?_⟩
      rw [hx, nI_1]
      refine hK hlt M6 ⟨?_, fun d d1 d2 => ?_, ?_⟩
      · rw [e6, mi_si, if_neg (by omega)]; exact a5
      · rw [e6, mi_si]
        by_cases c : d = n + i + 1
        · rw [if_pos ⟨rfl, c⟩]
        · rw [if_neg (fun y => c y.2), e5, mi_si, if_neg (by omega)]; exact b4 d d1 (by omega)
      · rw [e6, e5]; exact ((F4.mono (fun a j q => by omega)).si (Or.inl ⟨rfl, rfl⟩)).si (Or.inr (by omega))
    · have hik : i = k := by omega
      subst hik
      refine ⟨rfl, t, X, CR_cg h.1 (fun a j q => ?_) (fun a j q => ?_), ?_⟩
      · rw [F4.1 a j (by unfold PCr at q; omega), i3 a j (by unfold PCr at q; omega), f2 a j (by unfold PCr at q; omega) (by unfold PCr at q; omega)]
      · rw [F4.mp, e3]; show mp M2 a j = _; unfold mp; rw [p2]
      · obtain ⟨-, r2, r3, r4, r5⟩ := h.2
        have fa : ∀ a j, a ≠ 0 → a ≠ 90 → ¬ (a = 92 ∧ (j = 0 ∨ j = 37)) → a ≠ 127 → mi M4 a j = mi M a j := fun a j c1 c2 c3 c4 => by
          rw [F4.1 a j (by omega), i3 a j (by omega), f2 a j (by omega) (by omega)]
        refine ⟨⟨n + i, by omega, ?_, a4, fun d hd => ?_, fun d d1 d2 => ?_⟩, TP_cg r2 (fun a j q => fa a j (by unfold PTp at q; omega) (by unfold PTp at q; omega) (by unfold PTp at q; omega) (by unfold PTp at q; omega)), MO_cg r3 (fun a j q => fa a j (by unfold PMo at q; omega) (by unfold PMo at q; omega) (by unfold PMo at q; omega) (by unfold PMo at q; omega)) (fun a j q => ?_), RE_cg r4 (fun a j q => fa a j (by unfold PRe at q; omega) (by unfold PRe at q; omega) (by unfold PRe at q; omega) (by unfold PRe at q; omega)), SA_cg r5 (Nat.le_refl _) (fun a j q => fa a j (by unfold PSa at q; omega) (by unfold PSa at q; omega) (by unfold PSa at q; omega) (by unfold PSa at q; omega))⟩
        · rw [F4.1 0 7 (by omega), i3 _ _ (by omega)]; exact s2
        · rw [F4.1 90 d (by omega), i3 _ _ (by omega)]
          by_cases c : d < n
          · rw [f2 _ _ (by omega) (by omega), F4.1 127 (d + 1) (by omega), i3 _ _ (by omega), f2 _ _ (by omega) (by omega)]; exact hd1 d c
          · rw [g2 d (by omega) hd, b4 (d + 1) (by omega) (by omega)]
        · rw [F4.1 127 d (by omega), i3 _ _ (by omega), f2 _ _ (by omega) (by omega)]; exact hd2 d (by omega) d2
        · rw [F4.mp, e3]; show mp M2 a j = _; unfold mp; rw [p2]
-- the tape
def byF (w : Int64) (k : Nat) : Int32 := ((jlushr w (nI (56 - 8 * k))) &&& (255 : Int64)).toInt32
def okB (x : Int32) : Bool := decide (x = 10) || (!decide (x < 32) && !decide (126 < x))
def psF (q : Nat × (Nat → Int32)) (x : Int32) : Nat × (Nat → Int32) := if okB x = true ∧ q.1 < 1000 then (q.1 + 1, upd q.2 q.1 x) else q
def psG (b : Nat → Int32) (q : Nat × (Nat → Int32)) : Nat → Nat × (Nat → Int32)
  | 0 => q
  | i + 1 => psF (psG b q i) (b i)
def okQ (q : Nat × (Nat → Int32)) : Prop := q.1 ≤ 1000 ∧ ∀ i, i < q.1 → ∃ c, (c = 10 ∨ (32 ≤ c ∧ c ≤ 126)) ∧ q.2 i = nI c
theorem okB_c {x : Int32} (h : okB x = true) : ∃ c, (c = 10 ∨ (32 ≤ c ∧ c ≤ 126)) ∧ x = nI c := by
  unfold okB at h
  simp only [Bool.or_eq_true, decide_eq_true_eq, Bool.and_eq_true, Bool.not_eq_true', decide_eq_false_iff_not] at h
  rcases h with h | ⟨h1, h2⟩
  · exact ⟨10, Or.inl rfl, h⟩
  · obtain ⟨k, k1, k2, rfl⟩ := wi_nI (a := 32) (b := 126) (by decide) (by decide) ⟨h1, h2⟩
    exact ⟨k, Or.inr ⟨k1, k2⟩, rfl⟩
theorem nchr : ∀ c, c < 128 → narC (jchr (nI c)) = nI c := by decide +kernel
theorem psF_ok {q : Nat × (Nat → Int32)} {x : Int32} (h : okQ q) : okQ (psF q x) := by
  unfold psF
  by_cases c : okB x = true ∧ q.1 < 1000
  · rw [if_pos c]
    refine ⟨c.2, fun i hi => ?_⟩
    show ∃ c, _ ∧ (if i = q.1 then x else q.2 i) = nI c
    have hi : i < q.1 + 1 := hi
    by_cases d : i = q.1
    · rw [if_pos d]; exact okB_c c.1
    · rw [if_neg d]; exact h.2 i (by omega)
  · rw [if_neg c]; exact h
theorem psG_ok {b : Nat → Int32} {q : Nat × (Nat → Int32)} (h : okQ q) : ∀ i, okQ (psG b q i) := by
  intro i
  induction i with
  | zero => exact h
  | succ i ih => exact psF_ok ih
theorem psG_add {b : Nat → Int32} {q : Nat × (Nat → Int32)} {i : Nat} : ∀ j, psG b q (i + j) = psG (fun k => b (i + k)) (psG b q i) j := by
  intro j
  induction j with
  | zero => rfl
  | succ j ih => show psF (psG b q (i + j)) (b (i + j)) = _; rw [ih]; rfl
theorem psG_cg {b b' : Nat → Int32} {q : Nat × (Nat → Int32)} : ∀ i, (∀ k, k < i → b k = b' k) → psG b q i = psG b' q i := by
  intro i
  induction i with
  | zero => intro _; rfl
  | succ i ih => intro h; show psF (psG b q i) (b i) = psF (psG b' q i) (b' i); rw [ih (fun k hk => h k (by omega)), h i (by omega)]
def thC (M : Mem) (q : Nat × (Nat → Int32)) : Prop := mi M 71 1 = nI q.1 ∧ ∀ i, i < q.1 → mi M 72 i = q.2 i
def thM (M : Mem) (q : Nat × (Nat → Int32)) : Prop := mi M 92 42 = nI q.1 ∧ ∀ i, i < q.1 → mi M 129 i = q.2 i
def shF (i : Nat) : Int32 := if i < 8 then nI (56 - 8 * i) else -8
theorem shF_t : ∀ i, i < 8 → shF i + (-8 : Int32) = shF (i + 1) ∧ ¬ shF i < 0 ∧ shF i = nI (56 - 8 * i) := by decide +kernel
theorem chB {x : Int32} : (if x = (10 : Int32) then (1 : Int32) else (if x < (32 : Int32) then (0 : Int32) else (if (126 : Int32) < x then (0 : Int32) else (1 : Int32)))) = if okB x = true then 1 else 0 := by
  unfold okB
  by_cases a : x = 10
  · rw [if_pos a, if_pos (by simp [a])]
  · rw [if_neg a]
    by_cases b : x < 32
    · rw [if_pos b, if_neg (by simp [a, b])]
    · rw [if_neg b]
      by_cases c : 126 < x
      · rw [if_pos c, if_neg (by simp [a, b, c])]
      · rw [if_neg c, if_pos (by simp [a, b, c])]
theorem c_add {q : Nat × (Nat → Int32)} {w : Int64} {Q : Mem → Prop} (hq : okQ q) (ht : thC M q) (h : ∀ M', thC M' (psG (byF w) q 8) → FJ (fun a k => (a = 71 ∧ k = 1) ∨ a = 72) M M' → Q M') : w_X5_addBytes L w M Q := by
  unfold w_X5_addBytes
  refine LP2_m (fun n v M' => ∃ i, i ≤ 8 ∧ n = 8 - i ∧ v = shF i ∧ thC M' (psG (byF w) q i) ∧ FJ (fun a k => (a = 71 ∧ k = 1) ∨ a = 72) M M') 8 ⟨0, by omega, rfl, rfl, ht, FJ.rf⟩ ?_
  intro n v M1 ⟨i, hi, hn, hv, ht1, F1⟩ K hK
  unfold w_X5_addBytes_3
  refine ⟨fun hlt => ?_, fun hge x2 e2 x3 e3 => ?_⟩
  · by_cases c : i = 8
    · subst c; exact h M1 ht1 F1
    · exact absurd hlt (by rw [hv]; exact (shF_t i (by omega)).2.1)
  · have hi8 : i < 8 := by
      rcases Nat.lt_or_ge i 8 with c | c
      · exact c
      · exact absurd (by rw [hv]; have : i = 8 := by omega
                         subst this; decide) hge
    obtain ⟨s1, s2, s3⟩ := shF_t i hi8
    have ex : x2 = byF w i := by rw [e2, hv, s3]; rfl
    rw [chB] at e3
    have go : ∀ (x : Int32) (M2 : Mem), x = v + (-8 : Int32) → thC M2 (psG (byF w) q (i + 1)) → FJ (fun a k => (a = 71 ∧ k = 1) ∨ a = 72) M M2 → K x M2 := fun x M2 hx a b => by
      refine hK (8 - (i + 1)) (by omega) x M2 ⟨i + 1, by omega, rfl, ?_, a, b⟩
      rw [hx, hv]; exact s1
    have hst : psG (byF w) q (i + 1) = psF (psG (byF w) q i) x2 := by rw [ex]; rfl
    by_cases ok : okB x2 = true
    · rw [if_pos ok] at e3; subst e3
      refine ⟨fun z => absurd z (by decide), fun _ => ?_⟩
      have ho := (psG_ok (b := byF w) hq i).1
      have t1 := ht1.1
      rw [t1, nI_lt' (by omega) (by omega), tn_nI (n := (psG (byF w) q i).1) (by omega)]
      refine ⟨fun hlt => ⟨vp_in_nI (by omega) (by decide), fun M9 e9 M10 e10 x hx => go x M10 hx ?_ ?_⟩, fun hge x hx => go x M1 hx ?_ F1⟩
      · rw [hst]; unfold psF; rw [if_pos ⟨ok, hlt⟩]
        obtain ⟨c, hc, ec⟩ := okB_c ok
        rw [ec, nchr c (by omega)] at e9
        have t9 : mi M9 71 1 = nI (psG (byF w) q i).1 := by rw [e9, mi_si, if_neg (by omega)]; exact t1
        rw [t9, nI_1] at e10
        refine ⟨by rw [e10, mi_si, if_pos ⟨rfl, rfl⟩], fun j hj => ?_⟩
        have hj : j < (psG (byF w) q i).1 + 1 := hj
        show mi M10 72 j = if j = (psG (byF w) q i).1 then x2 else (psG (byF w) q i).2 j
        rw [e10, mi_si, if_neg (by omega), e9, mi_si]
        by_cases d : j = (psG (byF w) q i).1
        · rw [if_pos ⟨rfl, d⟩, if_pos d, ec]
        · rw [if_neg (fun y => d y.2), if_neg d]; exact ht1.2 j (by omega)
      · rw [e10, e9]; exact (F1.si (Or.inr rfl)).si (Or.inl ⟨rfl, rfl⟩)
      · rw [hst]; unfold psF; rw [if_neg (fun y => hge y.2)]; exact ht1
    · rw [if_neg ok] at e3; subst e3
      refine ⟨fun _ x hx => go x M1 hx ?_ F1, fun z => absurd rfl z⟩
      rw [hst]; unfold psF; rw [if_neg (fun y => ok y.1)]; exact ht1
theorem sh24 : ∀ k, k < 24 → (56 : Int32) - 8 * (nI k &&& 7) = nI (56 - 8 * (k % 8)) := by decide +kernel
theorem j_feed {p0 p1 p2 : Int64} (h : RR L M) : w_X11_feed L p0 p1 p2 M (fun a M1 => w_X12_feed L p0 p1 p2 M1 (fun b M2 => a = b ∧ RR L M2)) := by
  obtain ⟨t, X, h⟩ := h
  obtain ⟨n, hn, hC, hM, hd⟩ := h.2.2.1
  have q0 : okQ (n, fun i => mi M 129 i) := ⟨hn, fun i hi => (hd i hi).2⟩
  have t0 : thC M (n, fun i => mi M 129 i) := ⟨hC, fun i hi => (hd i hi).1⟩
  unfold w_X11_feed
  refine c_add q0 t0 (fun M1 t1 F1 => c_add (psG_ok q0 8) t1 (fun M2 t2 F2 => c_add (psG_ok (psG_ok q0 8) 8) t2 (fun M3 t3 F3 => ?_)))
  have q3 := psG_ok (b := byF p2) (psG_ok (b := byF p1) (psG_ok (b := byF p0) q0 8) 8) 8
  have eq : psG (fun k => byF (if k < 8 then p0 else if k < 16 then p1 else p2) (k % 8)) (n, fun i => mi M 129 i) 24 = psG (byF p2) (psG (byF p1) (psG (byF p0) (n, fun i => mi M 129 i) 8) 8) 8 := by
    rw [show (24 : Nat) = 8 + (8 + 8) from rfl, psG_add, psG_add]
    refine (psG_cg 8 (fun k hk => ?_)).trans (congrArg (fun z => psG (byF p2) z 8) ((psG_cg 8 (fun k hk => ?_)).trans (congrArg (fun z => psG (byF p1) z 8) (psG_cg 8 (fun k hk => ?_)))))
    · show byF (if 8 + (8 + k) < 8 then p0 else if 8 + (8 + k) < 16 then p1 else p2) ((8 + (8 + k)) % 8) = _
      rw [if_neg (by omega), if_neg (by omega), show (8 + (8 + k)) % 8 = k by omega]
    · show byF (if 8 + k < 8 then p0 else if 8 + k < 16 then p1 else p2) ((8 + k) % 8) = _
      rw [if_neg (by omega), if_pos (by omega), show (8 + k) % 8 = k by omega]
    · show byF (if k < 8 then p0 else if k < 16 then p1 else p2) (k % 8) = _
      rw [if_pos hk, show k % 8 = k by omega]
  generalize psG (byF p2) (psG (byF p1) (psG (byF p0) (n, fun i => mi M 129 i) 8) 8) 8 = q at *
  have F13 := (F1.tr F2).tr F3
  rw [t3.1]
  unfold w_X12_feed
  intro M4 e4
  have m4 : thM M4 (n, fun i => mi M 129 i) := by
    refine ⟨?_, fun i hi => ?_⟩
    · rw [e4, mi_si, if_neg (by omega), F13.1 _ _ (by omega)]; exact hM
    · rw [e4, mi_si, if_neg (by omega), F13.1 _ _ (by omega)]
  refine LP2_c0 0 24 (fun i M' => thM M' (psG (fun k => byF (if k < 8 then p0 else if k < 16 then p1 else p2) (k % 8)) (n, fun i => mi M 129 i) i) ∧ FJ (fun a k => (a = 92 ∧ k = 42) ∨ a = 129) M4 M') rfl (by omega) ⟨m4, FJ.rf⟩ ?_
  intro i M5 hi _ ⟨t5, F5⟩ K hK
  unfold w_X12_feed_8
  rw [show (24 : Int32) = nI 24 from rfl, show (8 : Int32) = nI 8 from rfl, show (16 : Int32) = nI 16 from rfl, nI_lt' (by omega) (by omega), nI_lt' (by omega) (by omega), nI_lt' (by omega) (by omega)]
  have qi := psG_ok (b := fun k => byF (if k < 8 then p0 else if k < 16 then p1 else p2) (k % 8)) q0 i
  have hst : psG (fun k => byF (if k < 8 then p0 else if k < 16 then p1 else p2) (k % 8)) (n, fun i => mi M 129 i) (i + 1) = psF (psG (fun k => byF (if k < 8 then p0 else if k < 16 then p1 else p2) (k % 8)) (n, fun i => mi M 129 i) i) (byF (if i < 8 then p0 else if i < 16 then p1 else p2) (i % 8)) := rfl
  have ende : i = 24 → psG (fun k => byF (if k < 8 then p0 else if k < 16 then p1 else p2) (k % 8)) (n, fun i => mi M 129 i) i = q := fun c => by subst c; exact eq
  clear eq
  generalize psG (fun k => byF (if k < 8 then p0 else if k < 16 then p1 else p2) (k % 8)) (n, fun i => mi M 129 i) i = z at *
  generalize psG (fun k => byF (if k < 8 then p0 else if k < 16 then p1 else p2) (k % 8)) (n, fun i => mi M 129 i) (i + 1) = z1 at *
  have step : i < 24 → ∀ y0 : Int64, y0 = (if i < 8 then p0 else if i < 16 then p1 else p2) → w_X12_feed_39 L p0 p1 p2 K (nI i) y0 M5 (fun b M2 => nI q.1 = b ∧ RR L M2) := fun hlt y0 ey => by
    unfold w_X12_feed_39
    intro x5 e5
    have ex : x5 = byF (if i < 8 then p0 else if i < 16 then p1 else p2) (i % 8) := by
      rw [e5, show (8 : Int32) * (nI i &&& (7 : Int32)) = 8 * (nI i &&& 7) from rfl, sh24 i hlt, ey]; rfl
    rw [← ex] at hst
    have skip : ¬ (okB x5 = true ∧ z.1 < 1000) → ∀ x : Int32, x = nI i + 1 → K x M5 := fun c x hx => by
      rw [hx, nI_1]
      refine hK hlt M5 ⟨?_, F5⟩
      rw [hst]; unfold psF; rw [if_neg c]; exact t5
    have put : okB x5 = true → z.1 < 1000 → w_X12_feed_93 L p0 p1 p2 K (nI i) x5 M5 (fun b M2 => nI q.1 = b ∧ RR L M2) := fun ok hz => by
      unfold w_X12_feed_93
      rw [t5.1, tn_nI (n := z.1) (by omega)]
      refine ⟨vp_in_nI (by omega) (by decide), fun M6 e6 M7 e7 x hx => ?_⟩
      have t6 : mi M6 92 42 = nI z.1 := by rw [e6, mi_si, if_neg (by omega)]; exact t5.1
      rw [t6, nI_1] at e7
      rw [hx, nI_1]
      refine hK hlt M7 ⟨?_, ?_⟩
      · rw [hst]; unfold psF; rw [if_pos ⟨ok, hz⟩]
        refine ⟨by rw [e7, mi_si, if_pos ⟨rfl, rfl⟩], fun j hj => ?_⟩
        have hj : j < z.1 + 1 := hj
        show mi M7 129 j = if j = z.1 then x5 else z.2 j
        rw [e7, mi_si, if_neg (by omega), e6, mi_si]
        by_cases d : j = z.1
        · rw [if_pos ⟨rfl, d⟩, if_pos d]
        · rw [if_neg (fun y => d y.2), if_neg d]; exact t5.2 j (by omega)
      · rw [e7, e6]; exact (F5.si (Or.inr rfl)).si (Or.inl ⟨rfl, rfl⟩)
    rw [t5.1, show (1000 : Int32) = nI 1000 from rfl, nI_lt' (by have := qi.1; omega) (by decide)]
    refine ⟨fun hz => ⟨fun c => put ?_ hz, fun c => ⟨fun c2 => skip (fun y => ?_), fun c2 => ⟨fun c3 => skip (fun y => ?_), fun c3 => put ?_ hz⟩⟩⟩, fun hz => skip (fun y => hz y.2)⟩
    · unfold okB; simp [c]
    · have y1 := y.1; unfold okB at y1; simp [c, c2] at y1
    · have y1 := y.1; unfold okB at y1; simp [c, c2, c3] at y1
    · unfold okB; simp [c, c2, c3]
  refine ⟨fun hlt => ⟨fun c => step hlt _ (by rw [if_pos c]), fun c => ⟨fun d => step hlt _ (by rw [if_neg c, if_pos d]), fun d => step hlt _ (by rw [if_neg c, if_neg d])⟩⟩, fun hge => ?_⟩
  have e := ende (by omega)
  subst e
  rw [t5.1]
  have fa : ∀ a j, ¬ (a = 71 ∧ j = 1) → a ≠ 72 → ¬ (a = 92 ∧ (j = 0 ∨ j = 42)) → a ≠ 129 → mi M5 a j = mi M a j := fun a j c1 c2 c3 c4 => by
    rw [F5.1 a j (by omega), e4, mi_si, if_neg (by omega), F13.1 a j (by omega)]
  have pa : ∀ a j, mp M5 a j = mp M a j := fun a j => by rw [F5.mp, e4]; show mp M3 a j = _; rw [F13.mp]
  refine ⟨rfl, t, X, CR_cg h.1 (fun a j q => fa a j (by unfold PCr at q; omega) (by unfold PCr at q; omega) (by unfold PCr at q; omega) (by unfold PCr at q; omega)) (fun a j _ => pa a j), ?_⟩
  obtain ⟨r1, -, r3, r4, r5⟩ := h.2
  refine ⟨WN_cg r1 (fun a j q => fa a j (by unfold PWn at q; omega) (by unfold PWn at q; omega) (by unfold PWn at q; omega) (by unfold PWn at q; omega)), ⟨z.1, qi.1, ?_, t5.1, fun i hi => ⟨?_, ?_⟩⟩, MO_cg r3 (fun a j q => fa a j (by unfold PMo at q; omega) (by unfold PMo at q; omega) (by unfold PMo at q; omega) (by unfold PMo at q; omega)) (fun a j _ => pa a j), RE_cg r4 (fun a j q => fa a j (by unfold PRe at q; omega) (by unfold PRe at q; omega) (by unfold PRe at q; omega) (by unfold PRe at q; omega)), SA_cg r5 (Nat.le_refl _) (fun a j q => fa a j (by unfold PSa at q; omega) (by unfold PSa at q; omega) (by unfold PSa at q; omega) (by unfold PSa at q; omega))⟩
  · rw [F5.1 _ _ (by omega), e4, mi_si, if_neg (by omega)]; exact t3.1
  · rw [F5.1 72 _ (by omega), e4, mi_si, if_neg (by omega), t3.2 i hi, t5.2 i hi]
  · obtain ⟨c, hc, ec⟩ := qi.2 i hi
    exact ⟨c, hc, (t5.2 i hi).trans ec⟩
end FEE
