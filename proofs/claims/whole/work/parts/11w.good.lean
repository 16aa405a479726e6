-- LEVEL 3, part 2a: bounds that the numbers of a world keep to
def shG (T : Nat) (S : SS) (k : Nat) : Prop := S 113 k = nI (tn (S 113 k)) ∧ S 125 k = nI (tn (S 125 k)) ∧ 8 * tn (S 113 k) ≤ tn (S 125 k) ∧ tn (S 125 k) ≤ 96 ∧ S 115 k = nI (tn (S 115 k)) ∧ tn (S 115 k) ≤ T ∧
  ∀ i, i < tn (S 113 k) → S 116 (12 * k + i) = nI (tn (S 116 (12 * k + i))) ∧ tn (S 116 (12 * k + i)) < tn (S 28 0)
def gdT (T : Nat) (S : SS) : Prop := S 28 0 = nI (tn (S 28 0)) ∧ tn (S 28 0) ≤ 10 ∧ S 34 0 = nI (tn (S 34 0)) ∧ tn (S 34 0) ≤ 8 ∧ S 93 0 = nI (tn (S 93 0)) ∧ tn (S 93 0) ≤ 720 ∧ S 94 0 = nI (tn (S 94 0)) ∧ tn (S 94 0) ≤ 6 ∧
  S 95 0 = nI (tn (S 95 0)) ∧ (tn (S 95 0) < tn (S 28 0) ∨ tn (S 95 0) = 0) ∧ (∀ k, k < 8 → shG T S k) ∧ (∀ o, o < 10 → ¬ S 120 o < 0 ∧ ¬ S 121 o < 0 ∧ BZ (S 111 o))
theorem lit8n : (8 : Int32) = nI 8 := rfl
theorem i_irr (x : Int32) : ¬ x < x := by rw [Int32.lt_iff_toInt_lt]; omega
theorem nI_lt' {a b : Nat} (ha : a < 2 ^ 31) (hb : b < 2 ^ 31) : (nI a < nI b) = (a < b) := propext (nI_ltI ha hb)
theorem nI_eq' {a b : Nat} (ha : a < 2 ^ 31) (hb : b < 2 ^ 31) : (nI a = nI b) = (a = b) := propext (nI_eq ha hb)
theorem nI_lt0 {a : Nat} (ha : a < 2 ^ 31) : (nI a < 0) = False := eq_false (nI_pos ha)
theorem nI_0lt {a : Nat} (ha : a < 2 ^ 31) : (0 < nI a) = (0 < a) := nI_lt' (a := 0) (by decide) ha
theorem nI_m1 {a : Nat} (ha : a < 2 ^ 31) : (nI a = -1) = False := eq_false (fun q => nI_pos ha (by rw [q]; decide))
theorem fb31 (x : Int32) : -2147483648 ≤ x.toInt ∧ x.toInt < 2147483648 := ⟨by have := Int32.le_toInt x; omega, by have := Int32.toInt_lt x; omega⟩
theorem eqN {x : Int32} {n : Nat} (hx : x = nI (tn x)) (h1 : n < 2 ^ 31) : (nI n = x) ↔ n = tn x := ⟨fun q => by rw [← q, tn_nI h1], fun q => by rw [q]; exact hx.symm⟩
theorem tn_b (x : Int32) : tn x < 2 ^ 31 := by
  have h := fb31 x
  show x.toInt.toNat < 2 ^ 31
  omega
theorem ltN {x : Int32} {n : Nat} (hx : x = nI (tn x)) (h1 : n < 2 ^ 31) : (nI n < x) ↔ n < tn x := by
  have h2 := tn_b x
  have h3 := nI_ltI (a := n) (b := tn x) h1 h2
  rw [← hx] at h3; exact h3
theorem Nlt {x : Int32} {n : Nat} (hx : x = nI (tn x)) (h1 : n < 2 ^ 31) : (x < nI n) ↔ tn x < n := by
  have h2 := tn_b x
  have h3 := nI_ltI (a := tn x) (b := n) h2 h1
  rw [← hx] at h3; exact h3
theorem oA_ne {w i j : Nat} (h : i ≠ j) : oA w i ≠ oA w j := by unfold oA; omega
theorem roF_iff {T : Nat} {S : SS} {k : Nat} (h : shG T S k) : roF S k = decide (8 * tn (S 113 k) + 8 ≤ tn (S 125 k)) := by
  obtain ⟨h1, h2, h3, h4, -⟩ := h
  unfold roF
  have e2 : 8 * S 113 k + 8 = nI (8 * tn (S 113 k) + 8) := by rw [← nI_add, ← pk_mul, ← h1]; rfl
  have e : (S 125 k < 8 * S 113 k + 8) ↔ (tn (S 125 k) < 8 * tn (S 113 k) + 8) := by rw [e2]; exact Nlt h2 (by omega)
  by_cases hq : tn (S 125 k) < 8 * tn (S 113 k) + 8
  · rw [decide_eq_true (e.mpr hq), decide_eq_false (by omega)]; rfl
  · rw [decide_eq_false (fun z => hq (e.mp z)), decide_eq_true (by omega)]; rfl
theorem jrem_nI {a b : Nat} (ha : a < 2 ^ 31) (hb : 0 < b) (hb2 : b < 2 ^ 31) : jrem (nI a) (nI b) = nI (a % b) := pk_rem ha hb hb2
theorem of_rng {T : Nat} {S : SS} (hg : gdT T S) {held : Bool} {ls : Int32} : ∀ r k, r + k ≤ tn (S 28 0) → ofG S held ls r k = -1 ∨ ∃ o, o < tn (S 28 0) ∧ ofG S held ls r k = nI o ∧ okF S held ls o = true := by
  intro r
  induction r with
  | zero => intro k _; exact Or.inl rfl
  | succ r ih =>
    intro k hk
    unfold ofG
    obtain ⟨h1, h2, -, -, -, -, -, -, h3, h4, -⟩ := hg
    have e : jrem (S 95 0 + nI k) (S 28 0) = nI ((tn (S 95 0) + k) % tn (S 28 0)) := by
      generalize tn (S 95 0) = t at *
      generalize tn (S 28 0) = n at *
      rw [h3, h1, nI_add]; exact jrem_nI (by omega) (by omega) (by omega)
    have hlt : (tn (S 95 0) + k) % tn (S 28 0) < tn (S 28 0) := Nat.mod_lt _ (by omega)
    rw [e, tn_nI (by omega)]
    by_cases hok : okF S held ls ((tn (S 95 0) + k) % tn (S 28 0)) = true
    · rw [if_pos hok]; exact Or.inr ⟨_, hlt, rfl, hok⟩
    · rw [if_neg hok]; exact ih (k + 1) (by omega)
theorem of_rng0 {T : Nat} {S : SS} (hg : gdT T S) {held : Bool} {ls : Int32} : ofF S held ls = -1 ∨ ∃ o, o < tn (S 28 0) ∧ ofF S held ls = nI o ∧ okF S held ls o = true := of_rng hg _ 0 (Nat.le_refl _)
theorem bit_if {c : Prop} [Decidable c] : ((if c then (1 : Int32) else 0) = 0) = ¬ c := by
  by_cases h : c
  · rw [if_pos h]; exact propext ⟨fun q => absurd q (by decide), fun q => absurd h q⟩
  · rw [if_neg h]; exact propext ⟨fun _ => h, fun _ => rfl⟩
def elF (S : SS) (held : Bool) (k : Nat) : Prop := S 112 k = 0 ∧ roF S k = true ∧ ¬ ofF S held (S 126 k) < 0
theorem pk_spec {S : SS} {held : Bool} : ∀ m, m < 2 ^ 31 → ((pkG S held m) = (-1, -1) ∧ ∀ k, k < m → ¬ elF S held k) ∨
    ∃ b, b < m ∧ pkG S held m = (nI b, ofF S held (S 126 b)) ∧ elF S held b ∧ ∀ k, k < m → elF S held k → S 115 b < S 115 k ∨ (¬ S 115 k < S 115 b ∧ b ≤ k) := by
  intro m
  induction m with
  | zero => intro _; exact Or.inl ⟨rfl, fun k hk => absurd hk (by omega)⟩
  | succ m ih =>
    intro hm
    by_cases he : elF S held m
    · obtain ⟨e1, e2, e3⟩ := id he
      rcases ih (by omega) with ⟨h1, h2⟩ | ⟨b, hb, h1, h2, h3⟩
      · refine Or.inr ⟨m, by omega, ?_, he, fun k hk hk2 => ?_⟩
        · unfold pkG
          rw [if_neg]
          rintro (q | q | q | q)
          · exact q e1
          · rw [e2] at q; exact absurd q (by decide)
          · rw [h1] at q; exact q.1 (by decide)
          · exact e3 q
        · by_cases hkm : k = m
          · subst hkm; exact Or.inr ⟨i_irr _, Nat.le_refl _⟩
          · exact absurd hk2 (h2 k (by omega))
      · by_cases hc : S 115 m < S 115 b
        · refine Or.inr ⟨m, by omega, ?_, he, fun k hk hk2 => ?_⟩
          · unfold pkG
            rw [if_neg]
            rintro (q | q | q | q)
            · exact q e1
            · rw [e2] at q; exact absurd q (by decide)
            · rw [h1, tn_nI (by omega)] at q; exact q.2 hc
            · exact e3 q
          · by_cases hkm : k = m
            · subst hkm; exact Or.inr ⟨i_irr _, Nat.le_refl _⟩
            · rcases h3 k (by omega) hk2 with q | q
              · exact Or.inl (by grind)
              · exact Or.inl (by grind)
        · refine Or.inr ⟨b, by omega, ?_, h2, fun k hk hk2 => ?_⟩
          · unfold pkG
            rw [if_pos]
            · exact h1
            · exact Or.inr (Or.inr (Or.inl (by rw [h1, tn_nI (by omega)]; exact ⟨nI_pos (by omega), hc⟩)))
          · by_cases hkm : k = m
            · subst hkm
              exact Or.inr ⟨hc, by omega⟩
            · exact h3 k (by omega) hk2
    · have e : pkG S held (m + 1) = pkG S held m := by
        conv => lhs; unfold pkG
        rw [if_pos]
        unfold elF at he
        by_cases q1 : S 112 m = 0
        · by_cases q2 : roF S m = true
          · by_cases q3 : ofF S held (S 126 m) < 0
            · exact Or.inr (Or.inr (Or.inr q3))
            · exact absurd ⟨q1, q2, q3⟩ he
          · exact Or.inr (Or.inl (by simpa using q2))
        · exact Or.inl q1
      rw [e]
      rcases ih (by omega) with ⟨h1, h2⟩ | ⟨b, hb, h1, h2, h3⟩
      · refine Or.inl ⟨h1, fun k hk => ?_⟩
        by_cases hkm : k = m
        · subst hkm; exact he
        · exact h2 k (by omega)
      · refine Or.inr ⟨b, by omega, h1, h2, fun k hk hk2 => ?_⟩
        by_cases hkm : k = m
        · subst hkm; exact absurd hk2 he
        · exact h3 k (by omega) hk2
def lxF (S : SS) (a b : Nat) : Prop := S 115 a < S 115 b ∨ (S 115 a = S 115 b ∧ a < b)
def lnU (S : SS) (m c : Nat) (W : Nat → Int32) : Prop :=
  (∀ j, j < c → ∃ k, k < m ∧ W j = nI k ∧ S 112 k = 0 ∧ roF S k = true) ∧ (∀ i j, i < j → j < c → lxF S (tn (W i)) (tn (W j))) ∧ (∀ k, k < m → S 112 k = 0 → roF S k = true → ∃ j, j < c ∧ W j = nI k)
theorem pk_first {S S0 : SS} {held : Bool} {m c : Nat} {W : Nat → Int32} (hm : m < 2 ^ 31) (hl : lnU S0 m c W) (e1 : ∀ k, S 112 k = S0 112 k) (e2 : ∀ k, S 115 k = S0 115 k) (e3 : ∀ k, k < m → roF S k = true → roF S0 k = true)
    {j : Nat} (hj : j < c) (hno : ∀ i, i < j → ¬ elF S held (tn (W i))) (hyes : elF S held (tn (W j))) : pkG S held m = (W j, ofF S held (S 126 (tn (W j)))) := by
  obtain ⟨l1, l2, l3⟩ := hl
  obtain ⟨k, hk, ek, -, -⟩ := l1 j hj
  rw [ek, tn_nI (by omega)] at hyes
  rcases pk_spec (S := S) (held := held) m hm with ⟨h1, h2⟩ | ⟨b, hb, h1, h2, h3⟩
  · exact absurd hyes (h2 k hk)
  · obtain ⟨b1, b2, b3⟩ := id h2
    obtain ⟨i, hi, ei⟩ := l3 b hb (by rw [← e1]; exact b1) (e3 b hb b2)
    have hij : i = j := by
      rcases Nat.lt_trichotomy i j with q | q | q
      · exact absurd (by rw [ei, tn_nI (by omega)]; exact h2) (hno i q)
      · exact q
      · have := l2 j i q hi
        rw [ei, ek, tn_nI (by omega), tn_nI (by omega)] at this
        unfold lxF at this
        rw [← e2, ← e2] at this
        have := h3 k hk hyes
        exfalso
        grind
    subst hij
    have : b = k := by rw [ei] at ek; exact (nI_eq (by omega) (by omega)).mp ek
    subst this
    rw [h1, ek, tn_nI (by omega)]
theorem pk_none {S S0 : SS} {held : Bool} {m c : Nat} {W : Nat → Int32} (hm : m < 2 ^ 31) (hl : lnU S0 m c W) (e1 : ∀ k, S 112 k = S0 112 k) (e3 : ∀ k, k < m → roF S k = true → roF S0 k = true)
    (hno : ∀ i, i < c → ¬ elF S held (tn (W i))) : (pkG S held m).1 < 0 := by
  obtain ⟨l1, l2, l3⟩ := hl
  rcases pk_spec (S := S) (held := held) m hm with ⟨h1, h2⟩ | ⟨b, hb, h1, h2, h3⟩
  · rw [h1]; decide
  · obtain ⟨b1, b2, b3⟩ := id h2
    obtain ⟨i, hi, ei⟩ := l3 b hb (by rw [← e1]; exact b1) (e3 b hb b2)
    exact absurd (by rw [ei, tn_nI (by omega)]; exact h2) (hno i hi)
theorem pr_cong {S S' : SS} (h1 : S' 96 0 = S 96 0) (h2 : S' 97 0 = S 97 0) (h3 : S' 98 0 = S 98 0) (q : Int32) : prF S' q = prF S q := by unfold prF; rw [h1, h2, h3]
theorem slG_f {S : SS} {k : Nat} {duty : Int32} {f j : Nat} (hf : f ≠ 110) : ∀ i, slG S k duty i f j = S f j := by
  intro i
  induction i with
  | zero => rfl
  | succ i ih => unfold slG; rw [u2_f hf, ih]
-- LEVEL 3, part 3a: the numbers' bounds stay
theorem gd_cong {T T' : Nat} {S S' : SS} (hT : T ≤ T') (h28 : S' 28 0 = S 28 0) (h34 : S' 34 0 = S 34 0) (h93 : S' 93 0 = S 93 0) (h94 : S' 94 0 = S 94 0) (h95 : S' 95 0 = S 95 0) (h111 : ∀ o, S' 111 o = S 111 o)
    (h113 : ∀ k, S' 113 k = S 113 k) (h115 : ∀ k, S' 115 k = S 115 k) (h116 : ∀ k, S' 116 k = S 116 k) (h120 : ∀ o, S' 120 o = S 120 o) (h121 : ∀ o, S' 121 o = S 121 o) (h125 : ∀ k, S' 125 k = S 125 k) (hg : gdT T S) : gdT T' S' := by
  unfold gdT at *
  simp only [h28, h34, h93, h94, h95, h111, h120, h121]
  obtain ⟨g1, g2, g3, g4, g5, g6, g7, g8, g9, ga, gb, gc⟩ := hg
  refine ⟨g1, g2, g3, g4, g5, g6, g7, g8, g9, ga, fun k hk => ?_, gc⟩
  have := gb k hk
  unfold shG at *
  simp only [h28, h113, h115, h116, h125]
  exact ⟨this.1, this.2.1, this.2.2.1, this.2.2.2.1, this.2.2.2.2.1, Nat.le_trans this.2.2.2.2.2.1 hT, this.2.2.2.2.2.2⟩
theorem gd_dig {T : Nat} {S : SS} (hg : gdT T S) : gdT T (digF S) := by
  refine gd_cong (Nat.le_refl _) ?_ ?_ ?_ ?_ ?_ ?_ ?_ ?_ ?_ ?_ ?_ ?_ hg <;> (try intro k) <;> (unfold digF; exact if_neg (fun q => absurd q.1 (by decide)))
theorem gd_ldU {T : Nat} {S : SS} {b o : Nat} (hg : gdT T S) (hb : b < 8) (hr : roF S b = true) (ho : o < tn (S 28 0)) : gdT T (ldU S (nI b) (nI o)) := by
  have hg' := hg
  obtain ⟨g1, g2, g3, g4, g5, g6, g7, g8, g9, ga, gb, gc⟩ := hg
  have hsb := gb b hb
  rw [roF_iff hsb, decide_eq_true_iff] at hr
  have b1 := hsb.1
  have b3 := hsb.2.2.1
  have b4 := hsb.2.2.2.1
  unfold ldU
  rw [tn_nI (by omega), tn_nI (by omega)]
  have o95 : (if nI o + 1 = S 28 0 then (0 : Int32) else nI o + 1) = nI (if o + 1 = tn (S 28 0) then 0 else o + 1) := by
    have e := eqN (n := o + 1) g1 (by omega)
    rw [nI_1]
    by_cases h : o + 1 = tn (S 28 0)
    · rw [if_pos h, if_pos (e.mpr h)]; rfl
    · rw [if_neg h, if_neg (fun q => h (e.mp q))]
  rw [o95]
  have e28 : ∀ i, u2 (u2 (u2 (u2 (u2 S 116 (12 * b + tn (S 113 b)) (nI o)) 113 b (S 113 b + 1)) 107 o (S 107 o - 8)) 108 o (S 108 o + 8)) 95 0 (nI (if o + 1 = tn (S 28 0) then 0 else o + 1)) 28 i = S 28 i := fun i => by simp only [u2]; rfl
  have e113 : ∀ k, u2 (u2 (u2 (u2 (u2 S 116 (12 * b + tn (S 113 b)) (nI o)) 113 b (S 113 b + 1)) 107 o (S 107 o - 8)) 108 o (S 108 o + 8)) 95 0 (nI (if o + 1 = tn (S 28 0) then 0 else o + 1)) 113 k = if k = b then nI (tn (S 113 b) + 1) else S 113 k := fun k => by
    by_cases h : k = b
    · subst h; rw [if_pos rfl, u2_f (by decide), u2_f (by decide), u2_f (by decide), u2_s, nI_succ, ← b1]
    · simp [u2, h]
  have e116 : ∀ k, u2 (u2 (u2 (u2 (u2 S 116 (12 * b + tn (S 113 b)) (nI o)) 113 b (S 113 b + 1)) 107 o (S 107 o - 8)) 108 o (S 108 o + 8)) 95 0 (nI (if o + 1 = tn (S 28 0) then 0 else o + 1)) 116 k = if k = 12 * b + tn (S 113 b) then nI o else S 116 k := fun k => by
    simp [u2]
  have e95 : u2 (u2 (u2 (u2 (u2 S 116 (12 * b + tn (S 113 b)) (nI o)) 113 b (S 113 b + 1)) 107 o (S 107 o - 8)) 108 o (S 108 o + 8)) 95 0 (nI (if o + 1 = tn (S 28 0) then 0 else o + 1)) 95 0 = nI (if o + 1 = tn (S 28 0) then 0 else o + 1) := u2_s
  have eo : ∀ f i, f ≠ 116 → f ≠ 113 → f ≠ 107 → f ≠ 108 → f ≠ 95 → u2 (u2 (u2 (u2 (u2 S 116 (12 * b + tn (S 113 b)) (nI o)) 113 b (S 113 b + 1)) 107 o (S 107 o - 8)) 108 o (S 108 o + 8)) 95 0 (nI (if o + 1 = tn (S 28 0) then 0 else o + 1)) f i = S f i := fun f i h1 h2 h3 h4 h5 => by
    rw [u2_f h5, u2_f h4, u2_f h3, u2_f h2, u2_f h1]
  generalize u2 (u2 (u2 (u2 (u2 S 116 (12 * b + tn (S 113 b)) (nI o)) 113 b (S 113 b + 1)) 107 o (S 107 o - 8)) 108 o (S 108 o + 8)) 95 0 (nI (if o + 1 = tn (S 28 0) then 0 else o + 1)) = S' at *
  have t95 : tn (nI (if o + 1 = tn (S 28 0) then 0 else o + 1)) = if o + 1 = tn (S 28 0) then 0 else o + 1 := tn_nI (by split <;> omega)
  unfold gdT
  rw [e28, e95, t95, eo 34 _ (by decide) (by decide) (by decide) (by decide) (by decide), eo 93 _ (by decide) (by decide) (by decide) (by decide) (by decide), eo 94 _ (by decide) (by decide) (by decide) (by decide) (by decide)]
  refine ⟨g1, g2, g3, g4, g5, g6, g7, g8, rfl, ?_, fun k hk => ?_, fun q hq => ?_⟩
  · split
    · exact Or.inr rfl
    · exact Or.inl (by omega)
  · have hk8 := gb k hk
    unfold shG at *
    rw [e28, e113, eo 125 _ (by decide) (by decide) (by decide) (by decide) (by decide), eo 115 _ (by decide) (by decide) (by decide) (by decide) (by decide)]
    obtain ⟨k1, k2, k3, k4, k5, k6, k7⟩ := hk8
    by_cases h : k = b
    · subst h
      rw [if_pos rfl, tn_nI (by omega)]
      refine ⟨rfl, k2, by omega, k4, k5, k6, fun i hi => ?_⟩
      rw [e116]
      by_cases hi2 : i = tn (S 113 k)
      · rw [if_pos (by omega), tn_nI (by omega)]; exact ⟨rfl, ho⟩
      · rw [if_neg (by omega)]; exact k7 i (by omega)
    · rw [if_neg h]
      refine ⟨k1, k2, k3, k4, k5, k6, fun i hi => ?_⟩
      rw [e116, if_neg (by omega)]
      exact k7 i hi
  · rw [eo 120 _ (by decide) (by decide) (by decide) (by decide) (by decide), eo 121 _ (by decide) (by decide) (by decide) (by decide) (by decide), eo 111 _ (by decide) (by decide) (by decide) (by decide) (by decide)]
    exact gc q hq
theorem gd_came {T T' t k : Nat} {S : SS} {x z d : Int32} (hg : gdT T S) (hk : k < 8) (hd : d = nI (t + 1)) (ht : t ≤ 720) (h1 : T ≤ T') (h2 : t + 1 ≤ T') : gdT T' (u2 (u2 (u2 S 114 k x) 112 k z) 115 k d) := by
  obtain ⟨g1, g2, g3, g4, g5, g6, g7, g8, g9, ga, gb, gc⟩ := hg
  have eo : ∀ f i, f ≠ 114 → f ≠ 112 → f ≠ 115 → u2 (u2 (u2 S 114 k x) 112 k z) 115 k d f i = S f i := fun f i a1 a2 a3 => by rw [u2_f a3, u2_f a2, u2_f a1]
  have e115 : ∀ i, u2 (u2 (u2 S 114 k x) 112 k z) 115 k d 115 i = if i = k then d else S 115 i := fun i => by
    by_cases h : i = k
    · subst h; rw [if_pos rfl, u2_s]
    · rw [if_neg h, u2_i h, u2_f (by decide), u2_f (by decide)]
  generalize u2 (u2 (u2 S 114 k x) 112 k z) 115 k d = S' at *
  unfold gdT
  rw [eo 28 _ (by decide) (by decide) (by decide), eo 34 _ (by decide) (by decide) (by decide), eo 93 _ (by decide) (by decide) (by decide), eo 94 _ (by decide) (by decide) (by decide), eo 95 _ (by decide) (by decide) (by decide)]
  refine ⟨g1, g2, g3, g4, g5, g6, g7, g8, g9, ga, fun j hj => ?_, fun o ho => ?_⟩
  · have := gb j hj
    unfold shG at *
    rw [eo 28 _ (by decide) (by decide) (by decide), eo 113 _ (by decide) (by decide) (by decide), eo 125 _ (by decide) (by decide) (by decide), e115]
    refine ⟨this.1, this.2.1, this.2.2.1, this.2.2.2.1, ?_, ?_, fun i hi => ?_⟩
    · split
      · rw [hd, tn_nI (by omega)]
      · exact this.2.2.2.2.1
    · split
      · rw [hd, tn_nI (by omega)]; exact h2
      · exact Nat.le_trans this.2.2.2.2.2.1 h1
    · rw [eo 116 _ (by decide) (by decide) (by decide)]; exact this.2.2.2.2.2.2 i hi
  · rw [eo 111 _ (by decide) (by decide) (by decide), eo 120 _ (by decide) (by decide) (by decide), eo 121 _ (by decide) (by decide) (by decide)]; exact gc o ho
theorem gd_slF {T k : Nat} {S : SS} {duty : Int32} (hg : gdT T S) : gdT T (slF S k duty) := by
  obtain ⟨g1, g2, g3, g4, g5, g6, g7, g8, g9, ga, gb, gc⟩ := hg
  have eo : ∀ f i, f ≠ 110 → f ≠ 96 → f ≠ 105 → f ≠ 113 → slF S k duty f i = S f i := fun f i a1 a2 a3 a4 => by unfold slF; rw [u2_f a4, u2_f a3, u2_f a2, slG_f a1]
  have e113 : ∀ i, slF S k duty 113 i = if i = k then 0 else S 113 i := fun i => by
    unfold slF
    by_cases h : i = k
    · subst h; rw [if_pos rfl, u2_s]
    · rw [if_neg h, u2_i h, u2_f (by decide), u2_f (by decide), slG_f (by decide)]
  generalize slF S k duty = S' at *
  have z0 : tn (0 : Int32) = 0 := rfl
  unfold gdT
  rw [eo 28 _ (by decide) (by decide) (by decide) (by decide), eo 34 _ (by decide) (by decide) (by decide) (by decide), eo 93 _ (by decide) (by decide) (by decide) (by decide), eo 94 _ (by decide) (by decide) (by decide) (by decide), eo 95 _ (by decide) (by decide) (by decide) (by decide)]
  refine ⟨g1, g2, g3, g4, g5, g6, g7, g8, g9, ga, fun j hj => ?_, fun o ho => ?_⟩
  · have := gb j hj
    unfold shG at *
    rw [eo 28 _ (by decide) (by decide) (by decide) (by decide), eo 115 _ (by decide) (by decide) (by decide) (by decide), eo 125 _ (by decide) (by decide) (by decide) (by decide), e113]
    by_cases h : j = k
    · rw [if_pos h, z0]
      exact ⟨rfl, this.2.1, by omega, this.2.2.2.1, this.2.2.2.2.1, this.2.2.2.2.2.1, fun i hi => absurd hi (by omega)⟩
    · rw [if_neg h]
      exact ⟨this.1, this.2.1, this.2.2.1, this.2.2.2.1, this.2.2.2.2.1, this.2.2.2.2.2.1, fun i hi => by rw [eo 116 _ (by decide) (by decide) (by decide) (by decide)]; exact this.2.2.2.2.2.2 i hi⟩
  · rw [eo 111 _ (by decide) (by decide) (by decide) (by decide), eo 120 _ (by decide) (by decide) (by decide) (by decide), eo 121 _ (by decide) (by decide) (by decide) (by decide)]; exact gc o ho
theorem gd_saF {T T' t k : Nat} {S : SS} {d w duty : Int32} (hg : gdT T S) (hk : k < 8) (hd : d = nI (t + 1)) (ht : t ≤ 720) (h1 : T ≤ T') (h2 : t + 1 ≤ T') : gdT T' (saF S d w duty k) := by
  unfold saF
  split
  · refine gd_cong h1 ?_ ?_ ?_ ?_ ?_ ?_ ?_ ?_ ?_ ?_ ?_ ?_ hg <;> (try intro i) <;> rw [u2_f (by decide), u2_f (by decide)]
  · split
    · split
      · refine gd_cong h1 ?_ ?_ ?_ ?_ ?_ ?_ ?_ ?_ ?_ ?_ ?_ ?_ hg <;> (try intro i) <;> rw [u2_f (by decide)]
      · split
        · exact gd_slF (gd_came hg hk hd ht h1 h2)
        · exact gd_came hg hk hd ht h1 h2
    · exact gd_cong h1 rfl rfl rfl rfl rfl (fun _ => rfl) (fun _ => rfl) (fun _ => rfl) (fun _ => rfl) (fun _ => rfl) (fun _ => rfl) (fun _ => rfl) hg
-- what a ship's sailing leaves as it was
theorem saF_f {S : SS} {d w duty : Int32} {k f j : Nat} (h1 : f ≠ 112) (h2 : f ≠ 113) (h3 : f ≠ 114) (h4 : f ≠ 115) (h5 : f ≠ 110) (h6 : f ≠ 96) (h7 : f ≠ 105) : saF S d w duty k f j = S f j := by
  unfold saF
  split
  · rw [u2_f h3, u2_f h1]
  · split
    · split
      · rw [u2_f h3]
      · split
        · unfold slF; rw [u2_f h2, u2_f h7, u2_f h6, slG_f h5, u2_f h4, u2_f h1, u2_f h3]
        · rw [u2_f h4, u2_f h1, u2_f h3]
    · rfl
theorem saF_115 {S : SS} {d w duty : Int32} {k j : Nat} (hj : j ≠ k) : saF S d w duty k 115 j = S 115 j := by
  unfold saF
  split
  · rw [u2_f (by decide), u2_f (by decide)]
  · split
    · split
      · rw [u2_f (by decide)]
      · split
        · unfold slF; rw [u2_f (by decide), u2_f (by decide), u2_f (by decide), slG_f (by decide), u2_i hj, u2_f (by decide), u2_f (by decide)]
        · rw [u2_i hj, u2_f (by decide), u2_f (by decide)]
    · rfl
theorem saG_115 {S : SS} {d w duty : Int32} : ∀ {k j : Nat}, k ≤ j → saG d w duty S k 115 j = S 115 j := by
  intro k
  induction k with
  | zero => intro j _; rfl
  | succ k ih => intro j hj; unfold saG; rw [saF_115 (by omega), ih (by omega)]
theorem saG_f {S : SS} {d w duty : Int32} {f j : Nat} (h1 : f ≠ 112) (h2 : f ≠ 113) (h3 : f ≠ 114) (h4 : f ≠ 115) (h5 : f ≠ 110) (h6 : f ≠ 96) (h7 : f ≠ 105) : ∀ k, saG d w duty S k f j = S f j := by
  intro k
  induction k with
  | zero => rfl
  | succ k ih => unfold saG; rw [saF_f h1 h2 h3 h4 h5 h6 h7, ih]
theorem gd_saG {T T' t : Nat} {S : SS} {d w duty : Int32} (hg : gdT T S) (hd : d = nI (t + 1)) (ht : t ≤ 720) (h1 : T ≤ T') (h2 : t + 1 ≤ T') : ∀ k, k ≤ 8 → gdT T' (saG d w duty S k) := by
  intro k
  induction k with
  | zero => intro _; exact gd_cong h1 rfl rfl rfl rfl rfl (fun _ => rfl) (fun _ => rfl) (fun _ => rfl) (fun _ => rfl) (fun _ => rfl) (fun _ => rfl) (fun _ => rfl) hg
  | succ k ih => intro hk; exact gd_saF (ih (by omega)) (by omega) hd ht (Nat.le_refl _) h2
theorem gd_ldG {T : Nat} {held : Bool} : ∀ n (S : SS), gdT T S → gdT T (ldG held n S) := by
  intro n
  induction n with
  | zero => intro S hg; exact hg
  | succ n ih =>
    intro S hg
    unfold ldG
    split
    · exact hg
    · rename_i hn
      refine ih _ ?_
      have hg' := hg
      obtain ⟨-, n1, -, n2, -⟩ := hg'
      rcases pk_spec (S := S) (held := held) (tn (S 34 0)) (by omega) with ⟨q1, q2⟩ | ⟨b, hb, q1, q2, q3⟩
      · rw [q1] at hn; exact absurd (by decide) hn
      · rw [q1]
        rcases of_rng0 hg (held := held) (ls := S 126 b) with e | ⟨o, ho, e, hok⟩
        · have := q2.2.2; rw [e] at this; exact absurd (by decide) this
        · show gdT T (ldU S (nI b) (ofF S held (S 126 b)))
          rw [e]; exact gd_ldU hg (by omega) q2.2.1 ho
theorem ldU_f {S : SS} {b o : Int32} {f j : Nat} (h1 : f ≠ 116) (h2 : f ≠ 113) (h3 : f ≠ 107) (h4 : f ≠ 108) (h5 : f ≠ 95) : ldU S b o f j = S f j := by
  unfold ldU; rw [u2_f h5, u2_f h4, u2_f h3, u2_f h2, u2_f h1]
theorem ldG_f {held : Bool} {f j : Nat} (h1 : f ≠ 116) (h2 : f ≠ 113) (h3 : f ≠ 107) (h4 : f ≠ 108) (h5 : f ≠ 95) : ∀ n (S : SS), ldG held n S f j = S f j := by
  intro n
  induction n with
  | zero => intro S; rfl
  | succ n ih =>
    intro S
    unfold ldG
    split
    · rfl
    · rw [ih, ldU_f h1 h2 h3 h4 h5]
theorem gd_use {T : Nat} {S : SS} {w : Int32} (hg : gdT T S) : gdT T (usF S w) := by
  unfold usF
  refine gd_cong (Nat.le_refl _) ?_ ?_ ?_ ?_ ?_ ?_ ?_ ?_ ?_ ?_ ?_ ?_ hg <;> (try intro i) <;> rw [u2_f (by decide), u2_f (by decide), u2_f (by decide)]
theorem enF_f {S : SS} {f j : Nat} (h1 : f ≠ 93) (h2 : f ≠ 117) (h3 : f ≠ 118) : enF S f j = S f j := by
  unfold enF
  split
  · show (if f = 93 ∧ j = 0 then S 93 0 + 1 else if f = 117 ∧ j < tn (S 28 0) then S 108 j else if f = 118 ∧ j < tn (S 28 0) then S 109 j else S f j) = _
    rw [if_neg (fun q => h1 q.1), if_neg (fun q => h2 q.1), if_neg (fun q => h3 q.1)]
  · exact u2_f h1
theorem enF_93 {S : SS} : enF S 93 0 = S 93 0 + 1 := by
  unfold enF
  split
  · exact if_pos ⟨rfl, rfl⟩
  · exact u2_s
theorem gd_en {T : Nat} {S : SS} (hg : gdT T S) (ht : tn (S 93 0) < 720) : gdT T (enF S) := by
  obtain ⟨g1, g2, g3, g4, g5, g6, g7, g8, g9, ga, gb, gc⟩ := hg
  have e93 : enF S 93 0 = nI (tn (S 93 0) + 1) := by rw [enF_93, g5, nI_1, tn_nI (by omega)]
  unfold gdT
  rw [e93, tn_nI (by omega), enF_f (f := 28) (by decide) (by decide) (by decide), enF_f (f := 34) (by decide) (by decide) (by decide), enF_f (f := 94) (by decide) (by decide) (by decide), enF_f (f := 95) (by decide) (by decide) (by decide)]
  refine ⟨g1, g2, g3, g4, rfl, by omega, g7, g8, g9, ga, fun k hk => ?_, fun o ho => ?_⟩
  · have := gb k hk
    unfold shG at *
    rw [enF_f (f := 28) (by decide) (by decide) (by decide), enF_f (f := 113) (by decide) (by decide) (by decide), enF_f (f := 115) (by decide) (by decide) (by decide), enF_f (f := 125) (by decide) (by decide) (by decide)]
    refine ⟨this.1, this.2.1, this.2.2.1, this.2.2.2.1, this.2.2.2.2.1, this.2.2.2.2.2.1, fun i hi => ?_⟩
    rw [enF_f (f := 116) (by decide) (by decide) (by decide)]; exact this.2.2.2.2.2.2 i hi
  · rw [enF_f (f := 111) (by decide) (by decide) (by decide), enF_f (f := 120) (by decide) (by decide) (by decide), enF_f (f := 121) (by decide) (by decide) (by decide)]; exact gc o ho
theorem gd_dy {t : Nat} {S : SS} {held : Bool} {w duty : Int32} (hg : gdT t S) (e : tn (S 93 0) = t) (ht : t < 720) : gdT (t + 1) (dyF S held w duty) := by
  unfold dyF
  have g1 := gd_dig hg
  have g2 := gd_ldG (held := held) (tn (S 94 0)) _ g1
  have h93 : S 93 0 = nI t := by rw [← e]; exact hg.2.2.2.2.1
  have g3 : gdT (t + 1) (saG (S 93 0 + 1) w duty (ldG held (tn (S 94 0)) (digF S)) (tn (S 34 0))) := gd_saG g2 (by rw [h93, nI_1]) (by omega) (by omega) (Nat.le_refl _) _ hg.2.2.2.1
  refine gd_en (gd_use g3) ?_
  have : usF (saG (S 93 0 + 1) w duty (ldG held (tn (S 94 0)) (digF S)) (tn (S 34 0))) w 93 0 = S 93 0 := by
    unfold usF
    rw [u2_f (by decide), u2_f (by decide), u2_f (by decide), saG_f (by decide) (by decide) (by decide) (by decide) (by decide) (by decide) (by decide), ldG_f (by decide) (by decide) (by decide) (by decide) (by decide)]
    exact if_neg (fun q => absurd q.1 (by decide))
  rw [this, e]; exact ht
theorem gd_93 {T t : Nat} {S : SS} {x : Int32} (hg : gdT T S) (hx : x = nI t) (ht : t ≤ 720) : gdT T (u2 S 93 0 x) := by
  obtain ⟨g1, g2, g3, g4, g5, g6, g7, g8, g9, ga, gb, gc⟩ := hg
  unfold gdT
  rw [u2_s, hx, tn_nI (by omega), u2_f (g := 28) (by decide), u2_f (g := 34) (by decide), u2_f (g := 94) (by decide), u2_f (g := 95) (by decide)]
  refine ⟨g1, g2, g3, g4, rfl, ht, g7, g8, g9, ga, fun k hk => ?_, fun o ho => ?_⟩
  · have := gb k hk
    unfold shG at *
    rw [u2_f (g := 28) (by decide), u2_f (g := 113) (by decide), u2_f (g := 115) (by decide), u2_f (g := 125) (by decide)]
    refine ⟨this.1, this.2.1, this.2.2.1, this.2.2.2.1, this.2.2.2.2.1, this.2.2.2.2.2.1, fun i hi => ?_⟩
    rw [u2_f (g := 116) (by decide)]; exact this.2.2.2.2.2.2 i hi
  · rw [u2_f (g := 111) (by decide), u2_f (g := 120) (by decide), u2_f (g := 121) (by decide)]; exact gc o ho
theorem ro_ldU {T : Nat} {S : SS} {b o : Nat} (hg : gdT T S) (hb : b < 8) (hr : roF S b = true) (ho : o < tn (S 28 0)) {k : Nat} (hk : k < 8) (h : roF (ldU S (nI b) (nI o)) k = true) : roF S k = true := by
  have g2 := gd_ldU hg hb hr ho
  have s1 := hg.2.2.2.2.2.2.2.2.2.2.1 k hk
  have s2 := g2.2.2.2.2.2.2.2.2.2.2.1 k hk
  rw [roF_iff s2, decide_eq_true_iff] at h
  rw [roF_iff s1, decide_eq_true_iff]
  have e125 : ldU S (nI b) (nI o) 125 k = S 125 k := by
    unfold ldU; rw [u2_f (by decide), u2_f (by decide), u2_f (by decide), u2_f (by decide), u2_f (by decide)]
  have e113 : tn (S 113 k) ≤ tn (ldU S (nI b) (nI o) 113 k) := by
    unfold ldU
    rw [u2_f (by decide), u2_f (by decide), u2_f (by decide), tn_nI (by omega)]
    by_cases hkb : k = b
    · subst hkb
      rw [u2_s, s1.1, nI_1, tn_nI (by have := s1.2.2.1; have := s1.2.2.2.1; omega), tn_nI (by have := s1.2.2.1; have := s1.2.2.2.1; omega)]
      omega
    · rw [u2_i hkb, u2_f (by decide)]; exact Nat.le_refl _
  rw [e125] at h
  omega
theorem jmax0 {x : Int32} (h : ¬ x < 0) : jmax 0 x = x := by
  unfold jmax
  by_cases q : 0 < x
  · rw [if_pos q]
  · rw [if_neg q]
    rw [Int32.lt_iff_toInt_lt] at h q
    exact Int32.toInt_inj.mp (by have : (0 : Int32).toInt = 0 := rfl; omega)
theorem ldG_s {held : Bool} {n : Nat} {S : SS} : ldG held (n + 1) S = if (pkG S held (tn (S 34 0))).1 < 0 then S else ldG held n (ldU S (pkG S held (tn (S 34 0))).1 (pkG S held (tn (S 34 0))).2) := rfl
