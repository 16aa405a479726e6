-- LEVEL 3, part 45: tokens, as both sides take them
theorem lc_eq (x y : Int64) : (lg_cmp x y = 0) ↔ x = y := by
  unfold lg_cmp
  by_cases c : x > y
  · rw [if_pos c]
    refine ⟨fun q => absurd q (by decide), fun q => ?_⟩
    subst q
    have c : x < x := c
    rw [Int64.lt_iff_toInt_lt] at c; omega
  · rw [if_neg c]
    by_cases d : x = y
    · rw [if_pos d]; exact ⟨fun _ => d, fun _ => rfl⟩
    · rw [if_neg d]; exact ⟨fun q => absurd q (by decide), fun q => absurd q d⟩
theorem lN_eq4 {a b : Nat} (ha : a < 2 ^ 62) (hb : b < 2 ^ 62) : lN a = lN b ↔ a = b := by
  rw [← Int64.toInt_inj, pk_lT (by omega), pk_lT (by omega)]; omega
-- letters, digits, blanks, signs
def isL (c : Nat) : Bool := decide (97 ≤ c) && decide (c ≤ 122)
def isD (c : Nat) : Bool := decide (48 ≤ c) && decide (c ≤ 57)
def isK (c : Nat) : Bool := decide (c = 10) || decide (c = 32)
def sgn (c : Nat) : Bool := (decide (40 ≤ c) && decide (c ≤ 43)) || decide (c = 45) || decide (c = 47) || (decide (59 ≤ c) && decide (c ≤ 61))
def skG (p : Nat → Bool) (T : Nat → Nat) (n : Nat) : Nat → Nat → Nat
  | 0, i => i
  | f + 1, i => if i < n ∧ p (T i) = true then skG p T n f (i + 1) else i
def skF (p : Nat → Bool) (T : Nat → Nat) (n i : Nat) : Nat := skG p T n (n - i) i
theorem sk_yes {p : Nat → Bool} {T : Nat → Nat} {n i : Nat} (h : i < n) (hp : p (T i) = true) : skF p T n i = skF p T n (i + 1) := by
  unfold skF
  rw [show n - i = (n - (i + 1)) + 1 by omega]
  show (if i < n ∧ p (T i) = true then skG p T n (n - (i + 1)) (i + 1) else i) = _
  rw [if_pos ⟨h, hp⟩]
theorem sk_no {p : Nat → Bool} {T : Nat → Nat} {n i : Nat} (h : ¬ (i < n ∧ p (T i) = true)) : skF p T n i = i := by
  unfold skF
  cases hn : n - i with
  | zero => rfl
  | succ f =>
    show (if i < n ∧ p (T i) = true then skG p T n f (i + 1) else i) = _
    rw [if_neg h]
theorem sk_rng {p : Nat → Bool} {T : Nat → Nat} {n : Nat} : ∀ d i, n - i = d → i ≤ n → i ≤ skF p T n i ∧ skF p T n i ≤ n ∧ (∀ j, i ≤ j → j < skF p T n i → p (T j) = true) ∧ (skF p T n i < n → p (T (skF p T n i)) = false) := by
  intro d
  induction d with
  | zero =>
    intro i hd hi
    rw [sk_no (fun q => by omega)]
    exact ⟨Nat.le_refl _, hi, fun j a b => absurd b (by omega), fun q => by omega⟩
  | succ d ih =>
    intro i hd hi
    by_cases c : i < n ∧ p (T i) = true
    · rw [sk_yes c.1 c.2]
      obtain ⟨a, b, e, f⟩ := ih (i + 1) (by omega) (by omega)
      refine ⟨by omega, b, fun j j1 j2 => ?_, f⟩
      by_cases q : j = i
      · rw [q]; exact c.2
      · exact e j (by omega) j2
    · rw [sk_no c]
      refine ⟨Nat.le_refl _, hi, fun j a b => absurd b (by omega), fun q => ?_⟩
      by_cases z : p (T i) = true
      · exact absurd ⟨q, z⟩ c
      · simpa using z
-- the words' table
def jwN (k i : Nat) : Nat := tn (jword (nI (8 * k + i)))
def lnW (k : Nat) : Nat := if jwN k 1 = 32 then 1 else if jwN k 2 = 32 then 2 else if jwN k 3 = 32 then 3 else if jwN k 4 = 32 then 4 else if jwN k 5 = 32 then 5 else if jwN k 6 = 32 then 6 else if jwN k 7 = 32 then 7 else 8
def hsG (f : Nat → Nat) : Nat → Nat
  | 0 => 0
  | i + 1 => 27 * hsG f i + f i - 96
def whF (k : Nat) : Nat := hsG (jwN k) (lnW k)
theorem wt_1 : ∀ k, k < 27 → ∀ i, i < 8 → jword (nI (8 * k + i)) = nI (jwN k i) ∧ jwN k i < 128 ∧ (i < lnW k → 97 ≤ jwN k i ∧ jwN k i ≤ 122) ∧ (lnW k ≤ i → jwN k i = 32) := by decide +kernel
theorem wt_2 : ∀ k, k < 27 → 1 ≤ lnW k ∧ lnW k ≤ 8 ∧ whF k < 2 ^ 40 := by decide +kernel
theorem wt_3 : [whF 0, whF 1, whF 2, whF 3, whF 4, whF 5, whF 6, whF 7, whF 8] = [332864552, 5171369, 125042, 119163, 9678763, 1503, 458690, 444208, 94606] := by decide +kernel
theorem wt_4 : [whF 9, whF 10, whF 11, whF 12, whF 13, whF 14, whF 15, whF 16, whF 17] = [1111, 423, 10631, 8434683, 7091219, 6888250123, 85501, 10502066, 318611776] := by decide +kernel
theorem wt_5 : [whF 18, whF 19, whF 20, whF 21, whF 22, whF 23, whF 24, whF 25, whF 26] = [15289965949, 311436, 8863997, 66175, 453836, 10261855, 126232693, 7214732, 27966771847] := by decide +kernel
theorem wt_6 : ∀ j, j < 27 → ∀ k, k < 27 → whF j = whF k → j = k := by decide +kernel
-- words by their letters, words by their number
theorem hs_cg {f g : Nat → Nat} : ∀ l, (∀ i, i < l → f i = g i) → hsG f l = hsG g l := by
  intro l
  induction l with
  | zero => intro _; rfl
  | succ l ih => intro h; show 27 * hsG f l + f l - 96 = 27 * hsG g l + g l - 96; rw [ih (fun i hi => h i (by omega)), h l (by omega)]
theorem hs_pos {f : Nat → Nat} : ∀ l, (∀ i, i < l → 97 ≤ f i ∧ f i ≤ 122) → 1 ≤ l → 1 ≤ hsG f l := by
  intro l h hl
  cases l with
  | zero => omega
  | succ l => show 1 ≤ 27 * hsG f l + f l - 96; have := h l (by omega); omega
theorem hs_one {f g : Nat → Nat} : ∀ l m, (∀ i, i < l → 97 ≤ f i ∧ f i ≤ 122) → (∀ i, i < m → 97 ≤ g i ∧ g i ≤ 122) → hsG f l = hsG g m → l = m ∧ ∀ i, i < l → f i = g i := by
  intro l
  induction l with
  | zero =>
    intro m hf hg e
    cases m with
    | zero => exact ⟨rfl, fun i hi => absurd hi (by omega)⟩
    | succ m =>
      have := hs_pos (m + 1) hg (by omega)
      rw [← e] at this
      exact absurd this (by show ¬ 1 ≤ 0; omega)
  | succ l ih =>
    intro m hf hg e
    cases m with
    | zero =>
      have := hs_pos (l + 1) hf (by omega)
      rw [e] at this
      exact absurd this (by show ¬ 1 ≤ 0; omega)
    | succ m =>
      have e : 27 * hsG f l + f l - 96 = 27 * hsG g m + g m - 96 := e
      have a := hf l (by omega)
      have b := hg m (by omega)
      have e1 : f l = g m := by omega
      have e2 : hsG f l = hsG g m := by omega
      obtain ⟨q1, q2⟩ := ih m (fun i hi => hf i (by omega)) (fun i hi => hg i (by omega)) e2
      subst q1
      refine ⟨rfl, fun i hi => ?_⟩
      by_cases c : i = l
      · rw [c]; exact e1
      · exact q2 i (by omega)
theorem hs_lt {f : Nat → Nat} : ∀ l, (∀ i, i < l → 97 ≤ f i ∧ f i ≤ 122) → hsG f l < 27 ^ l := by
  intro l
  induction l with
  | zero => intro _; exact Nat.one_pos
  | succ l ih =>
    intro h
    have a := ih (fun i hi => h i (by omega))
    have b := h l (by omega)
    show 27 * hsG f l + f l - 96 < 27 ^ (l + 1)
    rw [Nat.pow_succ]; omega
def wmF (T : Nat → Nat) (b l k : Nat) : Bool := (List.range 8).all (fun i => decide (jwN k i = if i < l then T (b + i) else 32))
theorem wm_iff {T : Nat → Nat} {b l k : Nat} : wmF T b l k = true ↔ ∀ i, i < 8 → jwN k i = if i < l then T (b + i) else 32 := by
  unfold wmF
  rw [List.all_eq_true]
  constructor
  · intro h i hi
    exact of_decide_eq_true (h i (List.mem_range.mpr hi))
  · intro h i hi
    exact decide_eq_true (h i (List.mem_range.mp hi))
theorem wm_hs {T : Nat → Nat} {b l k : Nat} (hl : l ≤ 8) (h : ∀ i, i < l → 97 ≤ T (b + i) ∧ T (b + i) ≤ 122) (hk : k < 27) : wmF T b l k = true ↔ hsG (fun i => T (b + i)) l = whF k := by
  rw [wm_iff]
  have w2 := wt_2 k hk
  have w1 := wt_1 k hk
  constructor
  · intro q
    have el : l = lnW k := by
      rcases Nat.lt_trichotomy l (lnW k) with c | c | c
      · have := q l (by omega)
        rw [if_neg (by omega)] at this
        have := (w1 l (by omega)).2.2.1 c
        omega
      · exact c
      · have := q (lnW k) (by omega)
        rw [if_pos (by omega)] at this
        have a := (w1 (lnW k) (by omega)).2.2.2 (Nat.le_refl _)
        have b := h (lnW k) (by omega)
        omega
    unfold whF
    rw [← el]
    exact hs_cg l (fun i hi => by
      have := q i (by omega)
      rw [if_pos hi] at this; exact this.symm)
  · intro q i hi
    obtain ⟨q1, q2⟩ := hs_one l (lnW k) h (fun i hi => (w1 i (by omega)).2.2.1 hi) q
    by_cases c : i < l
    · rw [if_pos c]; exact (q2 i c).symm
    · rw [if_neg c]; exact (w1 i hi).2.2.2 (by omega)
def wiG (T : Nat → Nat) (b l : Nat) : Nat → Nat → Nat
  | 0, _ => 31
  | r + 1, k => if wmF T b l k = true then k else wiG T b l r (k + 1)
theorem wi_s {T : Nat → Nat} {b l r k : Nat} : wiG T b l (r + 1) k = if wmF T b l k = true then k else wiG T b l r (k + 1) := rfl
theorem wi_spec {T : Nat → Nat} {b l : Nat} : ∀ r k, (wiG T b l r k = 31 ∧ ∀ j, k ≤ j → j < k + r → wmF T b l j = false) ∨ ∃ j, k ≤ j ∧ j < k + r ∧ wiG T b l r k = j ∧ wmF T b l j = true := by
  intro r
  induction r with
  | zero => intro k; exact Or.inl ⟨rfl, fun j a b => absurd b (by omega)⟩
  | succ r ih =>
    intro k
    rw [wi_s]
    by_cases c : wmF T b l k = true
    · rw [if_pos c]; exact Or.inr ⟨k, by omega, by omega, rfl, c⟩
    · rw [if_neg c]
      rcases ih (k + 1) with ⟨q1, q2⟩ | ⟨j, j1, j2, j3, j4⟩
      · refine Or.inl ⟨q1, fun j a b => ?_⟩
        by_cases e : j = k
        · rw [e]; simpa using c
        · exact q2 j (by omega) (by omega)
      · exact Or.inr ⟨j, by omega, by omega, j3, j4⟩
def nuF (T : Nat → Nat) (b : Nat) : Nat → Nat
  | 0 => 0
  | i + 1 => 10 * nuF T b i + (T (b + i) - 48)
-- a token from place e on: where it begins, where what is behind it begins, its code, its number
def tkB (T : Nat → Nat) (n e : Nat) : Nat := skF isK T n e
def tkE (T : Nat → Nat) (n b : Nat) : Nat := if b < n then (if isL (T b) = true then skF isL T n b else if isD (T b) = true then skF isD T n b else b + 1) else b
def tkC (T : Nat → Nat) (n b : Nat) : Nat :=
  if b < n then (if isL (T b) = true then (if 8 < skF isL T n b - b then 31 else wiG T b (skF isL T n b - b) 27 0) else if isD (T b) = true then (if 4 < skF isD T n b - b then 31 else 30) else if sgn (T b) = true then T b else 31) else 32
def tkV (T : Nat → Nat) (n b : Nat) : Nat := nuF T b (skF isD T n b - b)
def okT (T : Nat → Nat) (n : Nat) : Prop := n ≤ 1000 ∧ ∀ i, i < n → T i = 10 ∨ (32 ≤ T i ∧ T i ≤ 126)
theorem tk_rng {T : Nat → Nat} {n e : Nat} (he : e ≤ n) : e ≤ tkB T n e ∧ tkB T n e ≤ n ∧ (tkB T n e < n → tkB T n e < tkE T n (tkB T n e)) ∧ tkB T n e ≤ tkE T n (tkB T n e) ∧ tkE T n (tkB T n e) ≤ n := by
  obtain ⟨a1, a2, -⟩ := sk_rng (p := isK) (T := T) (n - e) e rfl he
  have a1 : e ≤ tkB T n e := a1
  have a2 : tkB T n e ≤ n := a2
  generalize tkB T n e = b at *
  unfold tkE
  by_cases c : b < n
  · rw [if_pos c]
    by_cases d : isL (T b) = true
    · rw [if_pos d]
      have r := sk_rng (p := isL) (T := T) (n := n) (n - (b + 1)) (b + 1) rfl (by omega)
      rw [← sk_yes c d] at r
      exact ⟨a1, a2, fun _ => by omega, by omega, r.2.1⟩
    · rw [if_neg d]
      by_cases f : isD (T b) = true
      · rw [if_pos f]
        have r := sk_rng (p := isD) (T := T) (n := n) (n - (b + 1)) (b + 1) rfl (by omega)
        rw [← sk_yes c f] at r
        exact ⟨a1, a2, fun _ => by omega, by omega, r.2.1⟩
      · rw [if_neg f]; exact ⟨a1, a2, fun _ => by omega, by omega, by omega⟩
  · rw [if_neg c]; exact ⟨a1, a2, fun q => absurd q c, by omega, a2⟩
theorem sg_iff : ∀ c, c < 128 → (sgn c = true ↔ ¬ jsign (nI c) < 0) := by decide +kernel
theorem tk_code {T : Nat → Nat} {n b : Nat} (hT : okT T n) : tkC T n b < 128 ∧ (tkC T n b = 32 ↔ ¬ b < n) ∧ (tkC T n b < 27 ∨ tkC T n b = 30 ∨ tkC T n b = 31 ∨ tkC T n b = 32 ∨ sgn (tkC T n b) = true) := by
  unfold tkC
  by_cases c : b < n
  · rw [if_pos c]
    have t := hT.2 b c
    by_cases d : isL (T b) = true
    · rw [if_pos d]
      split
      · exact ⟨by omega, ⟨fun q => by omega, fun q => absurd c q⟩, by omega⟩
      · rcases wi_spec (T := T) (b := b) (l := skF isL T n b - b) 27 0 with ⟨q, -⟩ | ⟨j, j1, j2, j3, -⟩
        · rw [q]; exact ⟨by omega, ⟨fun q => by omega, fun q => absurd c q⟩, by omega⟩
        · rw [j3]; exact ⟨by omega, ⟨fun q => by omega, fun q => absurd c q⟩, by omega⟩
    · rw [if_neg d]
      by_cases f : isD (T b) = true
      · rw [if_pos f]
        split <;> exact ⟨by omega, ⟨fun q => by omega, fun q => absurd c q⟩, by omega⟩
      · rw [if_neg f]
        by_cases g : sgn (T b) = true
        · rw [if_pos g]
          refine ⟨by omega, ⟨fun q => ?_, fun q => absurd c q⟩, Or.inr (Or.inr (Or.inr (Or.inr g)))⟩
          rw [q] at g; exact absurd g (by decide)
        · rw [if_neg g]; exact ⟨by omega, ⟨fun q => by omega, fun q => absurd c q⟩, by omega⟩
  · rw [if_neg c]; exact ⟨by omega, ⟨fun _ => c, fun _ => rfl⟩, by omega⟩
-- the class's reader
def rdC (M : Mem) (T : Nat → Nat) (n : Nat) : Prop := mi M 71 1 = nI n ∧ ∀ i, i < n → mi M 72 i = nI (T i)
def rtC (M : Mem) (T : Nat → Nat) (n b : Nat) : Prop := mi M 71 5 = nI b ∧ mi M 71 6 = nI (tkE T n b) ∧ mi M 71 3 = nI (tkC T n b) ∧ (tkC T n b = 30 → mi M 71 4 = nI (tkV T n b))
def PK (a k : Nat) : Prop := a = 71 ∧ (k = 3 ∨ k = 4 ∨ k = 5 ∨ k = 6)
theorem rdC_cg {M M' : Mem} {T : Nat → Nat} {n : Nat} (h : rdC M T n) (h1 : mi M' 71 1 = mi M 71 1) (h2 : ∀ i, mi M' 72 i = mi M 72 i) : rdC M' T n := ⟨h1.trans h.1, fun i hi => (h2 i).trans (h.2 i hi)⟩
section LEX
variable {L : Lay} {M : Mem}
theorem c_let {c : Nat} {A B : Mem → Prop} (hc : c < 2 ^ 31) (h0 : isL c = false → A M) (h1 : isL c = true → B M) : w_X5_isLetter L (nI c) M (fun x M1 => (x = 0 → A M1) ∧ (¬ x = 0 → B M1)) := by
  intro x hx
  have e1 := nI_ltI (a := c) (b := 97) hc (by decide)
  have e2 := nI_ltI (a := 122) (b := c) (by decide) hc
  by_cases q : nI c < 97
  · rw [if_pos q] at hx; subst hx
    refine ⟨fun _ => h0 ?_, fun z => absurd rfl z⟩
    have := e1.mp q
    unfold isL; simp; omega
  · rw [if_neg q] at hx
    have q1 : ¬ c < 97 := fun z => q (e1.mpr z)
    by_cases r : 122 < nI c
    · rw [if_pos r] at hx; subst hx
      refine ⟨fun _ => h0 ?_, fun z => absurd rfl z⟩
      have := e2.mp r
      unfold isL; simp; omega
    · rw [if_neg r] at hx; subst hx
      have r1 : ¬ 122 < c := fun z => r (e2.mpr z)
      exact ⟨fun z => absurd z (by decide), fun _ => h1 (by unfold isL; simp; omega)⟩
theorem c_dig {c : Nat} {A B : Mem → Prop} (hc : c < 2 ^ 31) (h0 : isD c = false → A M) (h1 : isD c = true → B M) : w_X5_isDigit L (nI c) M (fun x M1 => (x = 0 → A M1) ∧ (¬ x = 0 → B M1)) := by
  intro x hx
  have e1 := nI_ltI (a := c) (b := 48) hc (by decide)
  have e2 := nI_ltI (a := 57) (b := c) (by decide) hc
  by_cases q : nI c < 48
  · rw [if_pos q] at hx; subst hx
    refine ⟨fun _ => h0 ?_, fun z => absurd rfl z⟩
    have := e1.mp q
    unfold isD; simp; omega
  · rw [if_neg q] at hx
    have q1 : ¬ c < 48 := fun z => q (e1.mpr z)
    by_cases r : 57 < nI c
    · rw [if_pos r] at hx; subst hx
      refine ⟨fun _ => h0 ?_, fun z => absurd rfl z⟩
      have := e2.mp r
      unfold isD; simp; omega
    · rw [if_neg r] at hx; subst hx
      have r1 : ¬ 57 < c := fun z => r (e2.mpr z)
      exact ⟨fun z => absurd z (by decide), fun _ => h1 (by unfold isD; simp; omega)⟩
theorem c_isWord {T : Nat → Nat} {n b e k : Nat} {A B : Mem → Prop} (hT : okT T n) (hr : rdC M T n) (h5 : mi M 71 5 = nI b) (h6 : mi M 71 6 = nI e) (he : e ≤ n) (hb : b ≤ e) (hk : k < 27)
    (h0 : wmF T b (e - b) k = false → A M) (h1 : wmF T b (e - b) k = true → B M) : w_X5_isWord L (nI k) M (fun x M1 => (x = 0 → A M1) ∧ (¬ x = 0 → B M1)) := by
  have hn := hT.1
  have w1 := wt_1 k hk
  unfold w_X5_isWord
  refine LP2_c0 0 8 (fun i M' => M' = M ∧ ∀ j, j < i → jwN k j = if j < e - b then T (b + j) else 32) rfl (by omega) ⟨rfl, fun j hj => absurd hj (by omega)⟩ ?_
  intro i M' hi _ ⟨em, ha⟩ K hK
  subst em
  unfold w_X5_isWord_2
  rw [show (8 : Int32) = nI 8 from rfl, nI_lt' (by omega) (by omega), h5, h6, nI_add, nI_lt' (by omega) (by omega)]
  refine ⟨fun hlt => ?_, fun hge => ?_⟩
  · have t128 : ∀ j, j < n → T j < 2 ^ 31 := fun j hj => by rcases hT.2 j hj with q | q <;> omega
    have go : ∀ y : Nat, y = (if i < e - b then T (b + i) else 32) → y < 2 ^ 31 → w_X5_isWord_37 L (nI k) K (nI i) (nI y) M' (fun x M1 => (x = 0 → A M1) ∧ (¬ x = 0 → B M1)) := fun y ey hy => by
      unfold w_X5_isWord_37
      rw [show (8 : Int32) = nI 8 from rfl, pk_mul, nI_add, show k * 8 + i = 8 * k + i by omega, (w1 i hlt).1, nI_eq' (by have := (w1 i hlt).2.1; omega) hy]
      refine ⟨vp_in_nI (by omega) (by decide), fun c x hx => ?_, fun c => ⟨fun _ => h0 ?_, fun z => absurd rfl z⟩⟩
      · rw [hx, nI_1]
        refine hK hlt M' ⟨rfl, fun j hj => ?_⟩
        by_cases q : j = i
        · rw [q, c]; exact ey
        · exact ha j (by omega)
      · by_cases w : wmF T b (e - b) k = true
        · exact absurd ((wm_iff.mp w i hlt).trans ey.symm) c
        · simpa using w
    refine ⟨fun c => ?_, fun c => go 32 (by rw [if_neg (by omega)]) (by decide)⟩
    rw [tn_nI (by omega), hr.2 _ (by omega)]
    exact ⟨vp_in_nI (by omega) (by decide), go _ (by rw [if_pos (by omega)]) (t128 _ (by omega))⟩
  · have : i = 8 := by omega
    subst this
    refine ⟨fun z => absurd z (by decide), fun _ => h1 ?_⟩
    exact wm_iff.mpr ha
theorem c_word {T : Nat → Nat} {n b : Nat} {Q : Mem → Prop} (hT : okT T n) (hr : rdC M T n) (h5 : mi M 71 5 = nI b) (h6 : mi M 71 6 = nI b) (hb : b < n) (hl : isL (T b) = true)
    (hQ : ∀ M', rtC M' T n b → FJ PK M M' → Q M') : w_X5_takeWord L M Q := by
  have hn := hT.1
  have rg := sk_rng (p := isL) (T := T) (n - b) b rfl (by omega)
  unfold w_X5_takeWord
  refine LP1_m (fun m M' => ∃ e, e ≤ n ∧ b ≤ e ∧ m = n - e ∧ mi M' 71 6 = nI e ∧ skF isL T n b = skF isL T n e ∧ FJ (fun a k => a = 71 ∧ k = 6) M M') (n - b) ⟨b, by omega, Nat.le_refl _, rfl, h6, rfl, FJ.rf⟩ ?_
  intro m M1 ⟨e, he, hbe, hm, g6, hs, F1⟩ K hK
  have fin : skF isL T n e = e → w_X5_takeWord_39 L M1 Q := fun es => by
    rw [es] at hs
    unfold w_X5_takeWord_39
    intro M2 e2
    have r2 : rdC M2 T n := rdC_cg hr (by rw [e2, mi_si, if_neg (by omega), F1.1 _ _ (by omega)]) (fun i => by rw [e2, mi_si, if_neg (by omega), F1.1 _ _ (by omega)])
    have k5 : mi M2 71 5 = nI b := by rw [e2, mi_si, if_neg (by omega), F1.1 _ _ (by omega)]; exact h5
    have k6 : mi M2 71 6 = nI e := by rw [e2, mi_si, if_neg (by omega)]; exact g6
    have F2 : FJ PK M M2 := by rw [e2]; exact (F1.mono (fun a k q => by unfold PK; omega)).si (by unfold PK; omega)
    have kE : tkE T n b = e := by unfold tkE; rw [if_pos hb, if_pos hl]; exact hs
    have kC : tkC T n b = if 8 < e - b then 31 else wiG T b (e - b) 27 0 := by unfold tkC; rw [if_pos hb, if_pos hl, hs]
    refine LP2_c0 0 27 (fun i M' => M' = M2 ∧ (¬ 8 < e - b → wiG T b (e - b) 27 0 = wiG T b (e - b) (27 - i) i)) rfl (by omega) ⟨rfl, fun _ => rfl⟩ ?_
    intro i M3 hi _ ⟨e3, hw⟩ K2 hK2
    subst e3
    have k3 : mi M3 71 3 = nI 31 := by rw [e2, mi_si, if_pos ⟨rfl, rfl⟩]; rfl
    unfold w_X5_takeWord_47
    rw [show (26 : Int32) = nI 26 from rfl, nI_lt' (by omega) (by omega), k5, k6, pk_sub hbe, show (8 : Int32) = nI 8 from rfl, nI_lt' (by omega) (by omega)]
    refine ⟨fun c => hQ M3 ⟨k5, by rw [k6, kE], ?_, fun q => ?_⟩ F2, fun c => ⟨fun d => hQ M3 ⟨k5, by rw [k6, kE], ?_, fun q => ?_⟩ F2, fun d => ?_⟩⟩
    · rw [k3, kC]
      by_cases d : 8 < e - b
      · rw [if_pos d]
      · rw [if_neg d, hw d, show 27 - i = 0 by omega]; rfl
    · rw [kC] at q
      by_cases d : 8 < e - b
      · rw [if_pos d] at q; omega
      · rw [if_neg d, hw d, show 27 - i = 0 by omega] at q
        exact absurd q (by show ¬ (31 = 30); omega)
    · rw [k3, kC, if_pos d]
    · rw [kC, if_pos d] at q; omega
    · have ws : wiG T b (e - b) (27 - i) i = if wmF T b (e - b) i = true then i else wiG T b (e - b) (27 - (i + 1)) (i + 1) := by
        rw [show 27 - i = (27 - (i + 1)) + 1 by omega, wi_s]
      refine c_isWord hT r2 k5 k6 he hbe (by omega) (fun q x hx => ?_) (fun q M4 e4 => ?_)
      · rw [hx, nI_1]
        refine hK2 (by omega) M3 ⟨rfl, fun _ => ?_⟩
        rw [hw d, ws, if_neg (by rw [q]; decide)]
      · have kc : tkC T n b = i := by rw [kC, if_neg d, hw d, ws, if_pos q]
        refine hQ M4 ⟨by rw [e4, mi_si, if_neg (by omega)]; exact k5, by rw [e4, mi_si, if_neg (by omega), k6, kE], by rw [e4, mi_si, if_pos ⟨rfl, rfl⟩, kc], fun z => by rw [kc] at z; omega⟩ ?_
        rw [e4]; exact F2.si (by unfold PK; omega)
  unfold w_X5_takeWord_0
  rw [g6, F1.1 71 1 (by omega), hr.1, nI_lt' (by omega) (by omega)]
  refine ⟨fun hlt => ?_, fun hge => fin (sk_no (fun q => hge q.1))⟩
  rw [tn_nI (by omega), F1.1 72 _ (by omega), hr.2 e hlt]
  refine ⟨vp_in_nI (by omega) (by decide), c_let (by rcases hT.2 e hlt with q | q <;> omega) (fun q => fin (sk_no (fun z => by rw [q] at z; exact absurd z.2 (by decide)))) (fun q M2 e2 => ?_)⟩
  refine hK (n - (e + 1)) (by omega) M2 ⟨e + 1, by omega, by omega, rfl, ?_, ?_, ?_⟩
  · rw [e2, mi_si, if_pos ⟨rfl, rfl⟩, g6, nI_1]
  · rw [hs, sk_yes hlt q]
  · rw [e2]; exact F1.si ⟨rfl, rfl⟩
theorem c_number {T : Nat → Nat} {n b : Nat} {Q : Mem → Prop} (hT : okT T n) (hr : rdC M T n) (h5 : mi M 71 5 = nI b) (h6 : mi M 71 6 = nI b) (hb : b < n) (hl : isL (T b) = false) (hd : isD (T b) = true)
    (hQ : ∀ M', rtC M' T n b → FJ PK M M' → Q M') : w_X5_takeNumber L M Q := by
  have hn := hT.1
  unfold w_X5_takeNumber
  intro M0 e0
  refine LP1_m (fun m M' => ∃ e, e ≤ n ∧ b ≤ e ∧ m = n - e ∧ mi M' 71 6 = nI e ∧ skF isD T n b = skF isD T n e ∧ mi M' 71 4 = nI (nuF T b (e - b)) ∧ FJ (fun a k => a = 71 ∧ (k = 4 ∨ k = 6)) M M') (n - b) ⟨b, by omega, Nat.le_refl _, rfl, by rw [e0, mi_si, if_neg (by omega)]; exact h6, rfl, by rw [e0, mi_si, if_pos ⟨rfl, rfl⟩, Nat.sub_self]; rfl, by rw [e0]; exact FJ.rf.si ⟨rfl, Or.inl rfl⟩⟩ ?_
  intro m M1 ⟨e, he, hbe, hm, g6, hs, g4, F1⟩ K hK
  have g5 : mi M1 71 5 = nI b := by rw [F1.1 _ _ (by omega)]; exact h5
  have fin : skF isD T n e = e → w_X5_takeNumber_68 L M1 Q := fun es => by
    rw [es] at hs
    unfold w_X5_takeNumber_68
    intro x hx M2 e2
    have el : ((4 : Int32) < nI (e - b)) ↔ 4 < e - b := nI_ltI (a := 4) (b := e - b) (by omega) (by omega)
    rw [g6, g5, pk_sub hbe] at hx
    have kE : tkE T n b = e := by unfold tkE; rw [if_pos hb, if_neg (by rw [hl]; decide), if_pos hd]; exact hs
    have kC : tkC T n b = if 4 < e - b then 31 else 30 := by unfold tkC; rw [if_pos hb, if_neg (by rw [hl]; decide), if_pos hd, hs]
    have kV : tkV T n b = nuF T b (e - b) := by unfold tkV; rw [hs]
    refine hQ M2 ⟨by rw [e2, mi_si, if_neg (by omega)]; exact g5, by rw [e2, mi_si, if_neg (by omega), g6, kE], ?_, fun _ => by rw [e2, mi_si, if_neg (by omega), g4, kV]⟩ ?_
    · rw [e2, mi_si, if_pos ⟨rfl, rfl⟩, hx, kC]
      by_cases q : 4 < e - b
      · rw [if_pos q, if_pos (el.mpr q)]; rfl
      · rw [if_neg q, if_neg (fun z => q (el.mp z))]; rfl
    · rw [e2]; exact (F1.mono (fun a k q => by unfold PK; omega)).si (by unfold PK; omega)
  unfold w_X5_takeNumber_5
  rw [g6, F1.1 71 1 (by omega), hr.1, nI_lt' (by omega) (by omega)]
  refine ⟨fun hlt => ?_, fun hge => fin (sk_no (fun q => hge q.1))⟩
  have tb := hT.2 e hlt
  rw [tn_nI (by omega), F1.1 72 _ (by omega), hr.2 e hlt]
  refine ⟨vp_in_nI (by omega) (by decide), c_dig (by omega) (fun q => fin (sk_no (fun z => by rw [q] at z; exact absurd z.2 (by decide)))) (fun q => ?_)⟩
  rw [g6, tn_nI (by omega), F1.1 72 _ (by omega), hr.2 e hlt]
  refine ⟨vp_in_nI (by omega) (by decide), fun M2 e2 M3 e3 => ?_⟩
  have q2 : 48 ≤ T e ∧ T e ≤ 57 := by unfold isD at q; simpa using q
  refine hK (n - (e + 1)) (by omega) M3 ⟨e + 1, by omega, by omega, rfl, ?_, ?_, ?_, ?_⟩
  · rw [e3, mi_si, if_pos ⟨rfl, rfl⟩, e2, mi_si, if_neg (by omega), g6, nI_1]
  · rw [hs, sk_yes hlt q]
  · rw [e3, mi_si, if_neg (by omega), e2, mi_si, if_pos ⟨rfl, rfl⟩, g4, show (10 : Int32) = nI 10 from rfl, show (48 : Int32) = nI 48 from rfl, pk_mul, pk_sub q2.1, nI_add, show e + 1 - b = (e - b) + 1 by omega]
    show _ = nI (10 * nuF T b (e - b) + (T (b + (e - b)) - 48))
    rw [show b + (e - b) = e by omega, Nat.mul_comm]
  · rw [e3, e2]; exact (F1.si ⟨rfl, Or.inl rfl⟩).si ⟨rfl, Or.inr rfl⟩
theorem c_next5 {T : Nat → Nat} {n e : Nat} {Q : Mem → Prop} (hT : okT T n) (hr : rdC M T n) (h6 : mi M 71 6 = nI e) (he : e ≤ n)
    (hQ : ∀ M', rtC M' T n (tkB T n e) → FJ PK M M' → Q M') : w_X5_next L M Q := by
  have hn := hT.1
  unfold w_X5_next
  refine LP1_m (fun m M' => ∃ i, i ≤ n ∧ e ≤ i ∧ m = n - i ∧ mi M' 71 6 = nI i ∧ skF isK T n e = skF isK T n i ∧ FJ (fun a k => a = 71 ∧ k = 6) M M') (n - e) ⟨e, he, Nat.le_refl _, rfl, h6, rfl, FJ.rf⟩ ?_
  intro m M1 ⟨i, hi, hei, hm, g6, hs, F1⟩ K hK
  have fin : skF isK T n i = i → w_X5_next_52 L M1 Q := fun es => by
    have eb : tkB T n e = i := hs.trans es
    rw [eb] at hQ
    unfold w_X5_next_52
    intro M2 e2
    rw [g6] at e2
    have k5 : mi M2 71 5 = nI i := by rw [e2, mi_si, if_pos ⟨rfl, rfl⟩]
    have k6 : mi M2 71 6 = nI i := by rw [e2, mi_si, if_neg (by omega)]; exact g6
    have F2 : FJ PK M M2 := by rw [e2]; exact (F1.mono (fun a k q => by unfold PK; omega)).si (by unfold PK; omega)
    have r2 : rdC M2 T n := rdC_cg hr (F2.1 _ _ (by unfold PK; omega)) (fun j => F2.1 _ _ (by unfold PK; omega))
    rw [k5, r2.1, nI_lt' (by omega) (by omega)]
    refine ⟨fun hlt => ?_, fun hge M3 e3 => ?_⟩
    · have tb := hT.2 i hlt
      rw [tn_nI (by omega), r2.2 i hlt]
      refine ⟨vp_in_nI (by omega) (by decide), c_let (by omega) (fun q => ?_) (fun q => c_word hT r2 k5 k6 hlt q (fun M' a b => hQ M' a (F2.tr b)))⟩
      rw [k5, tn_nI (by omega), r2.2 i hlt]
      refine ⟨vp_in_nI (by omega) (by decide), c_dig (by omega) (fun q2 M3 e3 => ?_) (fun q2 => c_number hT r2 k5 k6 hlt q q2 (fun M' a b => hQ M' a (F2.tr b)))⟩
      rw [k6, nI_1] at e3
      have F3 : FJ PK M M3 := by rw [e3]; exact F2.si (by unfold PK; omega)
      have j5 : mi M3 71 5 = nI i := by rw [e3, mi_si, if_neg (by omega)]; exact k5
      have j72 : mi M3 72 i = nI (T i) := by rw [e3, mi_si, if_neg (by omega)]; exact r2.2 i hlt
      have kE : tkE T n i = i + 1 := by unfold tkE; rw [if_pos hlt, if_neg (by rw [q]; decide), if_neg (by rw [q2]; decide)]
      have kC : tkC T n i = if sgn (T i) = true then T i else 31 := by unfold tkC; rw [if_pos hlt, if_neg (by rw [q]; decide), if_neg (by rw [q2]; decide)]
      have sg := sg_iff (T i) (by omega)
      have n30 : tkC T n i = 30 → False := fun z => by
        rw [kC] at z
        by_cases w : sgn (T i) = true
        · rw [if_pos w] at z; rw [z] at w; exact absurd w (by decide)
        · rw [if_neg w] at z; omega
      rw [j5, tn_nI (by omega), j72]
      refine ⟨vp_in_nI (by omega) (by decide), fun c M4 e4 => ?_, fun c M4 e4 => ?_⟩
      · refine hQ M4 ⟨by rw [e4, mi_si, if_neg (by omega)]; exact j5, by rw [e4, mi_si, if_neg (by omega), e3, mi_si, if_pos ⟨rfl, rfl⟩, kE], ?_, fun z => (n30 z).elim⟩ (by rw [e4]; exact F3.si (by unfold PK; omega))
        rw [e4, mi_si, if_pos ⟨rfl, rfl⟩, kC, if_neg (fun w => sg.mp w c)]; rfl
      · refine hQ M4 ⟨by rw [e4, mi_si, if_neg (by omega)]; exact j5, by rw [e4, mi_si, if_neg (by omega), e3, mi_si, if_pos ⟨rfl, rfl⟩, kE], ?_, fun z => (n30 z).elim⟩ (by rw [e4]; exact F3.si (by unfold PK; omega))
        rw [e4, mi_si, if_pos ⟨rfl, rfl⟩, kC, if_pos (sg.mpr c)]
    · have kE : tkE T n i = i := by unfold tkE; rw [if_neg hge]
      have kC : tkC T n i = 32 := by unfold tkC; rw [if_neg hge]
      refine hQ M3 ⟨by rw [e3, mi_si, if_neg (by omega)]; exact k5, by rw [e3, mi_si, if_neg (by omega), k6, kE], by rw [e3, mi_si, if_pos ⟨rfl, rfl⟩, kC]; rfl, fun z => by rw [kC] at z; omega⟩ (by rw [e3]; exact F2.si (by unfold PK; omega))
  unfold w_X5_next_0 w_X5_next_39
  rw [g6, F1.1 71 1 (by omega), hr.1, nI_lt' (by omega) (by omega)]
  refine ⟨fun hlt => ?_, fun hge => fin (sk_no (fun q => hge q.1))⟩
  have tb := hT.2 i hlt
  rw [tn_nI (by omega), F1.1 72 _ (by omega), hr.2 i hlt, show (10 : Int32) = nI 10 from rfl, show (32 : Int32) = nI 32 from rfl, nI_eq' (by omega) (by omega), nI_eq' (by omega) (by omega)]
  have go : isK (T i) = true → ∀ M2 : Mem, M2 = si M1 71 6 (nI i + 1) → K M2 := fun q M2 e2 => by
    refine hK (n - (i + 1)) (by omega) M2 ⟨i + 1, by omega, by omega, rfl, ?_, ?_, ?_⟩
    · rw [e2, mi_si, if_pos ⟨rfl, rfl⟩, nI_1]
    · rw [hs, sk_yes hlt q]
    · rw [e2]; exact F1.si ⟨rfl, rfl⟩
  refine ⟨vp_in_nI (by omega) (by decide), fun c => go (by unfold isK; simp [c]), fun c => ⟨fun d => go (by unfold isK; simp [d]), fun d => fin (sk_no (fun z => ?_))⟩⟩
  have z2 := z.2
  unfold isK at z2
  simp [c, d] at z2
end LEX
