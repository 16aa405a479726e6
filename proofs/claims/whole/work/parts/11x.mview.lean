-- LEVEL 3, part 2b: the view of the reference's world s (by program: wip/whole/l3/mview.py)
def mA (f : Nat) : Nat := if f = 28 ∨ f = 34 then 92 else f
def mO (s f : Nat) : Nat := if f = 28 then 28 else if f = 34 then 34 else match kd f with
  | 0 => s | 1 => s | 2 => (if 120 ≤ f then 0 else 10 * s) | 3 => (if 120 ≤ f then 0 else 8 * s) | 4 => 96 * s | _ => 0
def hbF (f : Nat → Int32) : Nat → Int32
  | 0 => 0
  | d + 1 => (jshl (hbF f d) 1 ||| f (d + 1)) &&& 1073741823
def loF (f : Nat) : Prop := f ≠ 109 ∧ f ≠ 117 ∧ f ≠ 118 ∧ f ≠ 119
def vwM (s : Nat) (M : Mem) (f i : Nat) : Int32 :=
  if f = 109 then (if i < 10 ∧ ¬ mi M 99 s < 0 then mi M 109 (10 * s + i) else 0)
  else if f = 117 then (if i < 10 ∧ ¬ tn (mi M 93 s) / 30 = 0 then mi M 117 (240 * s + 10 * (tn (mi M 93 s) / 30 - 1) + i) else 0)
  else if f = 118 then (if i < 10 ∧ ¬ tn (mi M 93 s) / 30 = 0 then jmax 0 (mi M 118 (240 * s + 10 * (tn (mi M 93 s) / 30 - 1) + i)) else 0)
  else if f = 119 then (if i = 0 then hbF (fun d => mi M 119 (721 * s + d)) (tn (mi M 93 s)) else 0)
  else if i < rg f then mi M (mA f) (mO s f + i) else 0
theorem vwM_def {s f i : Nat} {M : Mem} : vwM s M f i = if f = 109 then (if i < 10 ∧ ¬ mi M 99 s < 0 then mi M 109 (10 * s + i) else 0)
  else if f = 117 then (if i < 10 ∧ ¬ tn (mi M 93 s) / 30 = 0 then mi M 117 (240 * s + 10 * (tn (mi M 93 s) / 30 - 1) + i) else 0)
  else if f = 118 then (if i < 10 ∧ ¬ tn (mi M 93 s) / 30 = 0 then jmax 0 (mi M 118 (240 * s + 10 * (tn (mi M 93 s) / 30 - 1) + i)) else 0)
  else if f = 119 then (if i = 0 then hbF (fun d => mi M 119 (721 * s + d)) (tn (mi M 93 s)) else 0)
  else if i < rg f then mi M (mA f) (mO s f + i) else 0 := rfl
theorem vwM_at {s : Nat} {M : Mem} {f i : Nat} (hf : loF f) (hi : i < rg f) : vwM s M f i = mi M (mA f) (mO s f + i) := by
  unfold vwM; rw [if_neg hf.1, if_neg hf.2.1, if_neg hf.2.2.1, if_neg hf.2.2.2, if_pos hi]
theorem kA1 : ∀ f, f < 130 → kd f < 5 → f = 28 ∨ f = 34 ∨ (93 ≤ f ∧ f < 127) := by decide +kernel
theorem kA2 : ∀ f, f < 130 → kd f < 5 → f ≠ 99 ∧ f ≠ 101 ∧ f ≠ 102 ∧ f ≠ 103 ∧ f ≠ 104 := by decide +kernel
theorem mA_rng : ∀ f, f < 130 → kd f < 5 → 92 ≤ mA f ∧ mA f < 127 ∧ mA f ≠ 99 ∧ mA f ≠ 101 ∧ mA f ≠ 102 ∧ mA f ≠ 103 ∧ mA f ≠ 104 ∧ (mA f = 109 → f = 109) ∧ (mA f = 117 → f = 117) ∧ (mA f = 118 → f = 118) ∧ (mA f = 119 → f = 119) ∧ (mA f = 93 → f = 93) := by
  intro f b k
  have h1 := kA1 f b k
  have h2 := kA2 f b k
  unfold mA
  by_cases c : f = 28 ∨ f = 34
  · rw [if_pos c]; omega
  · rw [if_neg c]; omega
theorem mA_one : ∀ f, f < 130 → ∀ g, g < 130 → kd f < 5 → kd g < 5 → mA f = mA g → f = g ∨ (f = 28 ∧ g = 34) ∨ (f = 34 ∧ g = 28) := by
  intro f b g b2 k k2
  have h1 := kA1 f b k
  have h2 := kA1 g b2 k2
  unfold mA
  by_cases c : f = 28 ∨ f = 34
  · rw [if_pos c]
    by_cases d : g = 28 ∨ g = 34
    · rw [if_pos d]; omega
    · rw [if_neg d]; omega
  · rw [if_neg c]
    by_cases d : g = 28 ∨ g = 34
    · rw [if_pos d]; omega
    · rw [if_neg d]; omega
theorem m_inj {s f g i j : Nat} (hi : i < rg f) (hj : j < rg g) (hA : mA f = mA g) (hB : mO s f + i = mO s g + j) : f = g ∧ i = j := by
  have k1 := rg_kd hi
  have k2 := rg_kd hj
  rcases mA_one f (kd_lt k1) g (kd_lt k2) k1 k2 hA with rfl | ⟨rfl, rfl⟩ | ⟨rfl, rfl⟩
  · exact ⟨rfl, by omega⟩
  · have h1 : i < 1 := hi
    have h2 : j < 1 := hj
    have e1 : mO s 28 = 28 := rfl
    have e2 : mO s 34 = 34 := rfl
    omega
  · have h1 : i < 1 := hi
    have h2 : j < 1 := hj
    have e1 : mO s 28 = 28 := rfl
    have e2 : mO s 34 = 34 := rfl
    omega
theorem kR0 : ∀ f, f < 130 → kd f < 2 → f = 28 ∨ f = 34 ∨ f = 119 ∨ (93 ≤ f ∧ f < 107) := by decide +kernel
theorem kR2 : ∀ f, f < 130 → kd f = 2 → f = 109 ∨ f = 117 ∨ f = 118 ∨ (107 ≤ f ∧ f < 112) ∨ (120 ≤ f ∧ f < 125) := by decide +kernel
theorem kR3 : ∀ f, f < 130 → kd f = 3 → (112 ≤ f ∧ f < 116) ∨ (125 ≤ f ∧ f < 127) := by decide +kernel
theorem kR4 : ∀ f, f < 130 → kd f = 4 → f = 116 := by decide +kernel
theorem kd_rng : ∀ f, f < 130 → kd f < 5 → f ≠ 28 → f ≠ 34 → (f ≠ 109 ∧ f ≠ 117 ∧ f ≠ 118 ∧ f ≠ 119) → (kd f < 2 → 93 ≤ f ∧ f < 107) ∧ (kd f = 2 → (107 ≤ f ∧ f < 112) ∨ (120 ≤ f ∧ f < 125)) ∧ (kd f = 3 → (112 ≤ f ∧ f < 116) ∨ (125 ≤ f ∧ f < 127)) ∧ (kd f = 4 → f = 116) := by
  intro f b k g1 g2 g3
  refine ⟨fun q => ?_, fun q => ?_, fun q => kR3 f b q, fun q => kR4 f b q⟩
  · have := kR0 f b q; omega
  · have := kR2 f b q; omega
theorem vwM_cg {s : Nat} {M M' : Mem} (h : ∀ a k, 92 ≤ a → a < 127 → (a = 92 → k = 28 ∨ k = 34) → a ≠ 101 → a ≠ 102 → a ≠ 103 → a ≠ 104 → (a = 99 → k = s) → (93 ≤ a → a < 107 → k = s) → (107 ≤ a → a < 112 → 10 * s ≤ k ∧ k < 10 * s + 10) → (112 ≤ a → a < 116 → 8 * s ≤ k ∧ k < 8 * s + 8) → (a = 116 → 96 * s ≤ k ∧ k < 96 * s + 96) → (a = 117 ∨ a = 118 → 240 * s ≤ k ∧ k < 240 * s + 10 * (tn (mi M 93 s) / 30)) → (a = 119 → 721 * s ≤ k ∧ k ≤ 721 * s + tn (mi M 93 s)) → mi M' a k = mi M a k) : vwM s M' = vwM s M := by
  have h93 : mi M' 93 s = mi M 93 s := h 93 s (by omega) (by omega) (by omega) (by omega) (by omega) (by omega) (by omega) (by omega) (by omega) (by omega) (by omega) (by omega) (by omega) (by omega)
  have h99 : mi M' 99 s = mi M 99 s := h 99 s (by omega) (by omega) (by omega) (by omega) (by omega) (by omega) (by omega) (by omega) (by omega) (by omega) (by omega) (by omega) (by omega) (by omega)
  funext f i
  unfold vwM
  rw [h93, h99]
  by_cases c1 : f = 109
  · rw [if_pos c1, if_pos c1]
    by_cases q : i < 10 ∧ ¬ mi M 99 s < 0
    · rw [if_pos q, if_pos q]
      exact h _ _ (by omega) (by omega) (by omega) (by omega) (by omega) (by omega) (by omega) (by omega) (by omega) (by omega) (by omega) (by omega) (by omega) (by omega)
    · rw [if_neg q, if_neg q]
  rw [if_neg c1, if_neg c1]
  by_cases c2 : f = 117
  · rw [if_pos c2, if_pos c2]
    by_cases q : i < 10 ∧ ¬ tn (mi M 93 s) / 30 = 0
    · rw [if_pos q, if_pos q]
      exact h _ _ (by omega) (by omega) (by omega) (by omega) (by omega) (by omega) (by omega) (by omega) (by omega) (by omega) (by omega) (by omega) (by omega) (by omega)
    · rw [if_neg q, if_neg q]
  rw [if_neg c2, if_neg c2]
  by_cases c3 : f = 118
  · rw [if_pos c3, if_pos c3]
    by_cases q : i < 10 ∧ ¬ tn (mi M 93 s) / 30 = 0
    · rw [if_pos q, if_pos q]
      exact congrArg (jmax 0) (h _ _ (by omega) (by omega) (by omega) (by omega) (by omega) (by omega) (by omega) (by omega) (by omega) (by omega) (by omega) (by omega) (by omega) (by omega))
    · rw [if_neg q, if_neg q]
  rw [if_neg c3, if_neg c3]
  by_cases c4 : f = 119
  · rw [if_pos c4, if_pos c4]
    by_cases q : i = 0
    · rw [if_pos q, if_pos q]
      have : ∀ n, n ≤ tn (mi M 93 s) → hbF (fun d => mi M' 119 (721 * s + d)) n = hbF (fun d => mi M 119 (721 * s + d)) n := by
        intro n
        induction n with
        | zero => intro _; rfl
        | succ n ih =>
          intro hn
          unfold hbF
          rw [ih (by omega)]
          have : mi M' 119 (721 * s + (n + 1)) = mi M 119 (721 * s + (n + 1)) := h _ _ (by omega) (by omega) (by omega) (by omega) (by omega) (by omega) (by omega) (by omega) (by omega) (by omega) (by omega) (by omega) (by omega) (by omega)
          simp only [this]
      exact this _ (Nat.le_refl _)
    · rw [if_neg q, if_neg q]
  rw [if_neg c4, if_neg c4]
  by_cases hi : i < rg f
  · rw [if_pos hi, if_pos hi]
    have k1 := rg_kd hi
    have b1 := kd_lt k1
    have r1 := mA_rng f b1 k1
    by_cases g1 : f = 28
    · subst g1; have : i < 1 := hi; obtain rfl : i = 0 := by omega
      exact h 92 28 (by omega) (by omega) (by omega) (by omega) (by omega) (by omega) (by omega) (by omega) (by omega) (by omega) (by omega) (by omega) (by omega) (by omega)
    by_cases g2 : f = 34
    · subst g2; have : i < 1 := hi; obtain rfl : i = 0 := by omega
      exact h 92 34 (by omega) (by omega) (by omega) (by omega) (by omega) (by omega) (by omega) (by omega) (by omega) (by omega) (by omega) (by omega) (by omega) (by omega)
    have eA : mA f = f := if_neg (fun q => q.elim g1 g2)
    rw [eA] at r1 ⊢
    have r2 := kd_rng f b1 k1 g1 g2 ⟨c1, c2, c3, c4⟩
    have eO : mO s f = match kd f with
      | 0 => s | 1 => s | 2 => (if 120 ≤ f then 0 else 10 * s) | 3 => (if 120 ≤ f then 0 else 8 * s) | 4 => 96 * s | _ => 0 := by unfold mO; rw [if_neg g1, if_neg g2]
    rw [eO]
    unfold rg at hi
    generalize kd f = z at *
    match z, k1 with
    | 0, _ =>
      have hi : i < 1 := hi
      have := r2.1 (by decide)
      show mi M' f (s + i) = mi M f (s + i)
      refine h _ _ (by omega) (by omega) (by omega) (by omega) (by omega) (by omega) (by omega) ?_ ?_ ?_ ?_ ?_ ?_ ?_ <;> omega
    | 1, _ =>
      have hi : i < 1 := hi
      have := r2.1 (by decide)
      show mi M' f (s + i) = mi M f (s + i)
      refine h _ _ (by omega) (by omega) (by omega) (by omega) (by omega) (by omega) (by omega) ?_ ?_ ?_ ?_ ?_ ?_ ?_ <;> omega
    | 2, _ =>
      have hi : i < 10 := hi
      have := r2.2.1 rfl
      show mi M' f ((if 120 ≤ f then 0 else 10 * s) + i) = mi M f ((if 120 ≤ f then 0 else 10 * s) + i)
      by_cases q : 120 ≤ f
      · rw [if_pos q]
        refine h _ _ (by omega) (by omega) (by omega) (by omega) (by omega) (by omega) (by omega) ?_ ?_ ?_ ?_ ?_ ?_ ?_ <;> omega
      · rw [if_neg q]
        refine h _ _ (by omega) (by omega) (by omega) (by omega) (by omega) (by omega) (by omega) ?_ ?_ ?_ ?_ ?_ ?_ ?_ <;> omega
    | 3, _ =>
      have hi : i < 8 := hi
      have := r2.2.2.1 rfl
      show mi M' f ((if 120 ≤ f then 0 else 8 * s) + i) = mi M f ((if 120 ≤ f then 0 else 8 * s) + i)
      by_cases q : 120 ≤ f
      · rw [if_pos q]
        refine h _ _ (by omega) (by omega) (by omega) (by omega) (by omega) (by omega) (by omega) ?_ ?_ ?_ ?_ ?_ ?_ ?_ <;> omega
      · rw [if_neg q]
        refine h _ _ (by omega) (by omega) (by omega) (by omega) (by omega) (by omega) (by omega) ?_ ?_ ?_ ?_ ?_ ?_ ?_ <;> omega
    | 4, _ =>
      have hi : i < 96 := hi
      have := r2.2.2.2 rfl
      show mi M' f (96 * s + i) = mi M f (96 * s + i)
      refine h _ _ (by omega) (by omega) (by omega) (by omega) (by omega) (by omega) (by omega) ?_ ?_ ?_ ?_ ?_ ?_ ?_ <;> omega
  · rw [if_neg hi, if_neg hi]
theorem vwM_si {s : Nat} {M : Mem} {f i : Nat} {x : Int32} (hf : loF f) (h93 : f ≠ 93) (hi : i < rg f) : vwM s (si M (mA f) (mO s f + i) x) = u2 (vwM s M) f i x := by
  have k1 := rg_kd hi
  have b1 := kd_lt k1
  have r1 := mA_rng f b1 k1
  have ne : ∀ a j, (a = 93 ∨ a = 99 ∨ a = 109 ∨ a = 117 ∨ a = 118 ∨ a = 119) → mi (si M (mA f) (mO s f + i) x) a j = mi M a j := fun a j ha => by
    rw [mi_si, if_neg]
    rintro ⟨q, -⟩
    rcases ha with rfl | rfl | rfl | rfl | rfl | rfl
    · exact h93 (r1.2.2.2.2.2.2.2.2.2.2.2 q.symm)
    · exact r1.2.2.1 q.symm
    · exact hf.1 (r1.2.2.2.2.2.2.2.1 q.symm)
    · exact hf.2.1 (r1.2.2.2.2.2.2.2.2.1 q.symm)
    · exact hf.2.2.1 (r1.2.2.2.2.2.2.2.2.2.1 q.symm)
    · exact hf.2.2.2 (r1.2.2.2.2.2.2.2.2.2.2.1 q.symm)
  funext g j
  rw [u2_def, vwM_def, vwM_def]
  simp only [ne 93 _ (by simp), ne 99 _ (by simp), ne 109 _ (by simp), ne 117 _ (by simp), ne 118 _ (by simp), ne 119 _ (by simp)]
  by_cases hg : g = f ∧ j = i
  · obtain ⟨rfl, rfl⟩ := hg
    rw [if_neg hf.1, if_neg hf.2.1, if_neg hf.2.2.1, if_neg hf.2.2.2, if_pos hi, mi_si, if_pos ⟨rfl, rfl⟩, if_pos ⟨rfl, rfl⟩]
  · rw [if_neg hg]
    by_cases c1 : g = 109
    · rw [if_pos c1, if_pos c1]
    rw [if_neg c1, if_neg c1]
    by_cases c2 : g = 117
    · rw [if_pos c2, if_pos c2]
    rw [if_neg c2, if_neg c2]
    by_cases c3 : g = 118
    · rw [if_pos c3, if_pos c3]
    rw [if_neg c3, if_neg c3]
    by_cases c4 : g = 119
    · rw [if_pos c4, if_pos c4]
    rw [if_neg c4, if_neg c4]
    by_cases hj : j < rg g
    · rw [if_pos hj, if_pos hj, mi_si, if_neg (fun q => hg (m_inj hj hi q.1 q.2))]
    · rw [if_neg hj, if_neg hj]
theorem vwM_out {s : Nat} {M : Mem} {a k : Nat} {x : Int32} (h : a < 92 ∨ 127 ≤ a ∨ a = 101 ∨ a = 102 ∨ a = 103 ∨ a = 104 ∨ (a = 92 ∧ k ≠ 28 ∧ k ≠ 34)) : vwM s (si M a k x) = vwM s M :=
  vwM_cg fun b j h1 h2 h3 h4 h5 h6 h7 _ _ _ _ _ _ _ => by
    rw [mi_si, if_neg]
    rintro ⟨rfl, rfl⟩
    omega
theorem vw109_s {s i : Nat} {M : Mem} {x : Int32} (hi : i < 10) (hp : ¬ mi M 99 s < 0) : vwM s (si M 109 (10 * s + i) x) = u2 (vwM s M) 109 i x := by
  have ne : ∀ a j, a ≠ 109 → mi (si M 109 (10 * s + i) x) a j = mi M a j := fun a j ha => by rw [mi_si, if_neg (fun q => ha q.1)]
  funext g j
  rw [u2_def, vwM_def, vwM_def]
  simp only [ne 93 _ (by decide), ne 99 _ (by decide), ne 117 _ (by decide), ne 118 _ (by decide), ne 119 _ (by decide)]
  by_cases c1 : g = 109
  · subst c1
    rw [if_pos rfl, if_pos rfl]
    by_cases hj : j = i
    · subst hj; rw [if_pos ⟨hi, hp⟩, if_pos ⟨rfl, rfl⟩, mi_si, if_pos ⟨rfl, rfl⟩]
    · rw [if_neg (c := 109 = 109 ∧ j = i) (fun q => hj q.2)]
      by_cases q : j < 10 ∧ ¬ mi M 99 s < 0
      · rw [if_pos q, if_pos q, mi_si, if_neg (fun r => hj (by omega))]
      · rw [if_neg q, if_neg q]
  · rw [if_neg c1, if_neg c1, if_neg (c := g = 109 ∧ j = i) (fun q => c1 q.1)]
    by_cases hj : j < rg g
    · have r1 := mA_rng g (kd_lt (rg_kd hj)) (rg_kd hj)
      rw [if_pos hj, if_pos hj, ne _ _ (fun q => c1 (r1.2.2.2.2.2.2.2.1 q))]
    · rw [if_neg hj, if_neg hj]
theorem rM_109 {s i : Nat} {M : Mem} (hi : i < 10) (hp : ¬ mi M 99 s < 0) : mi M 109 (10 * s + i) = vwM s M 109 i := by
  unfold vwM; rw [if_pos rfl, if_pos ⟨hi, hp⟩]
theorem rM_28 {s : Nat} {M : Mem} : mi M 92 28 = vwM s M 28 0 := (vwM_at (s := s) (f := 28) (i := 0) (by unfold loF; decide) (by decide)).symm
theorem sM_28 {s : Nat} {M : Mem} {x : Int32} : vwM s (si M 92 28 x) = u2 (vwM s M) 28 0 x := vwM_si (f := 28) (i := 0) (by unfold loF; decide) (by decide) (by decide)
theorem rM_34 {s : Nat} {M : Mem} : mi M 92 34 = vwM s M 34 0 := (vwM_at (s := s) (f := 34) (i := 0) (by unfold loF; decide) (by decide)).symm
theorem sM_34 {s : Nat} {M : Mem} {x : Int32} : vwM s (si M 92 34 x) = u2 (vwM s M) 34 0 x := vwM_si (f := 34) (i := 0) (by unfold loF; decide) (by decide) (by decide)
theorem rM_93 {s : Nat} {M : Mem} : mi M 93 s = vwM s M 93 0 := (vwM_at (s := s) (f := 93) (i := 0) (by unfold loF; decide) (by decide)).symm
theorem rM_94 {s : Nat} {M : Mem} : mi M 94 s = vwM s M 94 0 := (vwM_at (s := s) (f := 94) (i := 0) (by unfold loF; decide) (by decide)).symm
theorem sM_94 {s : Nat} {M : Mem} {x : Int32} : vwM s (si M 94 s x) = u2 (vwM s M) 94 0 x := vwM_si (f := 94) (i := 0) (by unfold loF; decide) (by decide) (by decide)
theorem rM_95 {s : Nat} {M : Mem} : mi M 95 s = vwM s M 95 0 := (vwM_at (s := s) (f := 95) (i := 0) (by unfold loF; decide) (by decide)).symm
theorem sM_95 {s : Nat} {M : Mem} {x : Int32} : vwM s (si M 95 s x) = u2 (vwM s M) 95 0 x := vwM_si (f := 95) (i := 0) (by unfold loF; decide) (by decide) (by decide)
theorem rM_96 {s : Nat} {M : Mem} : mi M 96 s = vwM s M 96 0 := (vwM_at (s := s) (f := 96) (i := 0) (by unfold loF; decide) (by decide)).symm
theorem sM_96 {s : Nat} {M : Mem} {x : Int32} : vwM s (si M 96 s x) = u2 (vwM s M) 96 0 x := vwM_si (f := 96) (i := 0) (by unfold loF; decide) (by decide) (by decide)
theorem rM_97 {s : Nat} {M : Mem} : mi M 97 s = vwM s M 97 0 := (vwM_at (s := s) (f := 97) (i := 0) (by unfold loF; decide) (by decide)).symm
theorem sM_97 {s : Nat} {M : Mem} {x : Int32} : vwM s (si M 97 s x) = u2 (vwM s M) 97 0 x := vwM_si (f := 97) (i := 0) (by unfold loF; decide) (by decide) (by decide)
theorem rM_98 {s : Nat} {M : Mem} : mi M 98 s = vwM s M 98 0 := (vwM_at (s := s) (f := 98) (i := 0) (by unfold loF; decide) (by decide)).symm
theorem sM_98 {s : Nat} {M : Mem} {x : Int32} : vwM s (si M 98 s x) = u2 (vwM s M) 98 0 x := vwM_si (f := 98) (i := 0) (by unfold loF; decide) (by decide) (by decide)
theorem rM_100 {s : Nat} {M : Mem} : mi M 100 s = vwM s M 100 0 := (vwM_at (s := s) (f := 100) (i := 0) (by unfold loF; decide) (by decide)).symm
theorem sM_100 {s : Nat} {M : Mem} {x : Int32} : vwM s (si M 100 s x) = u2 (vwM s M) 100 0 x := vwM_si (f := 100) (i := 0) (by unfold loF; decide) (by decide) (by decide)
theorem rM_105 {s : Nat} {M : Mem} : mi M 105 s = vwM s M 105 0 := (vwM_at (s := s) (f := 105) (i := 0) (by unfold loF; decide) (by decide)).symm
theorem sM_105 {s : Nat} {M : Mem} {x : Int32} : vwM s (si M 105 s x) = u2 (vwM s M) 105 0 x := vwM_si (f := 105) (i := 0) (by unfold loF; decide) (by decide) (by decide)
theorem rM_106 {s : Nat} {M : Mem} : mi M 106 s = vwM s M 106 0 := (vwM_at (s := s) (f := 106) (i := 0) (by unfold loF; decide) (by decide)).symm
theorem sM_106 {s : Nat} {M : Mem} {x : Int32} : vwM s (si M 106 s x) = u2 (vwM s M) 106 0 x := vwM_si (f := 106) (i := 0) (by unfold loF; decide) (by decide) (by decide)
theorem rM_107 {s i : Nat} {M : Mem} (h : i < 10) : mi M 107 (10 * s + i) = vwM s M 107 i := (vwM_at (s := s) (f := 107) (i := i) (by unfold loF; decide) h).symm
theorem sM_107 {s i : Nat} {M : Mem} {x : Int32} (h : i < 10) : vwM s (si M 107 (10 * s + i) x) = u2 (vwM s M) 107 i x := vwM_si (f := 107) (i := i) (by unfold loF; decide) (by decide) h
theorem rM_108 {s i : Nat} {M : Mem} (h : i < 10) : mi M 108 (10 * s + i) = vwM s M 108 i := (vwM_at (s := s) (f := 108) (i := i) (by unfold loF; decide) h).symm
theorem sM_108 {s i : Nat} {M : Mem} {x : Int32} (h : i < 10) : vwM s (si M 108 (10 * s + i) x) = u2 (vwM s M) 108 i x := vwM_si (f := 108) (i := i) (by unfold loF; decide) (by decide) h
theorem rM_110 {s i : Nat} {M : Mem} (h : i < 10) : mi M 110 (10 * s + i) = vwM s M 110 i := (vwM_at (s := s) (f := 110) (i := i) (by unfold loF; decide) h).symm
theorem sM_110 {s i : Nat} {M : Mem} {x : Int32} (h : i < 10) : vwM s (si M 110 (10 * s + i) x) = u2 (vwM s M) 110 i x := vwM_si (f := 110) (i := i) (by unfold loF; decide) (by decide) h
theorem rM_111 {s i : Nat} {M : Mem} (h : i < 10) : mi M 111 (10 * s + i) = vwM s M 111 i := (vwM_at (s := s) (f := 111) (i := i) (by unfold loF; decide) h).symm
theorem sM_111 {s i : Nat} {M : Mem} {x : Int32} (h : i < 10) : vwM s (si M 111 (10 * s + i) x) = u2 (vwM s M) 111 i x := vwM_si (f := 111) (i := i) (by unfold loF; decide) (by decide) h
theorem rM_112 {s i : Nat} {M : Mem} (h : i < 8) : mi M 112 (8 * s + i) = vwM s M 112 i := (vwM_at (s := s) (f := 112) (i := i) (by unfold loF; decide) h).symm
theorem sM_112 {s i : Nat} {M : Mem} {x : Int32} (h : i < 8) : vwM s (si M 112 (8 * s + i) x) = u2 (vwM s M) 112 i x := vwM_si (f := 112) (i := i) (by unfold loF; decide) (by decide) h
theorem rM_113 {s i : Nat} {M : Mem} (h : i < 8) : mi M 113 (8 * s + i) = vwM s M 113 i := (vwM_at (s := s) (f := 113) (i := i) (by unfold loF; decide) h).symm
theorem sM_113 {s i : Nat} {M : Mem} {x : Int32} (h : i < 8) : vwM s (si M 113 (8 * s + i) x) = u2 (vwM s M) 113 i x := vwM_si (f := 113) (i := i) (by unfold loF; decide) (by decide) h
theorem rM_114 {s i : Nat} {M : Mem} (h : i < 8) : mi M 114 (8 * s + i) = vwM s M 114 i := (vwM_at (s := s) (f := 114) (i := i) (by unfold loF; decide) h).symm
theorem sM_114 {s i : Nat} {M : Mem} {x : Int32} (h : i < 8) : vwM s (si M 114 (8 * s + i) x) = u2 (vwM s M) 114 i x := vwM_si (f := 114) (i := i) (by unfold loF; decide) (by decide) h
theorem rM_115 {s i : Nat} {M : Mem} (h : i < 8) : mi M 115 (8 * s + i) = vwM s M 115 i := (vwM_at (s := s) (f := 115) (i := i) (by unfold loF; decide) h).symm
theorem sM_115 {s i : Nat} {M : Mem} {x : Int32} (h : i < 8) : vwM s (si M 115 (8 * s + i) x) = u2 (vwM s M) 115 i x := vwM_si (f := 115) (i := i) (by unfold loF; decide) (by decide) h
theorem rM_116 {s i : Nat} {M : Mem} (h : i < 96) : mi M 116 (96 * s + i) = vwM s M 116 i := (vwM_at (s := s) (f := 116) (i := i) (by unfold loF; decide) h).symm
theorem sM_116 {s i : Nat} {M : Mem} {x : Int32} (h : i < 96) : vwM s (si M 116 (96 * s + i) x) = u2 (vwM s M) 116 i x := vwM_si (f := 116) (i := i) (by unfold loF; decide) (by decide) h
theorem rM_120 {s i : Nat} {M : Mem} (h : i < 10) : mi M 120 i = vwM s M 120 i := by rw [vwM_at (s := s) (f := 120) (i := i) (by unfold loF; decide) h, show mO s 120 = 0 from rfl, Nat.zero_add]; rfl
theorem sM_120 {s i : Nat} {M : Mem} {x : Int32} (h : i < 10) : vwM s (si M 120 i x) = u2 (vwM s M) 120 i x := by have := vwM_si (s := s) (M := M) (x := x) (f := 120) (i := i) (by unfold loF; decide) (by decide) h; rw [show mO s 120 = 0 from rfl, Nat.zero_add] at this; exact this
theorem rM_121 {s i : Nat} {M : Mem} (h : i < 10) : mi M 121 i = vwM s M 121 i := by rw [vwM_at (s := s) (f := 121) (i := i) (by unfold loF; decide) h, show mO s 121 = 0 from rfl, Nat.zero_add]; rfl
theorem sM_121 {s i : Nat} {M : Mem} {x : Int32} (h : i < 10) : vwM s (si M 121 i x) = u2 (vwM s M) 121 i x := by have := vwM_si (s := s) (M := M) (x := x) (f := 121) (i := i) (by unfold loF; decide) (by decide) h; rw [show mO s 121 = 0 from rfl, Nat.zero_add] at this; exact this
theorem rM_122 {s i : Nat} {M : Mem} (h : i < 10) : mi M 122 i = vwM s M 122 i := by rw [vwM_at (s := s) (f := 122) (i := i) (by unfold loF; decide) h, show mO s 122 = 0 from rfl, Nat.zero_add]; rfl
theorem sM_122 {s i : Nat} {M : Mem} {x : Int32} (h : i < 10) : vwM s (si M 122 i x) = u2 (vwM s M) 122 i x := by have := vwM_si (s := s) (M := M) (x := x) (f := 122) (i := i) (by unfold loF; decide) (by decide) h; rw [show mO s 122 = 0 from rfl, Nat.zero_add] at this; exact this
theorem rM_123 {s i : Nat} {M : Mem} (h : i < 10) : mi M 123 i = vwM s M 123 i := by rw [vwM_at (s := s) (f := 123) (i := i) (by unfold loF; decide) h, show mO s 123 = 0 from rfl, Nat.zero_add]; rfl
theorem sM_123 {s i : Nat} {M : Mem} {x : Int32} (h : i < 10) : vwM s (si M 123 i x) = u2 (vwM s M) 123 i x := by have := vwM_si (s := s) (M := M) (x := x) (f := 123) (i := i) (by unfold loF; decide) (by decide) h; rw [show mO s 123 = 0 from rfl, Nat.zero_add] at this; exact this
theorem rM_124 {s i : Nat} {M : Mem} (h : i < 10) : mi M 124 i = vwM s M 124 i := by rw [vwM_at (s := s) (f := 124) (i := i) (by unfold loF; decide) h, show mO s 124 = 0 from rfl, Nat.zero_add]; rfl
theorem sM_124 {s i : Nat} {M : Mem} {x : Int32} (h : i < 10) : vwM s (si M 124 i x) = u2 (vwM s M) 124 i x := by have := vwM_si (s := s) (M := M) (x := x) (f := 124) (i := i) (by unfold loF; decide) (by decide) h; rw [show mO s 124 = 0 from rfl, Nat.zero_add] at this; exact this
theorem rM_125 {s i : Nat} {M : Mem} (h : i < 8) : mi M 125 i = vwM s M 125 i := by rw [vwM_at (s := s) (f := 125) (i := i) (by unfold loF; decide) h, show mO s 125 = 0 from rfl, Nat.zero_add]; rfl
theorem sM_125 {s i : Nat} {M : Mem} {x : Int32} (h : i < 8) : vwM s (si M 125 i x) = u2 (vwM s M) 125 i x := by have := vwM_si (s := s) (M := M) (x := x) (f := 125) (i := i) (by unfold loF; decide) (by decide) h; rw [show mO s 125 = 0 from rfl, Nat.zero_add] at this; exact this
theorem rM_126 {s i : Nat} {M : Mem} (h : i < 8) : mi M 126 i = vwM s M 126 i := by rw [vwM_at (s := s) (f := 126) (i := i) (by unfold loF; decide) h, show mO s 126 = 0 from rfl, Nat.zero_add]; rfl
theorem sM_126 {s i : Nat} {M : Mem} {x : Int32} (h : i < 8) : vwM s (si M 126 i x) = u2 (vwM s M) 126 i x := by have := vwM_si (s := s) (M := M) (x := x) (f := 126) (i := i) (by unfold loF; decide) (by decide) h; rw [show mO s 126 = 0 from rfl, Nat.zero_add] at this; exact this
theorem ixm8 (s k : Nat) : (8 : Int32) * nI s + nI k = nI (8 * s + k) := by rw [show (8 : Int32) = nI 8 from rfl, pk_mul, nI_add]
theorem ixm10 (s k : Nat) : (10 : Int32) * nI s + nI k = nI (10 * s + k) := by rw [show (10 : Int32) = nI 10 from rfl, pk_mul, nI_add]
theorem ixm11 (s k : Nat) : (11 : Int32) * nI s + nI k = nI (11 * s + k) := by rw [show (11 : Int32) = nI 11 from rfl, pk_mul, nI_add]
theorem ixm240 (s k : Nat) : (240 : Int32) * nI s + nI k = nI (240 * s + k) := by rw [show (240 : Int32) = nI 240 from rfl, pk_mul, nI_add]
theorem ixm721 (s k : Nat) : (721 : Int32) * nI s + nI k = nI (721 * s + k) := by rw [show (721 : Int32) = nI 721 from rfl, pk_mul, nI_add]
-- what is written, place by place
def FJ (P : Nat → Nat → Prop) (M M' : Mem) : Prop := (∀ a k, ¬ P a k → mi M' a k = mi M a k) ∧ M'.2 = M.2
theorem FJ.rf {P : Nat → Nat → Prop} {M : Mem} : FJ P M M := ⟨fun _ _ _ => rfl, rfl⟩
theorem FJ.tr {P : Nat → Nat → Prop} {M M' M'' : Mem} (h1 : FJ P M M') (h2 : FJ P M' M'') : FJ P M M'' := ⟨fun a k ha => (h2.1 a k ha).trans (h1.1 a k ha), h2.2.trans h1.2⟩
theorem FJ.si {P : Nat → Nat → Prop} {M M' : Mem} {a k : Nat} {x : Int32} (h : FJ P M M') (ha : P a k) : FJ P M (si M' a k x) := ⟨fun b j hb => by
    rw [mi_si, if_neg (fun q => hb (by rw [q.1, q.2]; exact ha)), h.1 b j hb], h.2⟩
theorem FJ.mono {P P' : Nat → Nat → Prop} {M M' : Mem} (h : FJ P M M') (hp : ∀ a k, P a k → P' a k) : FJ P' M M' := ⟨fun a k ha => h.1 a k (fun q => ha (hp a k q)), h.2⟩
theorem FJ.mp {P : Nat → Nat → Prop} {M M' : Mem} (h : FJ P M M') {a k : Nat} : mp M' a k = mp M a k := congrFun (congrFun (congrArg Prod.fst h.2) a) k
-- the places of world s in the reference that a day without its beginning writes
def PD (s a k : Nat) : Prop := (93 ≤ a ∧ a < 107 ∧ k = s ∧ a ≠ 99 ∧ a ≠ 101 ∧ a ≠ 102 ∧ a ≠ 103 ∧ a ≠ 104) ∨ (107 ≤ a ∧ a < 112 ∧ a ≠ 109 ∧ 10 * s ≤ k ∧ k < 10 * s + 10) ∨ (112 ≤ a ∧ a < 116 ∧ 8 * s ≤ k ∧ k < 8 * s + 8) ∨ (a = 116 ∧ 96 * s ≤ k ∧ k < 96 * s + 96)
