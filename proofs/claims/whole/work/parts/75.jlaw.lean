-- LEVEL 3, part 59: the call law on both sides
abbrev lS : Type := Nat × Int32
def lqE (T : Nat → Nat) (n b : Nat) (s : lS) : (Nat × Nat) ⊕ (Nat × lS) := if tkC T n b = 59 then .inr (nxT T n b, s) else .inl (1, b)
def lwR (T : Nat → Nat) (n b : Nat) (s : lS) : (Nat × Nat) ⊕ (Nat × lS) :=
  if tkC T n b = 7 then (if tkC T n (nxT T n b) < 6 then (if (nI s.1 &&& nI (2 ^ tkC T n (nxT T n b))) = 0 then lqE T n (nxT T n (nxT T n b)) (s.1 ||| 2 ^ tkC T n (nxT T n b), s.2) else .inl (3, nxT T n b)) else .inl (1, nxT T n b))
  else if tkC T n b = 8 then (if s.2 = -1 then (if tkC T n (nxT T n b) = 30 then (if tkV T n (nxT T n b) ≤ 99 then lqE T n (nxT T n (nxT T n b)) (s.1, nI (tkV T n (nxT T n b))) else .inl (4, nxT T n b)) else .inl (1, nxT T n b)) else .inl (3, b))
  else .inl (1, b)
def lwL (T : Nat → Nat) (n : Nat) : Nat → Nat → lS → (Nat × Nat) ⊕ lS
  | 0, _, s => .inr s
  | f + 1, b, s => if tkC T n b = 32 then .inr s else match lwR T n b s with
    | .inl q => .inl q
    | .inr q => lwL T n f q.1 q.2
theorem lwL_s {T : Nat → Nat} {n f b : Nat} {s : lS} : lwL T n (f + 1) b s = if tkC T n b = 32 then .inr s else match lwR T n b s with
    | .inl q => .inl q
    | .inr q => lwL T n f q.1 q.2 := rfl
theorem lw_t : ∀ j, j < 64 → ∀ c, c < 6 → ((jshr (nI j) (nI c) &&& 1 = 1) ↔ ¬ (nI j &&& nI (2 ^ c)) = 0) ∧ (nI j ||| nI (2 ^ c)) = nI (j ||| 2 ^ c) ∧ (j ||| 2 ^ c) < 64 ∧ ¬ nI (2 ^ c) = 0 := by decide +kernel
def dOK (d : Int32) : Prop := d = -1 ∨ ∃ v, v ≤ 99 ∧ d = nI v
theorem RX_gl {L L' : Lay} {M M' : Mem} {t : Nat} {X : WS} {h' : Option Pc} {l' : Int32 × Int32} (h : RX L M t X) (hL : 159 ≤ L.1) (hE : LE L L')
    (hi : ∀ a k, ¬ PN a k → ¬ ((a = 71 ∧ k = 1) ∨ (a = 92 ∧ k = 42)) → ¬ slM 24 a k → ¬ PMp a k → ¬ ((a = 101 ∨ a = 102) ∧ k = 0) → ¬ (a = 92 ∧ (k = 40 ∨ k = 41)) → a < L.1 → mi M' a k = mi M a k)
    (hp : ∀ a k, ¬ (a = 1 ∧ (k = 12 ∨ k = 10)) → a < L.1 → mp M' a k = mp M a k)
    (hT : TP M') (hc : optC L' M' (mp M' 1 12) h') (hm : hdM 0 M' h') (ho : pOK h') (hl : lawC L' M' (mp M' 1 10) l') (hv : vOK l'.1) (hl2 : l' = (if mi M' 102 0 = 1 then (mi M' 92 40, mi M' 92 41) else X.2.1)) : RX L' M' t (X.1, X.2.1, l', X.2.2.2.1, h') := by
  obtain ⟨⟨h1, h2, h3, h4, h5, h6, h7, h8, h9, hA, -⟩, w1, -, w3, w4, w5⟩ := h
  obtain ⟨x1, x2, x3, x4, x5, x6⟩ := h2
  obtain ⟨y1, y2, y3, y4, y5, y6, y7, y8, y9, ya, yb⟩ := h3
  -- places below the pacts
  have lo : ∀ a k, a < 92 → a ≠ 71 → a ≠ 73 → a ≠ 74 → a ≠ 80 → a ≠ 89 → a ≠ 91 → mi M' a k = mi M a k := fun a k q1 q2 q3 q4 q5 q6 q7 => hi a k (by unfold PN; omega) (by omega) (by unfold slM; omega) (by unfold PMp; omega) (by omega) (by omega) (by omega)
  have md : ∀ a k, 93 ≤ a → a < 130 → a ≠ 101 ∧ a ≠ 102 → mi M' a k = mi M a k := fun a k q1 q2 q3 => hi a k (by unfold PN; omega) (by omega) (by unfold slM; omega) (by unfold PMp; omega) (by omega) (by omega) (by omega)
  have up : ∀ a k, 149 ≤ a → a < 158 → mi M' a k = mi M a k := fun a k q1 q2 => hi a k (by unfold PN; omega) (by omega) (by unfold slM; omega) (by unfold PMp; omega) (by omega) (by omega) (by omega)
  have nw : ∀ a k, 159 ≤ a → a < L.1 → mi M' a k = mi M a k := fun a k q1 q2 => hi a k (by unfold PN; omega) (by omega) (by unfold slM; omega) (by unfold PMp; omega) (by omega) (by omega) q2
  have p92 : ∀ k, (k = 28 ∨ k = 34 ∨ k = 37 ∨ k = 73 ∨ k = 80) → mi M' 92 k = mi M 92 k := fun k q => hi 92 k (by unfold PN; omega) (by omega) (by unfold slM; omega) (by unfold PMp; omega) (by omega) (by omega) (by omega)
  have m80 : mi M' 80 0 = mi M 80 0 := hi 80 0 (by unfold PN; omega) (by omega) (by unfold slM; omega) (by unfold PMp; omega) (by omega) (by omega) (by omega)
  have sl : ∀ q a k, q ≤ 23 → slM q a k → mi M' a k = mi M a k := fun q a k hq z => hi a k (by unfold slM at z; unfold PN; omega) (by unfold slM at z; omega) (by unfold slM at z ⊢; omega) (by unfold slM at z; unfold PMp; omega) (by unfold slM at z; omega) (by unfold slM at z; omega) (by unfold slM at z; omega)
  have row : ∀ b, (b = 5 ∨ b = 40 ∨ 159 ≤ b) → b < L.1 → M'.1 b = M.1 b := fun b q1 q2 => funext fun k => by
    rcases q1 with q | q | q
    · exact lo b k (by omega) (by omega) (by omega) (by omega) (by omega) (by omega) (by omega)
    · exact lo b k (by omega) (by omega) (by omega) (by omega) (by omega) (by omega) (by omega)
    · exact nw b k q q2
  have rowp : ∀ b, 159 ≤ b → b < L.1 → M'.2.1 b = M.2.1 b := fun b q1 q2 => funext fun k => hp b k (by omega) q2
  have pw : ∀ k, k ≠ 12 ∧ k ≠ 10 → mp M' 1 k = mp M 1 k := fun k q => hp 1 k (by omega) (by omega)
  have HB' : HB M' t := by unfold HB at h8 ⊢; rw [md 99 0 (by omega) (by omega) (by omega)]; exact h8
  refine ⟨⟨h1, ⟨?_, ?_, hl, ?_, hc, fun i q1 q2 => ?_⟩, ⟨?_, ?_, ?_, y4, hv, hl2, ?_, hm, fun d hd => ?_, fun j i hj q1 q2 => ?_, fun i q1 q2 => ?_⟩, h4, h5, ?_, ?_, HB', h9, hA, ho⟩, ?_, hT, ?_, ?_, ?_⟩
  · rw [vwC_eq (fun a k q1 q2 => lo a k (by omega) (by omega) (by omega) (by omega) (by omega) (by omega) (by omega)) (pw 11 (by decide))]; exact x1
  · rw [pw 9 (by decide)]; exact lawC_lay hE (lawC_cg (fun b q1 q2 => row b q1 q2) x2)
  · rw [pw 11 (by decide)]; exact optC_lay hE (optC_cg (fun b q1 q2 => row b (Or.inr (Or.inr q1)) q2) rowp x4)
  · rw [lo _ _ (by unfold oA; omega) (by unfold oA; omega) (by unfold oA; omega) (by unfold oA; omega) (by unfold oA; omega) (by unfold oA; omega) (by unfold oA; omega)]; exact x6 i q1 q2
  · rw [vwM_cg (M := M) (fun a k q1 q2 q3 q4 q5 _ _ _ _ _ _ _ _ _ => ?_)]
    · exact y1
    · by_cases z : a = 92
      · rw [z]; exact p92 k (by have := q3 z; omega)
      · exact md a k (by omega) (by omega) ⟨q4, q5⟩
  · rw [md _ _ (by omega) (by omega) (by omega)]; exact y2
  · rw [md _ _ (by omega) (by omega) (by omega)]; exact y3
  · rw [md 99 0 (by omega) (by omega) (by omega)]
    rcases y7 with q | ⟨q, P, e1, e2, e3, e4⟩
    · exact Or.inl q
    · refine Or.inr ⟨q, P, e1, e2, e3, pacM_cg (fun a j z => sl q a j ?_ z) e4⟩
      rcases h8 with w | ⟨q', w1, w2⟩
      · rw [e1, nI_m1 (by omega)] at w; exact absurd w id
      · have : q = q' := (nI_eq (by omega) (by omega)).mp (e1.symm.trans w1)
        omega
  · rw [md _ _ (by omega) (by omega) (by omega)]; exact y9 d hd
  · rw [md _ _ (by omega) (by omega) (by omega), md _ _ (by omega) (by omega) (by omega)]
    rw [p92 28 (by simp)] at q1
    exact ya j i hj q1 q2
  · rw [md _ _ (by omega) (by omega) (by omega)]; exact yb i q1 q2
  · exact z36_to h6 (Nat.le_refl _) (Nat.le_refl _) (fun a j q1 q2 => lo a j (by omega) (by omega) (by omega) (by omega) (by omega) (by omega) (by omega))
  · rw [lo _ _ (by omega) (by omega) (by omega) (by omega) (by omega) (by omega) (by omega)]; exact h7
  · refine WN_cg w1 (fun a k q => ?_)
    unfold PWn at q
    rcases q with q | q | q | q
    · exact lo a k (by omega) (by omega) (by omega) (by omega) (by omega) (by omega) (by omega)
    · exact lo a k (by omega) (by omega) (by omega) (by omega) (by omega) (by omega) (by omega)
    · rw [q.1, q.2]; exact p92 37 (by simp)
    · exact md a k (by omega) (by omega) (by omega)
  · obtain ⟨v1, v2⟩ := w3
    refine ⟨fun k hk => ?_, fun m hm => moP_lay hE ?_⟩
    · have l77 : ∀ a, 77 ≤ a → a ≤ 79 → mi M' a k = mi M a k := fun a q1 q2 => lo a k (by omega) (by omega) (by omega) (by omega) (by omega) (by omega) (by omega)
      rw [l77 77 (by omega) (by omega), l77 78 (by omega) (by omega), l77 79 (by omega) (by omega), md _ _ (by omega) (by omega) (by omega), md _ _ (by omega) (by omega) (by omega), up _ _ (by omega) (by omega)]
      exact v1 k hk
    · rcases v2 m hm with ⟨a, b⟩ | ⟨hm', a, q, P, e1, e2, e3, e4, e5⟩
      · exact Or.inl ⟨(hp 76 m (by omega) (by omega)).trans a, (md 128 m (by omega) (by omega) (by omega)).trans b⟩
      · exact Or.inr ⟨hm', a, q, P, (hp 76 m (by omega) (by omega)).trans e1, (md 128 m (by omega) (by omega) (by omega)).trans e2, e3, pacC_cg (fun b q1 q2 => row b (Or.inr (Or.inr q1)) q2) rowp e4, pacM_cg (fun b j z => sl q b j (by omega) z) e5⟩
  · refine RE_cg w4 (fun a k q => ?_)
    unfold PRe at q
    rcases q with q | q | q | q
    · rw [q.1, q.2]; exact m80
    · exact lo a k (by omega) (by omega) (by omega) (by omega) (by omega) (by omega) (by omega)
    · rw [q.1, q.2]; exact p92 73 (by simp)
    · exact up a k (by omega) (by omega)
  · refine SA_cg w5 (Nat.le_refl _) (fun a k q => ?_)
    unfold PSa at q
    rcases q with q | q | q
    · exact lo a k (by omega) (by omega) (by omega) (by omega) (by omega) (by omega) (by omega)
    · rw [q.1, q.2]; exact p92 80 (by simp)
    · exact up a k (by omega) (by omega)
