-- LEVEL 3, part 55: the class reads a pact
def pcR (T : Nat → Nat) (n : Nat) : Nat → Nat → pS → (Nat × Nat) ⊕ pS
  | 0, _, s => .inr s
  | f + 1, b, s => if tkC T n b = 32 then .inr s else match liR T n b s with
    | .inl q => .inl q
    | .inr q => pcR T n f q.1 q.2
theorem pcR_s {T : Nat → Nat} {n f b : Nat} {s : pS} : pcR T n (f + 1) b s = if tkC T n b = 32 then .inr s else match liR T n b s with
    | .inl q => .inl q
    | .inr q => pcR T n f q.1 q.2 := rfl
def ps0 : pS := (fun _ => none, [], -1, -1)
def rcN (s : pS) : Nat := ((if (s.1 0).isSome = true then 0 else 1) + (if (s.1 1).isSome = true then 0 else 1) + (if (s.1 2).isSome = true then 0 else 1)) + 2 * (8 - s.2.1.length)
def lrN (s : pS) (c : Nat) : Nat := if c = 3 ∧ s.2.1.length < 8 then 2 else if c < 3 ∧ (s.1 c).isSome = false then 1 else 0
def lsN (s : pS) (c : Nat) : Nat := if c = 3 ∧ s.2.1.length < 8 then 1010 else 0
theorem exL_pos {T : Nat → Nat} {n b : Nat} {f : Ex → pS} {R : (Nat × Nat) ⊕ (Nat × Ex)} (h1 : b ≤ exE R) (h2 : exE R ≤ n) : b ≤ liE (exL T n f R) ∧ liE (exL T n f R) ≤ n := by
  cases R with
  | inl q => exact ⟨h1, h2⟩
  | inr q =>
    have h1 : b ≤ q.1 := h1
    have h2 : q.1 ≤ n := h2
    have := nx_rng (T := T) h2
    exact ⟨Nat.le_trans h1 this.1, this.2.1⟩
theorem li_pos {T : Nat → Nat} {n b : Nat} {s : pS} (hT : okT T n) (hb : b ≤ n) : b ≤ liE (liR T n b s) ∧ liE (liR T n b s) ≤ n := by
  have n1 := nx_rng (T := T) hb
  have n2 := nx_rng (T := T) n1.2.1
  have n3 := nx_rng (T := T) n2.2.1
  have e1 := ex_pos hT (n + 1) (nxT T n b) (true, (fun _ => 0), noD, []) n1.2.1
  have e2 := ex_pos hT (n + 1) (nxT T n (nxT T n b)) (true, (fun _ => 0), noD, []) n2.2.1
  have en : ∀ s', b ≤ liE (enT T n (nxT T n (nxT T n b)) s') ∧ liE (enT T n (nxT T n (nxT T n b)) s') ≤ n := fun s' => by
    unfold enT
    split
    · show b ≤ nxT T n (nxT T n (nxT T n b)) ∧ nxT T n (nxT T n (nxT T n b)) ≤ n; omega
    · show b ≤ nxT T n (nxT T n b) ∧ nxT T n (nxT T n b) ≤ n; omega
  have h0 : ∀ k, b ≤ liE (.inl (k, b)) ∧ liE (.inl (k, b)) ≤ n := fun k => ⟨Nat.le_refl _, hb⟩
  have h1 : ∀ k, b ≤ liE (.inl (k, nxT T n b)) ∧ liE (.inl (k, nxT T n b)) ≤ n := fun k => ⟨n1.1, n1.2.1⟩
  unfold liR
  split
  · exact h0 1
  · split
    · exact h0 3
    · split
      · exact h0 5
      · split
        · split
          · exact exL_pos (Nat.le_trans (Nat.le_trans n1.1 n2.1) e2.1) e2.2
          · exact h1 1
        · split
          · split
            · exact en _
            · exact h1 1
          · split
            · split
              · split
                · exact en _
                · exact h1 4
              · exact h1 1
            · exact exL_pos (Nat.le_trans n1.1 e1.1) e1.2
theorem en_inr {T : Nat → Nat} {n b : Nat} {s : pS} {q : Nat × pS} (h : enT T n b s = .inr q) : q.2 = s := by
  unfold enT at h
  split at h
  · cases h; rfl
  · cases h
theorem exL_inr {T : Nat → Nat} {n : Nat} {f : Ex → pS} {R : (Nat × Nat) ⊕ (Nat × Ex)} {q : Nat × pS} (h : exL T n f R = .inr q) : ∃ x, q.2 = f x := by
  cases R with
  | inl z => cases h
  | inr z => exact ⟨z.2, by cases h; rfl⟩
theorem li_use {T : Nat → Nat} {n b : Nat} {s : pS} {q : Nat × pS} (h8 : s.2.1.length ≤ 8) (h : liR T n b s = .inr q) : rcN q.2 + lrN s (tkC T n b) ≤ rcN s ∧ (8 - q.2.2.1.length) * 1010 + lsN s (tkC T n b) ≤ (8 - s.2.1.length) * 1010 := by
  obtain ⟨q1, s'⟩ := q
  show rcN s' + _ ≤ _ ∧ (8 - s'.2.1.length) * 1010 + _ ≤ _
  obtain ⟨c, hc⟩ : ∃ c, tkC T n b = c := ⟨_, rfl⟩
  unfold liR at h
  rw [hc] at h ⊢
  by_cases c1 : 5 < c
  · rw [if_pos c1] at h; cases h
  rw [if_neg c1] at h
  by_cases c2 : tdB s c = true
  · rw [if_pos c2] at h; cases h
  rw [if_neg c2] at h
  by_cases c3 : c = 3 ∧ s.2.1.length = 8
  · rw [if_pos c3] at h; cases h
  rw [if_neg c3] at h
  have same : ¬ c = 3 → ¬ c < 3 → s'.1 = s.1 → s'.2.1 = s.2.1 → rcN s' + lrN s c ≤ rcN s ∧ (8 - s'.2.1.length) * 1010 + lsN s c ≤ (8 - s.2.1.length) * 1010 := fun d1 d2 d3 d4 => by
    have e1 : lrN s c = 0 := by unfold lrN; rw [if_neg (by omega), if_neg (by omega)]
    have e2 : lsN s c = 0 := by unfold lsN; rw [if_neg (by omega)]
    have e3 : rcN s' = rcN s := by unfold rcN; rw [d3, d4]
    rw [e1, e2, e3, d4]
    exact ⟨by omega, by omega⟩
  by_cases c4 : c = 3
  · rw [if_pos c4] at h
    have l8 : s.2.1.length < 8 := by omega
    split at h
    · obtain ⟨x, hx⟩ := exL_inr h
      have hx : s' = (s.1, s.2.1 ++ [x], s.2.2) := hx
      have len : (s.2.1 ++ [x]).length = s.2.1.length + 1 := by rw [List.length_append]; rfl
      have e1 : lrN s c = 2 := by unfold lrN; rw [if_pos ⟨c4, l8⟩]
      have e2 : lsN s c = 1010 := by unfold lsN; rw [if_pos ⟨c4, l8⟩]
      rw [e1, e2, hx]
      unfold rcN
      show _ + 2 * (8 - (s.2.1 ++ [x]).length) + 2 ≤ _ ∧ (8 - (s.2.1 ++ [x]).length) * 1010 + 1010 ≤ _
      rw [len]
      refine ⟨?_, by omega⟩
      show ((if (s.1 0).isSome = true then 0 else 1) + (if (s.1 1).isSome = true then 0 else 1) + (if (s.1 2).isSome = true then 0 else 1)) + 2 * (8 - (s.2.1.length + 1)) + 2 ≤ _
      omega
    · cases h
  rw [if_neg c4] at h
  by_cases c5 : c = 4
  · rw [if_pos c5] at h
    split at h
    · have := en_inr h
      have this : s' = _ := this
      exact same c4 (by omega) (by rw [this]) (by rw [this])
    · cases h
  rw [if_neg c5] at h
  by_cases c6 : c = 5
  · rw [if_pos c6] at h
    split at h
    · split at h
      · have := en_inr h
        have this : s' = _ := this
        exact same c4 (by omega) (by rw [this]) (by rw [this])
      · cases h
    · cases h
  rw [if_neg c6] at h
  obtain ⟨x, hx⟩ := exL_inr h
  have hx : s' = ((fun k => if k = c then some x else s.1 k), s.2) := hx
  have lt : c < 3 := by omega
  have ns : (s.1 c).isSome = false := by
    cases w : (s.1 c).isSome with
    | false => rfl
    | true => exact absurd (td_iff.mpr (Or.inl ⟨lt, w⟩)) c2
  have e1 : lrN s c = 1 := by unfold lrN; rw [if_neg (by omega), if_pos ⟨lt, ns⟩]
  have e2 : lsN s c = 0 := by unfold lsN; rw [if_neg (by omega)]
  rw [e1, e2, hx]
  refine ⟨?_, by show (8 - s.2.1.length) * 1010 + 0 ≤ _; omega⟩
  unfold rcN
  show ((if (if 0 = c then some x else s.1 0).isSome = true then 0 else 1) + (if (if 1 = c then some x else s.1 1).isSome = true then 0 else 1) + (if (if 2 = c then some x else s.1 2).isSome = true then 0 else 1)) + 2 * (8 - s.2.1.length) + 1 ≤ _
  have : c = 0 ∨ c = 1 ∨ c = 2 := by omega
  rcases this with rfl | rfl | rfl
  · rw [show (if 0 = 0 then some x else s.1 0) = some x from rfl, show (if 1 = 0 then some x else s.1 1) = s.1 1 from rfl, show (if 2 = 0 then some x else s.1 2) = s.1 2 from rfl, if_pos (show (some x).isSome = true from rfl), ns, if_neg (show ¬ (false = true) by decide)]; omega
  · rw [show (if 0 = 1 then some x else s.1 0) = s.1 0 from rfl, show (if 1 = 1 then some x else s.1 1) = some x from rfl, show (if 2 = 1 then some x else s.1 2) = s.1 2 from rfl, if_pos (show (some x).isSome = true from rfl), ns, if_neg (show ¬ (false = true) by decide)]; omega
  · rw [show (if 0 = 2 then some x else s.1 0) = s.1 0 from rfl, show (if 1 = 2 then some x else s.1 1) = s.1 1 from rfl, show (if 2 = 2 then some x else s.1 2) = some x from rfl, if_pos (show (some x).isSome = true from rfl), ns, if_neg (show ¬ (false = true) by decide)]; omega
def prC (L : Lay) (M : Mem) (n : Nat) (R : (Nat × Nat) ⊕ pS) (o : Option Nat) (L' : Lay) (M' : Mem) : Prop :=
  LE L L' ∧ (∀ a k, ¬ PEx a k → ¬ (a = 71 ∧ k = 1) → a < L.1 → mi M' a k = mi M a k) ∧ (∀ a k, a < L.1 → mp M' a k = mp M a k) ∧ mi M' 71 1 = 0 ∧
  ((∃ k p, R = .inl (k, p) ∧ o = none ∧ mi M' 71 2 = nI (k + 16 * p)) ∨ ∃ s a, R = .inr s ∧ o = some a ∧ L.1 ≤ a ∧ mi M' 71 2 = 0 ∧ pcS L' M' a n s)
section PAC
variable {L : Lay} {M : Mem}
theorem c_rpact {T : Nat → Nat} {n rc rs : Nat} {Q : Option Nat → Lay → Mem → Prop} (hT : okT T n) (hL : 159 ≤ L.1) (hr : rdC M T n) (hrc : 20 ≤ rc) (hrs : 9087 ≤ rs) (hQ : ∀ o L' M', prC L M n (pcR T n (n + 1) (tkB T n 0) ps0) o L' M' → Q o L' M') : w_X5_readPact L rc rs M Q := by
  have hn := hT.1
  have pk : ∀ a k, PK a k → PEx a k := fun a k z => by unfold PK at z; unfold PEx; omega
  unfold w_X5_readPact w_X5_start
  intro M1 e1 M2 e2
  have F2 : FJ PEx M M2 := by rw [e2, e1]; exact (FJ.rf.si (by unfold PEx; omega)).si (by unfold PEx; omega)
  have r2 := rd_cg hr F2
  refine c_next5 (e := 0) hT r2 (by rw [e2, mi_si, if_pos ⟨rfl, rfl⟩]; rfl) (Nat.zero_le _) (fun M3 t3 F3 => ⟨by omega, by omega, fun L4 M5 e5 => ?_⟩)
  have v3 : mi M3 71 2 = 0 := by rw [F3.1 _ _ (by unfold PK; omega), e2, mi_si, if_neg (by omega), e1, mi_si, if_pos ⟨rfl, rfl⟩]
  have F3 : FJ PEx M2 M3 := F3.mono pk
  have r3 := rd_cg r2 F3
  have F := F2.tr F3
  have b0 := (tk_rng (T := T) (n := n) (e := 0) (Nat.zero_le _)).2.1
  unfold w_X4_init
  intro M6 e6 M7 e7
  have eL : L4 = (alc (L, M3) (4, 0)).1 := congrArg Prod.fst e5
  have eM : M5 = (alc (L, M3) (4, 0)).2 := congrArg Prod.snd e5
  have hE : LE L L4 := LE.of_alc e5
  have hO : OB L4 L.1 4 := OB.of_alc e5
  have i5 : ∀ a k, a ≠ L.1 → mi M5 a k = mi M3 a k := fun a k q => by
    rw [eM]; show (if a = L.1 then fun _ => 0 else M3.1 a) k = _; rw [if_neg q]; rfl
  have p5 : ∀ a k, a ≠ L.1 → mp M5 a k = mp M3 a k := fun a k q => by
    rw [eM]; show (if a = L.1 then fun _ => none else M3.2.1 a) k = _; rw [if_neg q]; rfl
  have z5 : ∀ k, mi M5 L.1 k = 0 := fun k => by
    rw [eM]; show (if L.1 = L.1 then fun _ => 0 else M3.1 L.1) k = _; rw [if_pos rfl]
  have y5 : ∀ k, mp M5 L.1 k = none := fun k => by
    rw [eM]; show (if L.1 = L.1 then fun _ => none else M3.2.1 L.1) k = _; rw [if_pos rfl]
  have i7 : ∀ a k, a ≠ L.1 → mi M7 a k = mi M3 a k := fun a k q => by rw [e7, mi_si, if_neg (by omega), e6, mi_si, if_neg (by omega)]; exact i5 a k q
  have p7 : ∀ a k, mp M7 a k = mp M5 a k := fun a k => by rw [e7, mp_si, e6, mp_si]
  have h7 : pcS L4 M7 L.1 (tkB T n 0) ps0 := by
    unfold pcS
    rw [p7, p7, p7, p7, y5, y5, y5, y5]
    refine ⟨hO, hL, Or.inl ⟨rfl, rfl⟩, Or.inl ⟨rfl, rfl⟩, Or.inl ⟨rfl, rfl⟩, Or.inl ⟨rfl, rfl⟩, ?_, by decide, ?_, ?_⟩
    · rw [e7, mi_si, if_neg (by omega), e6, mi_si, if_neg (by omega), z5]; rfl
    · rw [e7, mi_si, if_neg (by omega), e6, mi_si, if_pos ⟨rfl, rfl⟩]; rfl
    · rw [e7, mi_si, if_pos ⟨rfl, rfl⟩]; rfl
  generalize hR : pcR T n (n + 1) (tkB T n 0) ps0 = R at *
  refine LP6_c1 0 1000 (fun i (r1 : Nat) L1 rc1 rs1 M' => r1 = L.1 ∧ LE L L1 ∧ LE L4 L1 ∧ (∀ a k, ¬ PEx a k → a < L.1 → mi M' a k = mi M a k) ∧ (∀ a k, a < L.1 → mp M' a k = mp M a k) ∧
      ((∃ b f s, i ≤ b ∧ b ≤ n ∧ n < b + f ∧ R = pcR T n f b s ∧ rdC M' T n ∧ rtC M' T n b ∧ mi M' 71 2 = 0 ∧ pcS L1 M' L.1 b s ∧ rcN s ≤ rc1 ∧ (1000 - b) + (8 - s.2.1.length) * 1010 ≤ rs1) ∨ ∃ k p, R = .inl (k, p) ∧ 1 ≤ k ∧ k < 16 ∧ p ≤ n ∧ mi M' 71 2 = nI (k + 16 * p))) rfl (Nat.zero_le _)
    ⟨rfl, hE, LE.rf L4, fun a k q1 q2 => by rw [i7 a k (by omega)]; exact F.1 a k q1, fun a k q => by rw [p7, p5 a k (by omega)]; exact F.mp, Or.inl ⟨tkB T n 0, n + 1, ps0, Nat.zero_le _, b0, by omega, hR.symm, rdC_cg r3 (i7 _ _ (by omega)) (fun i => i7 _ _ (by omega)), rt_cg t3 (fun k _ _ => i7 _ _ (by omega)), by rw [i7 _ _ (by omega)]; exact v3, h7, by show 19 ≤ rc - 1; omega, by show 1000 - tkB T n 0 + 8 * 1010 ≤ rs - 7; omega⟩⟩ ?_
  intro i r1 L1 rc1 rs1 M8 hi _ ⟨q1, q2, q2', q3, q4, q5⟩ K hK
  subst q1
  have r1 : mi M8 71 1 = mi M8 71 1 := rfl
  unfold w_X5_readPact_14
  rw [show (1000 : Int32) = nI 1000 from rfl, nI_lt' (by omega) (by omega)]
  rcases q5 with ⟨b, f, s, ib, bn, nf, hx, g1, g2, g3, g4, g5, g6⟩ | ⟨k, p, hx, k1, k2, k3, g1⟩
  · obtain ⟨f', rfl⟩ : ∃ f', f = f' + 1 := ⟨f - 1, by omega⟩
    rw [pcR_s] at hx
    have tc := tk_code (T := T) (n := n) (b := b) hT
    have h8 := g4.2.2.2.2.2.2.2.1
    have done : tkC T n b = 32 → w_X5_readPact_48 L.1 L1 rc1 rs1 M8 Q := fun c => by
      rw [if_pos c] at hx
      unfold w_X5_readPact_48
      intro M9 e9
      have v9 : mi M9 71 2 = 0 := by rw [e9, mi_si, if_neg (by omega)]; exact g3
      refine ⟨fun _ => hQ _ L1 M9 ⟨q2, fun a k z1 z2 z3 => by rw [e9, mi_si, if_neg z2]; exact q3 a k z1 z3, fun a k z => by rw [e9, mp_si]; exact q4 a k z, by rw [e9, mi_si, if_pos ⟨rfl, rfl⟩], Or.inr ⟨s, L.1, hx, rfl, Nat.le_refl _, v9, ?_⟩⟩, fun z => absurd v9 z⟩
      have i9 : ∀ a k, 159 ≤ a → mi M9 a k = mi M8 a k := fun a k z => by rw [e9, mi_si, if_neg (by omega)]
      obtain ⟨y1, y2, y3, y4, y5, y6, y7, y8, y9, y10⟩ := g4
      have row : ∀ e k, 159 ≤ e → AR L1 e 0 k → M9.1 e = M8.1 e := fun e k he hk => funext fun j => i9 e j he
      have eq : ∀ k, mp M9 L.1 k = mp M8 L.1 k := fun k => by rw [e9, mp_si]
      unfold pcS
      rw [eq, eq, eq, eq, i9 _ _ hL, i9 _ _ hL, i9 _ _ hL]
      exact ⟨y1, y2, lnC_to (LE.rf _) row y3, lnC_to (LE.rf _) row y4, lnC_to (LE.rf _) row y5, faC_to (LE.rf _) (by omega) row y6, y7, y8, y9, y10⟩
    rw [g2.2.2.1, show (32 : Int32) = nI 32 from rfl, nI_eq' (by omega) (by omega)]
    refine ⟨fun hlt => ⟨fun c => done c, fun c => ⟨fun _ => ?_, fun z => absurd g3 z⟩⟩, fun hge => done (tc.2.1.mpr (by omega))⟩
    rw [if_neg c] at hx
    have bl : b < n := by
      by_cases z : b < n
      · exact z
      · exact absurd (tc.2.1.mpr z) c
    have lp := li_pos (s := s) hT bn
    have lim1 : lrN s (tkC T n b) ≤ rcN s := by
      unfold lrN rcN
      by_cases z : tkC T n b = 3 ∧ s.2.1.length < 8
      · rw [if_pos z]; omega
      · rw [if_neg z]
        by_cases y : tkC T n b < 3 ∧ (s.1 (tkC T n b)).isSome = false
        · rw [if_pos y]
          obtain ⟨y1, y2⟩ := y
          have : tkC T n b = 0 ∨ tkC T n b = 1 ∨ tkC T n b = 2 := by omega
          rcases this with w | w | w <;> rw [w] at y2
          · rw [y2, if_neg (show ¬ (false = true) by decide)]; omega
          · rw [y2, if_neg (show ¬ (false = true) by decide)]; omega
          · rw [y2, if_neg (show ¬ (false = true) by decide)]; omega
        · rw [if_neg y]; omega
    have lim2 : lsN s (tkC T n b) ≤ (8 - s.2.1.length) * 1010 := by
      unfold lsN
      by_cases z : tkC T n b = 3 ∧ s.2.1.length < 8
      · rw [if_pos z]; omega
      · rw [if_neg z]; omega
    refine ⟨lrN s (tkC T n b), liE (liR T n b s) - b + lsN s (tkC T n b), by omega, by omega, c_pline hT (Nat.le_trans hL q2.1) bl g1 g2 g3 g4 (fun z1 z2 => ?_) (fun z1 z2 => ?_) (Nat.le_refl _) (fun L9 M9 hli x15 e15 => ?_)⟩
    · unfold lrN; rw [if_pos ⟨z1, z2⟩]; exact Nat.le_refl _
    · unfold lrN; rw [if_neg (by omega), if_pos ⟨z1, by rw [z2]; rfl⟩]; exact Nat.le_refl _
    · rw [nI_1] at e15
      subst e15
      obtain ⟨l1, l2, l3, l4, l5⟩ := hli
      have m1 : ∀ a k, ¬ PEx a k → a < L.1 → mi M9 a k = mi M a k := fun a k z1 z2 => by rw [l2.1 a k z1 (Nat.lt_of_lt_of_le z2 q2.1) (by omega)]; exact q3 a k z1 z2
      have m2 : ∀ a k, a < L.1 → mp M9 a k = mp M a k := fun a k z2 => by rw [l2.2 a k (Nat.lt_of_lt_of_le z2 q2.1) (by omega)]; exact q4 a k z2
      refine hK (by omega) _ _ _ _ M9 ⟨rfl, q2.tr l1, q2'.tr l1, m1, m2, ?_⟩
      rcases l5 with ⟨k, p, y1, y2, y3, y4, y5⟩ | ⟨b', s', y1, y2, y3, y4, y5, y6⟩
      · rw [y1] at hx
        exact Or.inr ⟨k, p, hx, y2, y3, y4, y5⟩
      · rw [y1] at hx lp
        obtain ⟨u1, u2⟩ := li_use h8 y1
        have u1 : rcN s' + lrN s (tkC T n b) ≤ rcN s := u1
        have u2 : (8 - s'.2.1.length) * 1010 + lsN s (tkC T n b) ≤ (8 - s.2.1.length) * 1010 := u2
        have eb : liE (liR T n b s) = b' := by rw [y1]; rfl
        refine Or.inl ⟨b', f', s', by omega, y3, by omega, hx, l4, y5, y4, y6, by omega, ?_⟩
        rw [eb]; omega
  · have nz : ¬ mi M8 71 2 = 0 := by
      rw [g1, show (0 : Int32) = nI 0 from rfl, nI_eq' (by omega) (by omega)]; omega
    have done : w_X5_readPact_48 L.1 L1 rc1 rs1 M8 Q := by
      unfold w_X5_readPact_48
      intro M9 e9
      have v9 : mi M9 71 2 = mi M8 71 2 := by rw [e9, mi_si, if_neg (by omega)]
      refine ⟨fun z => absurd (v9.symm.trans z) nz, fun _ => hQ _ L1 M9 ⟨q2, fun a k z1 z2 z3 => by rw [e9, mi_si, if_neg z2]; exact q3 a k z1 z3, fun a k z => by rw [e9, mp_si]; exact q4 a k z, by rw [e9, mi_si, if_pos ⟨rfl, rfl⟩], Or.inl ⟨k, p, hx, rfl, v9.trans g1⟩⟩⟩
    exact ⟨fun _ => ⟨fun _ => done, fun _ => ⟨fun z => absurd z nz, fun _ => done⟩⟩, fun _ => done⟩
end PAC
