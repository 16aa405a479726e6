-- LEVEL 3, part 50: an expression as the reference reads it: pieces
def cpD2 (D : Dc) : Int32 := if (D 2).isSome = true then 1 else 0
def mlS (M : Mem) : Dc → List (Bool × Dc) → Prop
  | D, [] => mi M 137 0 = cpD2 D
  | D, q :: S => mi M 137 (S.length + 1) = cpD2 D ∧ mi M 136 (S.length + 1) = (if q.1 = true then 1 else 2) ∧ mlS M q.2 S
theorem ml_top {M : Mem} {D : Dc} {S : List (Bool × Dc)} (h : mlS M D S) : mi M 137 S.length = cpD2 D := by
  cases S with
  | nil => exact h
  | cons q S => exact h.1
theorem ml_cg {M M' : Mem} : ∀ (S : List (Bool × Dc)) (D : Dc), (∀ i, i ≤ S.length → mi M' 137 i = mi M 137 i) → (∀ i, i ≤ S.length → mi M' 136 i = mi M 136 i) → mlS M D S → mlS M' D S := by
  intro S
  induction S with
  | nil => intro D h1 _ h; exact (h1 0 (Nat.le_refl _)).trans h
  | cons q S ih =>
    intro D h1 h2 h
    simp only [List.length_cons] at h1 h2
    exact ⟨(h1 _ (by omega)).trans h.1, (h2 _ (by omega)).trans h.2.1, ih q.2 (fun i hi => h1 i (by omega)) (fun i hi => h2 i (by omega)) h.2.2⟩
theorem ml_up {M M' : Mem} {D D' : Dc} {S : List (Bool × Dc)} (h : mlS M D S) (h7 : mi M' 137 S.length = cpD2 D') (o7 : ∀ i, i < S.length → mi M' 137 i = mi M 137 i) (o6 : ∀ i, i ≤ S.length → mi M' 136 i = mi M 136 i) : mlS M' D' S := by
  cases S with
  | nil => exact h7
  | cons q S =>
    simp only [List.length_cons] at h7 o7 o6
    exact ⟨h7, (o6 _ (by omega)).trans h.2.1, ml_cg S q.2 (fun i hi => o7 i (by omega)) (fun i hi => o6 i (by omega)) h.2.2⟩
theorem ml_op {M M' : Mem} {D : Dc} {S : List (Bool × Dc)} {b : Bool} (h : mlS M D S) (h7 : mi M' 137 (S.length + 1) = 0) (h6 : mi M' 136 (S.length + 1) = (if b = true then 1 else 2)) (o7 : ∀ i, i ≤ S.length → mi M' 137 i = mi M 137 i) (o6 : ∀ i, i ≤ S.length → mi M' 136 i = mi M 136 i) : mlS M' noD ((b, D) :: S) :=
  ⟨h7, h6, ml_cg S D o7 o6 h⟩
theorem ml_cl {M : Mem} : ∀ (S : List (Bool × Dc)) (v : Ex) (D : Dc), mlS M D S → mlS M (clN v D S).2.1 (clN v D S).2.2 := by
  intro S
  induction S with
  | nil => intro v D h; exact h
  | cons q S ih =>
    intro v D h
    unfold clN
    by_cases c : q.1 = true
    · rw [if_pos c]; exact ih _ _ h.2.2
    · rw [if_neg c]; exact h
def vdG (c : List Int32) (w : Bool) (x : Ex) (D : Dc) (S : List (Bool × Dc)) : Prop := ∀ (r : Fx) (E : SS),
  (∀ i, i < c.length → (evL r (c.take i) (0, opnE E 0)).1 < 6 ∧ (evL r (c.take (i + 1)) (0, opnE E 0)).1 < 6 ∧ (c.getD i 0 = 29 → 0 < (evL r (c.take i) (0, opnE E 0)).1) ∧ (c.getD i 0 < 20 → ∃ f, 1 ≤ f ∧ f ≤ 14 ∧ c.getD i 0 = nI f)) ∧ meR (evL r c (0, opnE E 0)) w x D S r
theorem vg_new {x : Ex} : vdG [] true x noD [] := fun _ _ => ⟨fun _ hi => absurd hi (Nat.not_lt_zero _), me_new⟩
theorem vg_1 {c : List Int32} {y : Int32} {w w' : Bool} {x x' : Ex} {D D' : Dc} {S S' : List (Bool × Dc)} (h : vdG c w x D S) (h1 : S.length ≤ 5) (h2 : S'.length ≤ 5) (h29 : y = 29 → 0 < S.length) (h20 : y < 20 → ∃ f, 1 ≤ f ∧ f ≤ 14 ∧ y = nI f) (hs : ∀ (r : Fx) (q : Nat × SS), meR q w x D S r → meR (evS r q y) w' x' D' S' r) : vdG (c ++ [y]) w' x' D' S' := by
  intro r E
  obtain ⟨a, m⟩ := h r E
  have m' := hs r _ m
  rw [← evL_1] at m'
  refine ⟨fun i hi => ?_, m'⟩
  rw [List.length_append] at hi
  have hi : i < c.length + 1 := hi
  by_cases q : i < c.length
  · rw [List.take_append_of_le_length (by omega), List.take_append_of_le_length (by omega)]
    have e : (c ++ [y]).getD i 0 = c.getD i 0 := by
      rw [List.getD_eq_getElem?_getD, List.getD_eq_getElem?_getD, List.getElem?_append_left q]
    rw [e]; exact a i q
  · have ei : i = c.length := by omega
    subst ei
    have e : (c ++ [y]).getD c.length 0 = y := by
      rw [List.getD_eq_getElem?_getD, List.getElem?_append_right (Nat.le_refl _), Nat.sub_self]; rfl
    have e1 : (c ++ [y]).take c.length = c := by rw [List.take_append_of_le_length (Nat.le_refl _), List.take_length]
    have e2 : (c ++ [y]).take (c.length + 1) = c ++ [y] := List.take_of_length_le (by rw [List.length_append]; exact Nat.le_refl _)
    rw [e, e1, e2]
    have m1 := m.1
    have m2 := m'.1
    exact ⟨by omega, by omega, fun z => by have := h29 z; omega, h20⟩
theorem vg_end {c : List Int32} {x : Ex} {D : Dc} (h : vdG c false x D []) (ho : okS D []) : vdC c (cbR D x 1) := by
  intro r E
  obtain ⟨a, m⟩ := h r E
  exact ⟨a, m.1, me_end m ho⟩
theorem nI_d1 {k : Nat} : nI (k + 1) + (-1 : Int32) = nI k := by
  have h : nI (k + 1) - nI 1 = nI k := by rw [pk_sub (by omega), Nat.add_sub_cancel]
  rw [Int32.sub_eq_add_neg] at h; exact h
section EXM
variable {L : Lay} {M : Mem}
theorem m_puts {p : Nat} {y : Int32} {Q : Mem → Prop} (h : mi M 92 57 = nI p) (hp : p < 26000) (hQ : ∀ M', M' = si (si M 135 p y) 92 57 (nI (p + 1)) → Q M') : w_X12_puts L y M Q := by
  unfold w_X12_puts
  rw [h, tn_nI (n := p) (by omega)]
  refine ⟨vp_in_nI hp (by decide), fun M2 e2 M3 e3 => hQ M3 ?_⟩
  subst e2
  rw [e3, mi_si, if_neg (by omega), h, nI_1]
theorem m_iwV {T : Nat → Nat} {n b k : Nat} {w : Int64} {Q : Int32 → Mem → Prop} (hr : rtM M T n b) (hk : k < 27) (hw : w = lN (whF k)) (h : Q (if tkC T n b = k then 1 else 0) M) : w_X12_isWord L w M Q := by
  have g := m_iw (L := L) (A := fun M1 => M1 = M ∧ ¬ tkC T n b = k) (B := fun M1 => M1 = M ∧ tkC T n b = k) hr hk hw (fun z => ⟨rfl, z⟩) (fun z => ⟨rfl, z⟩)
  unfold w_X12_isWord at g ⊢
  refine ⟨fun c x hx => ?_, fun c => ?_⟩
  · have q := g.1 c x hx
    by_cases e : x = 0
    · rw [if_neg (q.1 e).2] at h; rw [e]; exact h
    · rw [if_pos (q.2 e).2] at h
      have e1 : x = 1 := by
        split at hx
        · exact hx
        · exact absurd hx e
      rw [e1]; exact h
  · rw [if_neg ((g.2 c).1 rfl).2] at h; exact h
theorem m_isV {T : Nat → Nat} {n b s : Nat} {Q : Int32 → Mem → Prop} (hT : okT T n) (hd : rdM M T n) (hr : rtM M T n b) (hs : sgn s = true) (h : Q (if tkC T n b = s then 1 else 0) M) : w_X12_isSign L (nI s) M Q := by
  have g := m_is (L := L) (A := fun M1 => M1 = M ∧ ¬ tkC T n b = s) (B := fun M1 => M1 = M ∧ tkC T n b = s) hT hd hr hs (fun z => ⟨rfl, z⟩) (fun z => ⟨rfl, z⟩)
  unfold w_X12_isSign at g ⊢
  refine ⟨fun c => ⟨(g.1 c).1, fun x hx => ?_⟩, fun c => ?_⟩
  · have q := (g.1 c).2 x hx
    by_cases e : x = 0
    · rw [if_neg (q.1 e).2] at h; rw [e]; exact h
    · rw [if_pos (q.2 e).2] at h
      have e1 : x = 1 := by
        split at hx
        · exact hx
        · exact absurd hx e
      rw [e1]; exact h
  · rw [if_neg ((g.2 c).1 rfl).2] at h; exact h
theorem m_fw {h k : Nat} {w : Int64} {A B : Prop} (hl : ml M 92 48 = lN h) (h62 : h < 2 ^ 62) (hk : k < 27) (hw : w = lN (whF k)) (ha : h = whF k → A) (hb : ¬ h = whF k → B) : (lg_cmp (ml M 92 48) w = 0 → A) ∧ (¬ lg_cmp (ml M 92 48) w = 0 → B) := by
  have wk := (wt_2 k hk).2.2
  rw [hl, hw]
  exact ⟨fun z => ha ((lN_eq4 h62 (by omega)).mp ((lc_eq _ _).mp z)), fun z => hb (fun y => z ((lc_eq _ _).mpr (by rw [y])))⟩
theorem wl_3 : ∀ k, k < 27 → (k = 9 → whF k = 1111) ∧ (k = 10 → whF k = 423) ∧ (k = 11 → whF k = 10631) ∧ (k = 12 → whF k = 8434683) := by decide +kernel
theorem m_factA {T : Nat → Nat} {n b : Nat} {Q : Int32 → Mem → Prop} (hr : rtM M T n b) (hQ : Q (nI (if 13 ≤ tkC T n b ∧ tkC T n b ≤ 26 then tkC T n b - 12 else 0)) M) : w_X12_factAtHand L M Q := by
  unfold w_X12_factAtHand
  have no : ¬ (13 ≤ tkC T n b ∧ tkC T n b ≤ 26) → Q 0 M := fun z => by rw [if_neg z] at hQ; exact hQ
  have t3 := wt_3
  have t4 := wt_4
  have t5 := wt_5
  simp only [List.cons.injEq] at t3 t4 t5
  obtain ⟨-, -, -, -, w13, w14, w15, w16, w17, -⟩ := t4
  obtain ⟨w18, w19, w20, w21, w22, w23, w24, w25, w26, -⟩ := t5
  have key : (mi M 92 47 = 1 → ∃ h, ml M 92 48 = lN h ∧ h < 2 ^ 62 ∧ (∀ k, k < 27 → h = whF k → tkC T n b = k) ∧ (13 ≤ tkC T n b ∧ tkC T n b ≤ 26 → h = whF (tkC T n b))) ∧ (¬ mi M 92 47 = 1 → Q 0 M) := by
    rcases hr.2.2 with ⟨a1, a2⟩ | ⟨a1, a2, a3⟩ | ⟨a1, a2, -⟩ | ⟨a1, a2, -⟩ | ⟨a1, a2 | ⟨a2, h, a3, a4, a5⟩⟩
    · rw [a2]; exact ⟨fun z => absurd z (by decide), fun _ => no (by omega)⟩
    · have wc : whF (tkC T n b) < 2 ^ 62 := by have := (wt_2 _ a1).2.2; omega
      exact ⟨fun _ => ⟨_, a3, wc, fun k hk e => wt_6 _ a1 k hk e, fun _ => rfl⟩, fun z => absurd a2 z⟩
    · rw [a2]; exact ⟨fun z => absurd z (by decide), fun _ => no (by omega)⟩
    · rw [a2]
      refine ⟨fun z => absurd z (by decide), fun _ => no (fun z => ?_)⟩
      have t : ∀ k, k < 27 → sgn k = false := by decide +kernel
      rw [t _ (by omega)] at a1; exact absurd a1 (by decide)
    · rw [a2]; exact ⟨fun z => absurd z (by decide), fun _ => no (by omega)⟩
    · exact ⟨fun _ => ⟨_, a3, by omega, fun k hk e => absurd e (a5 k hk), fun z => by omega⟩, fun z => absurd a2 z⟩
  refine ⟨fun z1 => ?_, key.2⟩
  obtain ⟨h, hl, h62, hk, hi⟩ := key.1 z1
  have yes : ∀ k j, k < 27 → 13 ≤ k → j = k - 12 → h = whF k → Q (nI j) M := fun k j a1 a2 a3 a4 => by
    have := hk k a1 a4
    rw [if_pos (by omega), this, ← a3] at hQ; exact hQ
  exact m_fw hl h62 (k := 13) (by decide) (by rw [w13]; rfl) (yes 13 1 (by decide) (by decide) rfl) fun n13 =>
    m_fw hl h62 (k := 14) (by decide) (by rw [w14]; rfl) (yes 14 2 (by decide) (by decide) rfl) fun n14 =>
    m_fw hl h62 (k := 15) (by decide) (by rw [w15]; rfl) (yes 15 3 (by decide) (by decide) rfl) fun n15 =>
    m_fw hl h62 (k := 16) (by decide) (by rw [w16]; rfl) (yes 16 4 (by decide) (by decide) rfl) fun n16 =>
    m_fw hl h62 (k := 17) (by decide) (by rw [w17]; rfl) (yes 17 5 (by decide) (by decide) rfl) fun n17 =>
    m_fw hl h62 (k := 18) (by decide) (by rw [w18]; rfl) (yes 18 6 (by decide) (by decide) rfl) fun n18 =>
    m_fw hl h62 (k := 19) (by decide) (by rw [w19]; rfl) (yes 19 7 (by decide) (by decide) rfl) fun n19 =>
    m_fw hl h62 (k := 20) (by decide) (by rw [w20]; rfl) (yes 20 8 (by decide) (by decide) rfl) fun n20 =>
    m_fw hl h62 (k := 21) (by decide) (by rw [w21]; rfl) (yes 21 9 (by decide) (by decide) rfl) fun n21 =>
    m_fw hl h62 (k := 22) (by decide) (by rw [w22]; rfl) (yes 22 10 (by decide) (by decide) rfl) fun n22 =>
    m_fw hl h62 (k := 23) (by decide) (by rw [w23]; rfl) (yes 23 11 (by decide) (by decide) rfl) fun n23 =>
    m_fw hl h62 (k := 24) (by decide) (by rw [w24]; rfl) (yes 24 12 (by decide) (by decide) rfl) fun n24 =>
    m_fw hl h62 (k := 25) (by decide) (by rw [w25]; rfl) (yes 25 13 (by decide) (by decide) rfl) fun n25 x hx => by
      by_cases e : h = whF 26
      · rw [if_pos (by rw [hl, e, w26]; exact (lc_eq _ _).mpr rfl)] at hx
        subst hx
        exact yes 26 14 (by decide) (by decide) rfl e
      · rw [if_neg (fun z => e (by
          rw [hl, show (27966771847 : Int64) = lN (whF 26) from by rw [w26]; rfl] at z
          exact (lN_eq4 h62 (by rw [w26]; decide)).mp ((lc_eq _ _).mp z)))] at hx
        subst hx
        refine no (fun z => ?_)
        have hc := hi z
        obtain ⟨z1, z2⟩ := z
        generalize tkC T n b = c at *
        have : c = 13 ∨ c = 14 ∨ c = 15 ∨ c = 16 ∨ c = 17 ∨ c = 18 ∨ c = 19 ∨ c = 20 ∨ c = 21 ∨ c = 22 ∨ c = 23 ∨ c = 24 ∨ c = 25 ∨ c = 26 := by omega
        rcases this with rfl | rfl | rfl | rfl | rfl | rfl | rfl | rfl | rfl | rfl | rfl | rfl | rfl | rfl
        · exact n13 hc
        · exact n14 hc
        · exact n15 hc
        · exact n16 hc
        · exact n17 hc
        · exact n18 hc
        · exact n19 hc
        · exact n20 hc
        · exact n21 hc
        · exact n22 hc
        · exact n23 hc
        · exact n24 hc
        · exact n25 hc
        · exact e hc
theorem m_pops {E : Int32 → Int32 → Mem → Prop} {v3 : Int32} {S : List (Bool × Dc)} {v : Ex} {D : Dc} (hS : S.length ≤ 5) (h : mlS M D S) (hE : E (nI (clN v D S).2.2.length) v3 M) :
    LP3 (fun (K : Int32 → Int32 → Mem → Prop) (v2 v3 : Int32) (M : Mem) => (0 < v2 → (vp_in v2 6 ∧ ((mi M 136 (tn v2) = (1 : Int32) → (∀ x : Int32, x = v2 + (-1 : Int32) → K x v3 M)) ∧ (¬ mi M 136 (tn v2) = (1 : Int32) → E v2 v3 M)))) ∧ (¬ 0 < v2 → E v2 v3 M)) (nI S.length) v3 M := by
  refine LP3_m (fun m a0 a1 a2 => ∃ (S1 : List (Bool × Dc)) (v1 : Ex) (D1 : Dc), a0 = nI S1.length ∧ a1 = v3 ∧ a2 = M ∧ m = S1.length ∧ S1.length ≤ 5 ∧ mlS M D1 S1 ∧ (clN v1 D1 S1).2.2.length = (clN v D S).2.2.length) S.length ⟨S, v, D, rfl, rfl, rfl, rfl, hS, h, rfl⟩ ?_
  intro m a0 a1 a2 ⟨S1, v1, D1, e1, e2, e3, e4, h5, hm, hc⟩ K hK
  subst e1 e2 e3
  rw [show (0 : Int32) = nI 0 from rfl, nI_lt' (by omega) (by omega), tn_nI (n := S1.length) (by omega)]
  cases S1 with
  | nil =>
    refine ⟨fun z => absurd z (by decide), fun _ => ?_⟩
    rw [← hc] at hE; exact hE
  | cons q S2 =>
    have h5 : S2.length + 1 ≤ 5 := h5
    refine ⟨fun _ => ⟨vp_in_nI (by show S2.length + 1 < 6; omega) (by decide), ?_⟩, fun z => absurd (Nat.succ_pos S2.length) z⟩
    have e136 : mi a2 136 (q :: S2).length = (if q.1 = true then 1 else 2) := hm.2.1
    rw [e136]
    by_cases c : q.1 = true
    · rw [if_pos c]
      refine ⟨fun _ x hx => ?_, fun z => absurd rfl z⟩
      have hx : x = nI (S2.length + 1) + (-1 : Int32) := hx
      rw [nI_d1] at hx
      subst hx
      refine hK S2.length (by rw [e4]; show S2.length < S2.length + 1; omega) _ _ _ ⟨S2, nvE v1, q.2, rfl, rfl, rfl, rfl, by omega, hm.2.2, ?_⟩
      rw [← hc]
      show _ = (if q.1 = true then clN (nvE v1) q.2 S2 else (v1, D1, q :: S2)).2.2.length
      rw [if_pos c]
    · rw [if_neg c]
      refine ⟨fun z => absurd z (by decide), fun _ => ?_⟩
      rw [← hc] at hE
      have e : (clN v1 D1 (q :: S2)).2.2 = q :: S2 := by
        show (if q.1 = true then clN (nvE v1) q.2 S2 else (v1, D1, q :: S2)).2.2 = _
        rw [if_neg c]
      rw [e] at hE; exact hE
end EXM
