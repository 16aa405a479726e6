-- LEVEL 3, part 13: pacts in the reference
def vdC (c : List Int32) (x : Ex) : Prop := ∀ (r : Fx) (E : SS),
  (∀ i, i < c.length → (evL r (c.take i) (0, opnE E 0)).1 < 6 ∧ (evL r (c.take (i + 1)) (0, opnE E 0)).1 < 6 ∧ (c.getD i 0 = 29 → 0 < (evL r (c.take i) (0, opnE E 0)).1) ∧ (c.getD i 0 < 20 → ∃ f, 1 ≤ f ∧ f ≤ 14 ∧ c.getD i 0 = nI f)) ∧
  (evL r c (0, opnE E 0)).1 = 0 ∧ tstE (evL r c (0, opnE E 0)).2 0 138 0 = x r
theorem cdM_len {M : Mem} {a n : Nat} : (cdM M a n).length = n := by unfold cdM; rw [List.length_map, List.length_range]
theorem cdM_take {M : Mem} {a n i : Nat} (h : i ≤ n) : (cdM M a n).take i = cdM M a i := by
  unfold cdM
  rw [← List.map_take, List.take_range, Nat.min_eq_left h]
theorem cdM_get {M : Mem} {a n i : Nat} (h : i < n) : (cdM M a n).getD i 0 = mi M 135 (a + i) := by
  unfold cdM
  rw [List.getD_eq_getElem?_getD, List.getElem?_map, List.getElem?_range h]; rfl
theorem vd_ok {M : Mem} {a n : Nat} {x : Ex} (h : vdC (cdM M a n) x) (r : Fx) : okC r M a n (0, opnE (rwE M) 0) ∧ (evL r (cdM M a n) (0, opnE (rwE M) 0)).1 = 0 ∧ tstE (evL r (cdM M a n) (0, opnE (rwE M) 0)).2 0 138 0 = x r := by
  obtain ⟨h1, h2, h3⟩ := h r (rwE M)
  refine ⟨fun i hi => ?_, h2, h3⟩
  have := h1 i (by rw [cdM_len]; exact hi)
  rw [cdM_take (by omega), cdM_take (by omega), cdM_get hi] at this
  exact this
def lineM (M : Mem) (p k : Nat) (e : Option Ex) : Prop := (mi M 130 (11 * p + k) < 0 ∧ e = none) ∨ ∃ a n x, mi M 130 (11 * p + k) = nI a ∧ mi M 131 (11 * p + k) = nI (a + n) ∧ 1000 * p ≤ a ∧ a + n ≤ 1000 * p + 1000 ∧ e = some x ∧ vdC (cdM M a n) x
def rsM (x y : Int32) : Prop := (x = 0 ∧ y = 13) ∨ (x = 1 ∧ y = 14) ∨ (x = 2 ∧ y = 12) ∨ (x = -1 ∧ y = -1)
def pacM (M : Mem) (p : Nat) (P : Pc) : Prop := lineM M p 0 (P.1 0) ∧ lineM M p 1 (P.1 1) ∧ lineM M p 2 (P.1 2) ∧
  (∃ (nf : Nat) (xs : Nat → Ex), nf ≤ 8 ∧ mi M 132 p = nI nf ∧ (∀ k, k < nf → lineM M p (3 + k) (some (xs k))) ∧ ∀ r, P.2.1 r = true ↔ ∃ k, k < nf ∧ ¬ xs k r = 0) ∧
  rsM (mi M 133 p) P.2.2.1 ∧ mi M 134 p = P.2.2.2
-- a pact stays when nothing of its slot is written
def slM (p a k : Nat) : Prop := ((a = 130 ∨ a = 131) ∧ 11 * p ≤ k ∧ k < 11 * p + 11) ∨ ((a = 132 ∨ a = 133 ∨ a = 134) ∧ k = p) ∨ (a = 135 ∧ 1000 * p ≤ k ∧ k < 1000 * p + 1000)
theorem cdM_cg {M M' : Mem} {a a' n : Nat} (h : ∀ j, j < n → mi M' 135 (a' + j) = mi M 135 (a + j)) : cdM M' a' n = cdM M a n := by
  unfold cdM
  refine List.map_congr_left (fun j hj => h j (List.mem_range.mp hj))
theorem lineM_cg {M M' : Mem} {p k : Nat} {e : Option Ex} (hk : k < 11) (h : ∀ a j, slM p a j → mi M' a j = mi M a j) (hl : lineM M p k e) : lineM M' p k e := by
  have e1 : mi M' 130 (11 * p + k) = mi M 130 (11 * p + k) := h _ _ (by unfold slM; omega)
  have e2 : mi M' 131 (11 * p + k) = mi M 131 (11 * p + k) := h _ _ (by unfold slM; omega)
  unfold lineM
  rw [e1, e2]
  rcases hl with q | ⟨a, n, x, h1, h2, h3, h4, h5, h6⟩
  · exact Or.inl q
  · refine Or.inr ⟨a, n, x, h1, h2, h3, h4, h5, ?_⟩
    rw [cdM_cg (fun j hj => h 135 (a + j) (by unfold slM; omega))]; exact h6
theorem pacM_cg {M M' : Mem} {p : Nat} {P : Pc} (h : ∀ a j, slM p a j → mi M' a j = mi M a j) (hp : pacM M p P) : pacM M' p P := by
  obtain ⟨p1, p2, p3, ⟨nf, xs, p4, p5, p6, p7⟩, p8, p9⟩ := hp
  have e2 : mi M' 132 p = mi M 132 p := h _ _ (by unfold slM; omega)
  have e3 : mi M' 133 p = mi M 133 p := h _ _ (by unfold slM; omega)
  have e4 : mi M' 134 p = mi M 134 p := h _ _ (by unfold slM; omega)
  refine ⟨lineM_cg (by decide) h p1, lineM_cg (by decide) h p2, lineM_cg (by decide) h p3, ⟨nf, xs, p4, e2.trans p5, fun k hk => lineM_cg (by omega) h (p6 k hk), p7⟩, by rw [e3]; exact p8, e4.trans p9⟩
-- one slot is copied to another
def cpM (M M' : Mem) (p q : Nat) : Prop := (∀ k, k < 11 → mi M' 130 (11 * q + k) = (if mi M 130 (11 * p + k) < 0 then -1 else mi M 130 (11 * p + k) + 1000 * (nI q - nI p)) ∧ mi M' 131 (11 * q + k) = mi M 131 (11 * p + k) + 1000 * (nI q - nI p)) ∧
  mi M' 132 q = mi M 132 p ∧ mi M' 133 q = mi M 133 p ∧ mi M' 134 q = mi M 134 p ∧ ∀ j, j < 1000 → mi M' 135 (1000 * q + j) = mi M 135 (1000 * p + j)
theorem way_nI {p q b : Nat} : nI (1000 * p + b) + 1000 * (nI q - nI p) = nI (1000 * q + b) := by
  have h1 : nI (1000 * p + b) = 1000 * nI p + nI b := by rw [← nI_add, ← pk_mul]; rfl
  have h2 : nI (1000 * q + b) = 1000 * nI q + nI b := by rw [← nI_add, ← pk_mul]; rfl
  rw [h1, h2]
  grind
theorem lineM_cp {M M' : Mem} {p q k : Nat} {e : Option Ex} (hp : p < 26) (hk : k < 11) (h : cpM M M' p q) (hl : lineM M p k e) : lineM M' q k e := by
  obtain ⟨c1, -, -, -, c5⟩ := h
  obtain ⟨d1, d2⟩ := c1 k hk
  rcases hl with ⟨q1, q2⟩ | ⟨a, n, x, h1, h2, h3, h4, h5, h6⟩
  · exact Or.inl ⟨by rw [d1, if_pos q1]; decide, q2⟩
  · by_cases hneg : nI a < 0
    · exact absurd hneg (nI_pos (by omega))
    obtain ⟨b, rfl⟩ : ∃ b, a = 1000 * p + b := ⟨a - 1000 * p, by omega⟩
    refine Or.inr ⟨1000 * q + b, n, x, ?_, ?_, by omega, by omega, h5, ?_⟩
    · rw [d1, h1, if_neg hneg, way_nI]
    · rw [d2, h2, Nat.add_assoc, way_nI, Nat.add_assoc]
    · rw [cdM_cg (M := M) (a := 1000 * p + b) (fun j hj => by rw [Nat.add_assoc, c5 (b + j) (by omega), Nat.add_assoc])]
      exact h6
theorem pacM_cp {M M' : Mem} {p q : Nat} {P : Pc} (hpq : p < 26) (h : cpM M M' p q) (hp : pacM M p P) : pacM M' q P := by
  obtain ⟨p1, p2, p3, ⟨nf, xs, p4, p5, p6, p7⟩, p8, p9⟩ := hp
  obtain ⟨-, c2, c3, c4, -⟩ := id h
  exact ⟨lineM_cp hpq (by decide) h p1, lineM_cp hpq (by decide) h p2, lineM_cp hpq (by decide) h p3, ⟨nf, xs, p4, c2.trans p5, fun k hk => lineM_cp hpq (by omega) h (p6 k hk), p7⟩, by rw [c3]; exact p8, c4.trans p9⟩
theorem m_copies {L : Lay} {p q : Nat} {M : Mem} {Q : Mem → Prop} (hp : p < 26) (hq : q < 26) (hne : p ≠ q) (h : ∀ M', cpM M M' p q → FJ (slM q) M M' → Q M') : w_X12_copies L (nI p) (nI q) M Q := by
  unfold w_X12_copies
  intro x hx
  subst hx
  refine LP3_c1 0 11 (fun i (v3 : Int32) M' => v3 = 1000 * (nI q - nI p) ∧ FJ (slM q) M M' ∧ (∀ k, k < i → mi M' 130 (11 * q + k) = (if mi M 130 (11 * p + k) < 0 then -1 else mi M 130 (11 * p + k) + 1000 * (nI q - nI p)) ∧ mi M' 131 (11 * q + k) = mi M 131 (11 * p + k) + 1000 * (nI q - nI p))) rfl (Nat.zero_le _) ⟨rfl, FJ.rf, fun k hk => absurd hk (by omega)⟩ ?_
  intro i v3 M1 hi _ ⟨ev, hF, h1⟩ K hK
  subst ev
  unfold w_X12_copies_11
  rw [show (11 : Int32) = nI 11 from rfl]
  refine ⟨fun hlt => ?_, fun hge => ?_⟩
  · rw [nI_lt' (by omega) (by omega)] at hlt
    rw [pk_mul, nI_add, pk_mul, nI_add, tn_nI (n := 11 * p + i) (by omega), tn_nI (n := 11 * q + i) (by omega), hF.1 130 (11 * p + i) (by unfold slM; omega)]
    refine ⟨vp_in_nI (by omega) (by decide), fun y hy z hz => ⟨vp_in_nI (by omega) (by decide), fun M2 e2 M3 e3 w hw => ?_⟩⟩
    rw [hw, nI_1]
    refine hK hlt _ M3 ⟨rfl, ?_, fun k hk => ?_⟩
    · rw [e3, e2]; refine (hF.si ?_).si ?_ <;> unfold slM <;> omega
    · have g130 : mi M3 130 (11 * q + k) = if k = i then z else mi M1 130 (11 * q + k) := by
        rw [e3, mi_si, if_neg (by omega), e2, mi_si]
        by_cases c : k = i
        · rw [if_pos c, if_pos ⟨rfl, by omega⟩]
        · rw [if_neg c, if_neg (by omega)]
      have g131 : mi M3 131 (11 * q + k) = if k = i then mi M 131 (11 * p + i) + 1000 * (nI q - nI p) else mi M1 131 (11 * q + k) := by
        rw [e3, mi_si, e2, mi_si, mi_si]
        by_cases c : k = i
        · rw [if_pos c, if_pos ⟨rfl, by omega⟩, if_neg (by omega), hF.1 131 (11 * p + i) (by unfold slM; omega)]
        · rw [if_neg c, if_neg (by omega), if_neg (by omega)]
      rw [g130, g131]
      by_cases c : k = i
      · subst c
        rw [if_pos rfl, if_pos rfl, hz, hy]; exact ⟨rfl, rfl⟩
      · rw [if_neg c, if_neg c]; exact h1 k (by omega)
  · rw [nI_lt' (by omega) (by omega)] at hge
    have ei : i = 11 := by omega
    subst ei
    rw [tn_nI (n := p) (by omega), tn_nI (n := q) (by omega)]
    refine ⟨vp_in_nI hp (by decide), vp_in_nI hq (by decide), fun M2 e2 M3 e3 M4 e4 => ?_⟩
    have F4 : FJ (slM q) M M4 := by rw [e4, e3, e2]; refine ((hF.si ?_).si ?_).si ?_ <;> unfold slM <;> omega
    have a1 : ∀ a k, a = 130 ∨ a = 131 → mi M4 a k = mi M1 a k := fun a k ha => by rw [e4, mi_si, if_neg (fun r => by omega), e3, mi_si, if_neg (fun r => by omega), e2, mi_si, if_neg (fun r => by omega)]
    have a2 : mi M4 132 q = mi M 132 p := by
      rw [e4, mi_si, if_neg (fun r => by omega), e3, mi_si, if_neg (fun r => by omega), e2, mi_si, if_pos ⟨rfl, rfl⟩]; exact hF.1 132 p (by unfold slM; omega)
    have a3 : mi M4 133 q = mi M 133 p := by
      rw [e4, mi_si, if_neg (fun r => by omega), e3, mi_si, if_pos ⟨rfl, rfl⟩, e2, mi_si, if_neg (fun r => by omega)]; exact hF.1 133 p (by unfold slM; omega)
    have a4 : mi M4 134 q = mi M 134 p := by
      rw [e4, mi_si, if_pos ⟨rfl, rfl⟩, e3, mi_si, if_neg (fun r => by omega), e2, mi_si, if_neg (fun r => by omega)]; exact hF.1 134 p (by unfold slM; omega)
    refine LP2_c0 0 1000 (fun j M' => FJ (slM q) M M' ∧ (∀ a k, a ≠ 135 → mi M' a k = mi M4 a k) ∧ (∀ k, k < j → mi M' 135 (1000 * q + k) = mi M 135 (1000 * p + k))) rfl (Nat.zero_le _) ⟨F4, fun _ _ _ => rfl, fun k hk => absurd hk (by omega)⟩ ?_
    intro j M5 hj _ ⟨F5, b1, b2⟩ K2 hK2
    unfold w_X12_copies_128
    rw [show (1000 : Int32) = nI 1000 from rfl]
    refine ⟨fun hlt => ?_, fun hge2 => ?_⟩
    · rw [nI_lt' (by omega) (by omega)] at hlt
      rw [pk_mul, nI_add, pk_mul, nI_add, tn_nI (n := 1000 * p + j) (by omega), tn_nI (n := 1000 * q + j) (by omega), F5.1 135 (1000 * p + j) (by unfold slM; omega)]
      refine ⟨vp_in_nI (by omega) (by decide), vp_in_nI (by omega) (by decide), fun M6 e6 y hy => ?_⟩
      rw [hy, nI_1]
      refine hK2 hlt M6 ⟨?_, fun a k ha => ?_, fun k hk => ?_⟩
      · rw [e6]; refine F5.si ?_; unfold slM; omega
      · rw [e6, mi_si, if_neg (fun r => ha r.1)]; exact b1 a k ha
      · rw [e6, mi_si]
        by_cases c : k = j
        · subst c; rw [if_pos ⟨rfl, rfl⟩]
        · rw [if_neg (fun r => by omega)]; exact b2 k (by omega)
    · rw [nI_lt' (by omega) (by omega)] at hge2
      have ej : j = 1000 := by omega
      subst ej
      refine h M5 ⟨fun k hk => ?_, ?_, ?_, ?_, b2⟩ F5
      · rw [b1 130 _ (by decide), b1 131 _ (by decide), a1 130 _ (by simp), a1 131 _ (by simp)]; exact h1 k hk
      · rw [b1 132 _ (by decide)]; exact a2
      · rw [b1 133 _ (by decide)]; exact a3
      · rw [b1 134 _ (by decide)]; exact a4
