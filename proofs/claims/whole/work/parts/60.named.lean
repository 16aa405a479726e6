-- LEVEL 3, part 44: who is named
theorem LP7_c5 {A0 A1 A2 A3 A4 A6 : Type} {body : (A0 → A1 → A2 → A3 → A4 → Int32 → A6 → Prop) → A0 → A1 → A2 → A3 → A4 → Int32 → A6 → Prop} {a0 : A0} {a1 : A1} {a2 : A2} {a3 : A3} {a4 : A4} {a6 : A6} {v : Int32} (i0 n : Nat) (P : Nat → A0 → A1 → A2 → A3 → A4 → A6 → Prop) (hv : v = nI i0) (hle : i0 ≤ n) (h0 : P i0 a0 a1 a2 a3 a4 a6)
  (hs : ∀ (i : Nat) (a0 : A0) (a1 : A1) (a2 : A2) (a3 : A3) (a4 : A4) (a6 : A6), i ≤ n → i0 ≤ i → P i a0 a1 a2 a3 a4 a6 → ∀ K : A0 → A1 → A2 → A3 → A4 → Int32 → A6 → Prop, (i < n → ∀ (b0 : A0) (b1 : A1) (b2 : A2) (b3 : A3) (b4 : A4) (b6 : A6), P (i + 1) b0 b1 b2 b3 b4 b6 → K b0 b1 b2 b3 b4 (nI (i + 1)) b6) → body K a0 a1 a2 a3 a4 (nI i) a6) : LP7 body a0 a1 a2 a3 a4 v a6 :=
  ⟨fun m a0 a1 a2 a3 a4 v a6 => ∃ i : Nat, i ≤ n ∧ i0 ≤ i ∧ v = nI i ∧ m = n - i ∧ P i a0 a1 a2 a3 a4 a6, n - i0, ⟨i0, hle, Nat.le_refl _, hv, rfl, h0⟩, fun m a0 a1 a2 a3 a4 v a6 h => by
    obtain ⟨i, hi, h5, rfl, rfl, hp⟩ := h
    exact hs i a0 a1 a2 a3 a4 a6 hi h5 hp _ (fun hlt b0 b1 b2 b3 b4 b6 hp2 => ⟨n - (i + 1), by omega, i + 1, hlt, by omega, rfl, rfl, hp2⟩)⟩
theorem pcN_0 : ∀ k, pcN k 0 = 0 := by
  intro k
  induction k with
  | zero => rfl
  | succ k ih => show 0 % 2 + pcN k (0 / 2) = 0; rw [show 0 / 2 = 0 from rfl, ih]
theorem pcN_le : ∀ k m, pcN k m ≤ k := by
  intro k
  induction k with
  | zero => intro m; exact Nat.le_refl _
  | succ k ih => intro m; show m % 2 + pcN k (m / 2) ≤ k + 1; have := ih (m / 2); omega
theorem pcN_pos : ∀ k m, 0 < m → m < 2 ^ k → 0 < pcN k m := by
  intro k
  induction k with
  | zero => intro m h1 h2; omega
  | succ k ih =>
    intro m h1 h2
    show 0 < m % 2 + pcN k (m / 2)
    by_cases c : m % 2 = 0
    · have := ih (m / 2) (by omega) (by rw [Nat.pow_succ] at h2; omega)
      omega
    · omega
theorem pc_big {s N : Nat} (hN : N ≤ 10) : pcN 10 s = pcN N s + pcN (10 - N) (s / 2 ^ N) := by
  have := pcN_add N (10 - N) s
  rw [show N + (10 - N) = 10 by omega] at this; exact this
theorem pc_less {s N : Nat} (hN : N ≤ 10) (hs : s < 1024) (h : 2 ^ N ≤ s) : pcN 10 (s % 2 ^ N) < pcN 10 s := by
  rw [pc_big hN, pc_big (s := s) hN, pcN_mod N N s (Nat.le_refl _), Nat.div_eq_of_lt (Nat.mod_lt _ (Nat.two_pow_pos N)), pcN_0]
  have hd : s / 2 ^ N < 2 ^ (10 - N) := by
    rw [Nat.div_lt_iff_lt_mul (Nat.two_pow_pos N), ← Nat.pow_add, show 10 - N + N = 10 by omega]; exact hs
  have := pcN_pos (10 - N) (s / 2 ^ N) (Nat.div_pos h (Nat.two_pow_pos N)) hd
  omega
theorem pc_small {s N : Nat} (hN : N ≤ 10) (h : s < 2 ^ N) : pcN 10 s = cnF (fun o => s.testBit o) N := by
  rw [pc_big hN, Nat.div_eq_of_lt h, pcN_0, Nat.add_zero]
  exact pc_bits N s h _ (fun i _ => rfl)
def exB (M : Mem) (bar : Int32) (s : Nat) : Nat → Bool
  | 0 => true
  | k + 1 => exB M bar s k && (!isB M bar k || !decide ((mi M 155 k &&& nI s) = 0))
theorem ex_iff {M : Mem} {bar : Int32} {s : Nat} : ∀ n, exB M bar s n = true ↔ ∀ k, k < n → isB M bar k = true → ¬ (mi M 155 k &&& nI s) = 0 := by
  intro n
  induction n with
  | zero => exact ⟨fun _ k hk => absurd hk (by omega), fun _ => rfl⟩
  | succ n ih =>
    show (exB M bar s n && (!isB M bar n || !decide ((mi M 155 n &&& nI s) = 0))) = true ↔ _
    rw [Bool.and_eq_true, ih]
    constructor
    · rintro ⟨a, b⟩ k hk hb
      by_cases c : k = n
      · subst c
        rw [hb] at b
        simpa using b
      · exact a k (by omega) hb
    · intro a
      refine ⟨fun k hk => a k (by omega), ?_⟩
      by_cases c : isB M bar n = true
      · have := a n (by omega) c
        simp [this]
      · have c' : isB M bar n = false := by simpa using c
        rw [c']; rfl
def fwF (ex : Nat → Bool) : Nat → Nat × Nat
  | 0 => (11, 0)
  | s + 1 => if ex s = true ∧ ¬ (fwF ex s).1 < pcN 10 s then (pcN 10 s, if pcN 10 s < (fwF ex s).1 then s else (fwF ex s).2 &&& s) else fwF ex s
theorem fw_s {ex : Nat → Bool} {s : Nat} : fwF ex (s + 1) = if ex s = true ∧ ¬ (fwF ex s).1 < pcN 10 s then (pcN 10 s, if pcN 10 s < (fwF ex s).1 then s else (fwF ex s).2 &&& s) else fwF ex s := rfl
theorem fw_lt {ex : Nat → Bool} {N : Nat} : ∀ u, u ≤ 2 ^ N → (fwF ex u).2 < 2 ^ N ∧ (fwF ex u).1 ≤ 11 := by
  intro u
  induction u with
  | zero => intro _; exact ⟨Nat.two_pow_pos N, Nat.le_refl _⟩
  | succ u ih =>
    intro hu
    obtain ⟨a, b⟩ := ih (by omega)
    rw [fw_s]
    split
    · have := pcN_le 10 u
      refine ⟨?_, by show pcN 10 u ≤ 11; omega⟩
      show (if _ then u else _) < _
      split
      · omega
      · exact Nat.lt_of_le_of_lt Nat.and_le_left a
    · exact ⟨a, b⟩
theorem fw_le {ex : Nat → Bool} : ∀ u, (fwF ex u).1 ≤ 11 := by
  intro u
  induction u with
  | zero => exact Nat.le_refl _
  | succ u ih =>
    rw [fw_s]
    split
    · have := pcN_le 10 u
      show pcN 10 u ≤ 11; omega
    · exact ih
theorem fw_min {ex : Nat → Bool} {s : Nat} (h : ex s = true) : ∀ u, s < u → (fwF ex u).1 ≤ pcN 10 s := by
  intro u
  induction u with
  | zero => intro h; omega
  | succ u ih =>
    intro hs
    rw [fw_s]
    by_cases c : s = u
    · subst c
      by_cases d : (fwF ex s).1 < pcN 10 s
      · rw [if_neg (fun y => y.2 d)]; omega
      · rw [if_pos ⟨h, d⟩]; exact Nat.le_refl _
    · have := ih (by omega)
      split
      · rename_i d
        show pcN 10 u ≤ pcN 10 s
        omega
      · exact this
theorem fw_ext {ex : Nat → Bool} {N : Nat} (hN : N ≤ 10) (h : ∀ s, s < 1024 → ex s = true → ex (s % 2 ^ N) = true) : ∀ d, 2 ^ N + d ≤ 1024 → fwF ex (2 ^ N + d) = fwF ex (2 ^ N) := by
  intro d
  induction d with
  | zero => intro _; rfl
  | succ d ih =>
    intro hd
    rw [← Nat.add_assoc, fw_s, if_neg]
    · exact ih (by omega)
    · rintro ⟨a, b⟩
      have h1 := h _ (by omega) a
      have hm := Nat.mod_lt (2 ^ N + d) (Nat.two_pow_pos N)
      have h2 := fw_min h1 (2 ^ N + d) (by omega)
      have h3 := pc_less (s := 2 ^ N + d) hN (by omega) (by omega)
      omega
def nmG (al : Nat) (i : Int32) : Nat → Nat → Nat → Int32
  | 0, _, _ => -1
  | r + 1, o, seen => if al.testBit o = true then (if nI seen = i then nI o else nmG al i r (o + 1) (seen + 1)) else nmG al i r (o + 1) seen
theorem nm_s {al : Nat} {i : Int32} {r o seen : Nat} : nmG al i (r + 1) o seen = if al.testBit o = true then (if nI seen = i then nI o else nmG al i r (o + 1) (seen + 1)) else nmG al i r (o + 1) seen := rfl
theorem nm_out {al N : Nat} {i : Int32} (h : al < 2 ^ N) : ∀ r o seen, N ≤ o → nmG al i r o seen = -1 := by
  intro r
  induction r with
  | zero => intro o seen _; rfl
  | succ r ih =>
    intro o seen ho
    rw [nm_s, if_neg]
    · exact ih _ _ (by omega)
    · rw [Nat.testBit_lt_two_pow (Nat.lt_of_lt_of_le h (Nat.pow_le_pow_right (by decide) ho))]; decide
theorem nm_cut {al N : Nat} {i : Int32} (h : al < 2 ^ N) : ∀ r k o seen, o + r = N → nmG al i (r + k) o seen = nmG al i r o seen := by
  intro r
  induction r with
  | zero => intro k o seen ho; rw [nm_out h _ _ _ (by omega)]; rfl
  | succ r ih =>
    intro k o seen ho
    rw [show r + 1 + k = (r + k) + 1 by omega, nm_s, nm_s, ih k (o + 1) _ (by omega), ih k (o + 1) _ (by omega)]
section NAM
variable {L : Lay} {M : Mem}
theorem c_exp {n b s : Nat} {bar : Int32} {M0 : Mem} {Q : Int32 → Mem → Prop} (hb : b ≤ 60) (h1 : ∀ j, j < b → ∃ k, k < n ∧ isB M0 bar k = true ∧ mi M 89 j = mi M0 155 k) (h2 : ∀ k, k < n → isB M0 bar k = true → ∃ j, j < b ∧ mi M 89 j = mi M0 155 k)
    (hQ : Q (if exB M0 bar s n = true then 1 else 0) M) : w_X8_explains L (nI s) (nI b) M Q := by
  unfold w_X8_explains
  refine LP2_c0 0 b (fun i M' => M' = M ∧ ∀ j, j < i → ¬ (mi M 89 j &&& nI s) = 0) rfl (Nat.zero_le _) ⟨rfl, fun j hj => absurd hj (by omega)⟩ ?_
  intro i M' hi _ ⟨e, ha⟩ K hK
  subst e
  unfold w_X8_explains_2
  rw [nI_lt' (by omega) (by omega), tn_nI (n := i) (by omega)]
  refine ⟨fun hlt => ⟨vp_in_nI (by omega) (by decide), fun c => ?_, fun c x hx => ?_⟩, fun hge => ?_⟩
  · rw [if_neg] at hQ
    · exact hQ
    · intro y
      obtain ⟨k, k1, k2, k3⟩ := h1 i hlt
      exact (ex_iff n).mp y k k1 k2 (by rw [← k3]; exact c)
  · rw [hx, nI_1]
    refine hK hlt _ ⟨rfl, fun j hj => ?_⟩
    by_cases w : j = i
    · subst w; exact c
    · exact ha j (by omega)
  · have : i = b := by omega
    subst this
    rw [if_pos] at hQ
    · exact hQ
    · refine (ex_iff n).mpr (fun k hk hb2 => ?_)
      obtain ⟨j, j1, j2⟩ := h2 k hk hb2
      rw [← j2]; exact ha j j1
theorem bc_10 {s : Nat} (hs : s < 1024) : bcF (nI s) = nI (pcN 10 s) := by
  rw [bc_nat (by omega), show (32 : Nat) = 10 + 22 from rfl, pcN_add, Nat.div_eq_of_lt hs, pcN_0, Nat.add_zero]
theorem c_few {t n : Nat} {X : WS} {bar : Int32} {Q : Int32 → Mem → Prop} (hn : n ≤ 60) (hC : mi M 85 0 = nI n) (hk : ∀ k, k < n → saK t M k)
    (hQ : ∀ M', FJ (fun a _ => a = 89) M M' → Q (nI (if cnF (isB M bar) n < 2 then 0 else (fwF (fun s => exB M bar s n) 1024).2)) M') : w_X8_inEachFewest L bar M Q := by
  have le : ∀ i, cnF (isB M bar) i ≤ i := by
    intro i
    induction i with
    | zero => exact Nat.le_refl _
    | succ i ih => show cnF (isB M bar) i + (if isB M bar i = true then 1 else 0) ≤ i + 1; split <;> omega
  have len := le n
  unfold w_X8_inEachFewest
  refine c_bad (t := t) (X := X) hn hC hk (fun M1 a1 b1 F1 => ?_)
  have hq := hQ M1 F1
  rw [show (2 : Int32) = nI 2 from rfl, nI_lt' (by omega) (by omega)]
  refine ⟨fun c => by rw [if_pos c] at hq; exact hq, fun c => ?_⟩
  rw [if_neg c] at hq
  have e0 : exB M bar 0 n = false := by
    obtain ⟨k, k1, k2, -⟩ := a1 0 (by omega)
    by_cases y : exB M bar 0 n = true
    · exact absurd (by rw [show nI 0 = (0 : Int32) from rfl, Int32.and_zero]) ((ex_iff n).mp y k k1 k2)
    · simpa using y
  have f1 : fwF (fun s => exB M bar s n) 1 = (11, 0) := by rw [fw_s, if_neg (by rw [e0]; exact fun y => by cases y.1)]; rfl
  refine LP5_c3 1 1024 (fun i v2 v3 v4 M' => M' = M1 ∧ v2 = nI (cnF (isB M bar) n) ∧ v3 = nI (fwF (fun s => exB M bar s n) i).1 ∧ v4 = nI (fwF (fun s => exB M bar s n) i).2) rfl (by decide) ⟨rfl, rfl, by rw [f1]; rfl, by rw [f1]; rfl⟩ ?_
  intro i v2 v3 v4 M2 hi hi1 ⟨e, ev2, ev3, ev4⟩ K hK
  subst e ev2 ev3 ev4
  have p10 := pcN_le 10 i
  have f11 := fw_le (ex := fun s => exB M bar s n) i
  unfold w_X8_inEachFewest_22
  rw [show (1024 : Int32) = nI 1024 from rfl, nI_lt' (by omega) (by omega)]
  refine ⟨fun hlt => c_bitCount ?_, fun hge => ?_⟩
  · have el := nI_ltI (a := pcN 10 i) (b := (fwF (fun s => exB M bar s n) i).1) (by omega) (by omega)
    rw [bc_10 hlt, nI_lt' (a := (fwF (fun s => exB M bar s n) i).1) (by omega) (by omega)]
    refine ⟨fun c2 x hx => ?_, fun c2 => c_exp (M0 := M) (n := n) (bar := bar) (by omega) a1 b1 ?_⟩
    · rw [hx, nI_1]
      refine hK hlt _ _ _ _ ⟨rfl, rfl, ?_, ?_⟩ <;> rw [fw_s, if_neg (fun y => y.2 c2)]
    · by_cases y : exB M bar i n = true
      · rw [if_pos y]
        refine ⟨fun z => absurd z (by decide), fun _ x hx w hw => ?_⟩
        rw [hx, hw, nI_1]
        refine hK hlt _ _ _ _ ⟨rfl, rfl, ?_, ?_⟩
        · rw [fw_s, if_pos (c := exB M bar i n = true ∧ ¬ (fwF (fun s => exB M bar s n) i).1 < pcN 10 i) ⟨y, c2⟩]
        · rw [fw_s, if_pos (c := exB M bar i n = true ∧ ¬ (fwF (fun s => exB M bar s n) i).1 < pcN 10 i) ⟨y, c2⟩]
          show _ = nI (if _ then _ else _)
          by_cases z : pcN 10 i < (fwF (fun s => exB M bar s n) i).1
          · rw [if_pos (el.mpr z), if_pos z]
          · rw [if_neg (fun y => z (el.mp y)), if_neg z, bit_and]
      · rw [if_neg y]
        refine ⟨fun _ x hx => ?_, fun z => absurd rfl z⟩
        rw [hx, nI_1]
        refine hK hlt _ _ _ _ ⟨rfl, rfl, ?_, ?_⟩ <;> rw [fw_s, if_neg (fun w => y w.1)]
  · have : i = 1024 := by omega
    subst this
    exact hq
theorem j_named {p0 : Int32} (h : RR L M) : w_X11_named L p0 M (fun a M1 => w_X12_named L p0 M1 (fun b M2 => a = b ∧ RR L M2)) := by
  obtain ⟨t, X, h⟩ := h
  obtain ⟨⟨n1, n2, n3⟩, -⟩ := RX_n h
  obtain ⟨n, hn, hC, hM, hk⟩ := h.2.2.2.2.2
  have p2 := p31 n3
  have exm : ∀ s, s < 1024 → exB M (brX X) s n = true → exB M (brX X) (s % 2 ^ tn (X.1 28 0)) n = true := fun s hs y => by
    rw [ex_iff] at y ⊢
    intro k k1 k2 z
    obtain ⟨-, -, -, ⟨c, c1, c2, c3⟩, -⟩ := hk k k1
    apply y k k1 k2
    rw [c3, bit_and] at z ⊢
    rw [← z]
    congr 1
    apply Nat.eq_of_testBit_eq
    intro i
    rw [Nat.testBit_and, Nat.testBit_and, Nat.testBit_mod_two_pow]
    by_cases d : i < tn (X.1 28 0)
    · simp [d]
    · rw [Nat.testBit_lt_two_pow (Nat.lt_of_lt_of_le c2 (Nat.pow_le_pow_right (by decide) (by omega)))]; rfl
  have f24 : fwF (fun s => exB M (brX X) s n) 1024 = fwF (fun s => exB M (brX X) s n) (2 ^ tn (X.1 28 0)) := by
    have := fw_ext (ex := fun s => exB M (brX X) s n) n3 exm (1024 - 2 ^ tn (X.1 28 0)) (by omega)
    rw [show 2 ^ tn (X.1 28 0) + (1024 - 2 ^ tn (X.1 28 0)) = 1024 by omega] at this; exact this
  unfold w_X11_named
  refine c_bar h.1.2.1 (c_few (t := tn (X.1 28 0)) (X := X) hn hC hk (fun M1 F1 => ?_))
  rw [f24]
  have al : (if cnF (isB M (brX X)) n < 2 then 0 else (fwF (fun s => exB M (brX X) s n) (2 ^ tn (X.1 28 0))).2) < 2 ^ tn (X.1 28 0) := by
    split
    · exact Nat.two_pow_pos _
    · exact (fw_lt _ (Nat.le_refl _)).1
  -- the reference
  have ref : ∀ a : Int32, a = nmG (if cnF (isB M (brX X)) n < 2 then 0 else (fwF (fun s => exB M (brX X) s n) (2 ^ tn (X.1 28 0))).2) p0 (tn (X.1 28 0)) 0 0 → w_X12_named L p0 M1 (fun b M2 => a = b ∧ RR L M2) := fun a ea => by
    unfold w_X12_named
    intro M2 e2
    have f2 : ∀ a k, ¬ PN a k → mi M2 a k = mi M a k := fun a k z => by rw [e2, mi_si, if_neg (fun y => z (by unfold PN; omega)), F1.1 a k (fun y => z (by unfold PN; omega))]
    have r2 : RX L M2 t X := RX_cg h f2 (fun a k => by rw [e2]; exact F1.mp)
    have hM2 : mi M2 92 80 = nI n := (f2 92 80 (by unfold PN; omega)).trans hM
    have h28 : mi M2 92 28 = nI (tn (X.1 28 0)) := (RX_n r2).1.2.1
    have eB : ∀ k, isB M2 (brX X) k = isB M (brX X) k := fun k => isB_cg (fun a k z => f2 a k (by unfold PN; omega))
    have eC : cnF (isB M2 (brX X)) n = cnF (isB M (brX X)) n := cn_cg n (fun k _ => eB k)
    refine m_bads r2 hn hM2 ?_
    rw [eC, show (2 : Int32) = nI 2 from rfl]
    have cl : cnF (isB M (brX X)) n ≤ n := by
      have : ∀ i, cnF (isB M (brX X)) i ≤ i := by
        intro i
        induction i with
        | zero => exact Nat.le_refl _
        | succ i ih => show cnF (isB M (brX X)) i + (if isB M (brX X) i = true then 1 else 0) ≤ i + 1; split <;> omega
      exact this n
    rw [nI_lt' (by omega) (by omega)]
    refine ⟨fun c => ⟨?_, t, X, r2⟩, fun c => ?_⟩
    · rw [ea, if_pos c]
      have z : ∀ r o, nmG 0 p0 r o 0 = -1 := by
        intro r
        induction r with
        | zero => intro o; rfl
        | succ r ih => intro o; rw [nm_s, if_neg (by rw [Nat.zero_testBit]; decide)]; exact ih _
      exact z _ _
    · rw [if_neg c] at ea
      refine LP4_c2 0 (2 ^ tn (X.1 28 0)) (fun s v2 v3 M' => M' = M2 ∧ v2 = nI (fwF (fun s => exB M (brX X) s n) s).1 ∧ v3 = nI (fwF (fun s => exB M (brX X) s n) s).2) rfl (Nat.zero_le _) ⟨rfl, rfl, rfl⟩ ?_
      intro s v2 v3 M3 hs _ ⟨e, ev2, ev3⟩ K23 hK23
      subst e ev2 ev3
      have f11 := fw_le (ex := fun s => exB M (brX X) s n) s
      unfold w_X12_named_23
      rw [h28, jshl_1 (by omega), nI_lt' (by omega) (by omega)]
      refine ⟨fun hlt => ?_, fun hge => ?_⟩
      · refine LP6_c4 0 (tn (X.1 28 0)) (fun i v2 v3 v4 v5 M' => M' = M3 ∧ v2 = nI (fwF (fun s => exB M (brX X) s n) s).1 ∧ v3 = nI (fwF (fun s => exB M (brX X) s n) s).2 ∧ v4 = nI s ∧ v5 = nI (cnF (fun o => s.testBit o) i)) rfl (Nat.zero_le _) ⟨rfl, rfl, rfl, rfl, rfl⟩ ?_
        intro i v2 v3 v4 v5 M4 hi _ ⟨e, ev2, ev3, ev4, ev5⟩ K40 hK40
        subst e ev2 ev3 ev4 ev5
        unfold w_X12_named_40
        rw [h28, nI_lt' (by omega) (by omega)]
        refine ⟨fun hlt2 x hx y hy => ?_, fun hge2 => ?_⟩
        · rw [hx, hy, nI_1, sh_bit (by omega) (by omega)]
          refine hK40 hlt2 _ _ _ _ _ ⟨rfl, rfl, rfl, rfl, ?_⟩
          show _ = nI (cnF (fun o => s.testBit o) i + if s.testBit i = true then 1 else 0)
          by_cases z : s.testBit i = true
          · rw [if_pos z, if_pos z, nI_1]
          · rw [if_neg z, if_neg z, Int32.add_zero]; rfl
        · have : i = tn (X.1 28 0) := by omega
          subst this
          rw [← pc_small n3 hlt]
          have p10 := pcN_le 10 s
          refine LP7_c5 0 n (fun k v2 v3 v4 v5 v6 M' => M' = M4 ∧ v2 = nI (fwF (fun s => exB M (brX X) s n) s).1 ∧ v3 = nI (fwF (fun s => exB M (brX X) s n) s).2 ∧ v4 = nI s ∧ v5 = nI (pcN 10 s) ∧ v6 = (if exB M (brX X) s k = true then 1 else 0)) rfl (Nat.zero_le _) ⟨rfl, rfl, rfl, rfl, rfl, rfl⟩ ?_
          intro k v2 v3 v4 v5 v6 M5 hk2 _ ⟨e, ev2, ev3, ev4, ev5, ev6⟩ K73 hK73
          subst e ev2 ev3 ev4 ev5
          unfold w_X12_named_73
          rw [hM2, nI_lt' (by omega) (by omega)]
          refine ⟨fun hlt3 => m_isBad (n := n) r2 (by omega) ?_, fun hge3 => ?_⟩
          · rw [eB, tn_nI (n := k) (by omega), f2 155 k (by unfold PN; omega)]
            have es : exB M (brX X) s (k + 1) = (exB M (brX X) s k && (!isB M (brX X) k || !decide ((mi M 155 k &&& nI s) = 0))) := rfl
            by_cases b : isB M (brX X) k = true
            · rw [if_pos b]
              refine ⟨fun z => absurd z (by decide), fun _ => ⟨vp_in_nI (by omega) (by decide), fun z x hx => ?_, fun z x hx => ?_⟩⟩
              · rw [hx, nI_1]
                refine hK73 hlt3 _ _ _ _ _ _ ⟨rfl, rfl, rfl, rfl, rfl, ?_⟩
                rw [es, b, decide_eq_true z]
                simp
              · rw [hx, nI_1]
                refine hK73 hlt3 _ _ _ _ _ _ ⟨rfl, rfl, rfl, rfl, rfl, ?_⟩
                rw [es, b, decide_eq_false z, ev6]
                simp
            · have b' : isB M (brX X) k = false := by simpa using b
              rw [if_neg b]
              refine ⟨fun _ x hx => ?_, fun z => absurd rfl z⟩
              rw [hx, nI_1]
              refine hK73 hlt3 _ _ _ _ _ _ ⟨rfl, rfl, rfl, rfl, rfl, ?_⟩
              rw [es, b', ev6]
              simp
          · have : k = n := by omega
            subst this
            have el := nI_ltI (a := pcN 10 s) (b := (fwF (fun s => exB M (brX X) s k) s).1) (by omega) (by omega)
            rw [nI_lt' (a := (fwF (fun s => exB M (brX X) s k) s).1) (by omega) (by omega)]
            have skip : ¬ (exB M (brX X) s k = true ∧ ¬ (fwF (fun s => exB M (brX X) s k) s).1 < pcN 10 s) → ∀ x : Int32, x = nI s + 1 → K23 (nI (fwF (fun s => exB M (brX X) s k) s).1) (nI (fwF (fun s => exB M (brX X) s k) s).2) x M5 := fun q x hx => by
              rw [hx, nI_1]
              refine hK23 hlt _ _ _ ⟨rfl, ?_, ?_⟩ <;> rw [fw_s, if_neg q]
            by_cases y : exB M (brX X) s k = true
            · rw [if_pos y] at ev6
              rw [ev6]
              refine ⟨fun z => absurd z (by decide), fun _ => ⟨fun z => skip (fun w => w.2 z), fun z x hx w hw => ?_⟩⟩
              rw [hx, hw, nI_1]
              refine hK23 hlt _ _ _ ⟨rfl, ?_, ?_⟩
              · rw [fw_s, if_pos (c := exB M (brX X) s k = true ∧ ¬ (fwF (fun s => exB M (brX X) s k) s).1 < pcN 10 s) ⟨y, z⟩]
              · rw [fw_s, if_pos (c := exB M (brX X) s k = true ∧ ¬ (fwF (fun s => exB M (brX X) s k) s).1 < pcN 10 s) ⟨y, z⟩]
                show _ = nI (if _ then _ else _)
                by_cases zz : pcN 10 s < (fwF (fun s => exB M (brX X) s k) s).1
                · rw [if_pos (el.mpr zz), if_pos zz]
                · rw [if_neg (fun y => zz (el.mp y)), if_neg zz, bit_and]
            · rw [if_neg y] at ev6
              rw [ev6]
              exact ⟨fun _ => skip (fun w => y w.1), fun z => absurd rfl z⟩
      · have : s = 2 ^ tn (X.1 28 0) := by omega
        subst this
        have al2 := (fw_lt (ex := fun s => exB M (brX X) s n) (N := tn (X.1 28 0)) _ (Nat.le_refl _)).1
        generalize (fwF (fun s => exB M (brX X) s n) (2 ^ tn (X.1 28 0))).2 = av at *
        refine LP4_c2 0 (tn (X.1 28 0)) (fun i v3 v4 M' => M' = M3 ∧ v3 = nI av ∧ ∃ seen, seen ≤ i ∧ v4 = nI seen ∧ nmG av p0 (tn (X.1 28 0)) 0 0 = nmG av p0 (tn (X.1 28 0) - i) i seen) rfl (Nat.zero_le _) ⟨rfl, rfl, 0, Nat.le_refl _, rfl, rfl⟩ ?_
        intro i v3 v4 M4 hi _ ⟨e, ev3, seen, hse, ev4, hf⟩ K hK
        subst e ev3 ev4
        unfold w_X12_named_158
        rw [h28, nI_lt' (by omega) (by omega)]
        refine ⟨fun hlt2 => ?_, fun hge2 => ⟨?_, t, X, r2⟩⟩
        · have ns : nmG av p0 (tn (X.1 28 0) - i) i seen = if av.testBit i = true then (if nI seen = p0 then nI i else nmG av p0 (tn (X.1 28 0) - (i + 1)) (i + 1) (seen + 1)) else nmG av p0 (tn (X.1 28 0) - (i + 1)) (i + 1) seen := by
            rw [show tn (X.1 28 0) - i = (tn (X.1 28 0) - (i + 1)) + 1 by omega, nm_s]
          rw [sh_bit (by omega) (by omega)]
          by_cases tb : av.testBit i = true
          · rw [if_pos tb] at ns ⊢
            refine ⟨fun z => absurd z (by decide), fun _ => ⟨fun c3 => ⟨?_, t, X, r2⟩, fun c3 x hx y hy => ?_⟩⟩
            · rw [ea, hf, ns, if_pos c3]
            · rw [hx, hy, nI_1, nI_1]
              exact hK hlt2 _ _ _ ⟨rfl, rfl, seen + 1, by omega, rfl, by rw [hf, ns, if_neg c3]⟩
          · rw [if_neg tb] at ns ⊢
            refine ⟨fun _ x hx => ?_, fun z => absurd rfl z⟩
            rw [hx, nI_1]
            exact hK hlt2 _ _ _ ⟨rfl, rfl, seen, by omega, rfl, by rw [hf, ns]⟩
        · have : i = tn (X.1 28 0) := by omega
          subst this
          rw [ea, hf, Nat.sub_self]; rfl
  -- the class
  generalize (if cnF (isB M (brX X)) n < 2 then 0 else (fwF (fun s => exB M (brX X) s n) (2 ^ tn (X.1 28 0))).2) = av at *
  have cut := nm_cut (i := p0) al (tn (X.1 28 0)) (10 - tn (X.1 28 0)) 0 0 (by omega)
  rw [show tn (X.1 28 0) + (10 - tn (X.1 28 0)) = 10 by omega] at cut
  rw [← cut] at ref
  refine LP4_c2 0 10 (fun i v2 v3 M' => M' = M1 ∧ v2 = nI av ∧ ∃ seen, seen ≤ i ∧ v3 = nI seen ∧ nmG av p0 10 0 0 = nmG av p0 (10 - i) i seen) rfl (Nat.zero_le _) ⟨rfl, rfl, 0, Nat.le_refl _, rfl, rfl⟩ ?_
  intro i v2 v3 M2 hi _ ⟨e, ev2, seen, hse, ev3, hf⟩ K hK
  subst e ev2 ev3
  unfold w_X11_named_20
  rw [show (10 : Int32) = nI 10 from rfl, nI_lt' (by omega) (by omega)]
  refine ⟨fun hlt => ?_, fun hge => ref _ ?_⟩
  · have ns : nmG av p0 (10 - i) i seen = if av.testBit i = true then (if nI seen = p0 then nI i else nmG av p0 (10 - (i + 1)) (i + 1) (seen + 1)) else nmG av p0 (10 - (i + 1)) (i + 1) seen := by
      rw [show 10 - i = (10 - (i + 1)) + 1 by omega, nm_s]
    rw [sh_bit (by omega) (by omega)]
    by_cases tb : av.testBit i = true
    · rw [if_pos tb] at ns ⊢
      refine ⟨fun _ => ⟨fun c3 => ref _ ?_, fun c3 x hx y hy => ?_⟩, fun z => absurd rfl z⟩
      · rw [hf, ns, if_pos c3]
      · rw [hx, hy, nI_1, nI_1]
        exact hK hlt _ _ _ ⟨rfl, rfl, seen + 1, by omega, rfl, by rw [hf, ns, if_neg c3]⟩
    · rw [if_neg tb] at ns ⊢
      refine ⟨fun z => absurd z (by decide), fun _ x hx => ?_⟩
      rw [hx, nI_1]
      exact hK hlt _ _ _ ⟨rfl, rfl, seen, by omega, rfl, by rw [hf, ns]⟩
  · have : i = 10 := by omega
    subst this
    rw [hf]; rfl
end NAM
