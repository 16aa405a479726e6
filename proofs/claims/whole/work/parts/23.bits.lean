-- LEVEL 3, part 7: counting bits
theorem nI_and (a b : Nat) : nI a &&& nI b = nI (a &&& b) := by
  apply Int32.toBitVec_inj.mp
  show BitVec.ofNat 32 a &&& BitVec.ofNat 32 b = BitVec.ofNat 32 (a &&& b)
  apply BitVec.eq_of_getLsbD_eq
  intro i hi
  simp only [BitVec.getLsbD_and, BitVec.getLsbD_ofNat, Nat.testBit_and]
  cases h : decide (i < 32) <;> simp
theorem and_256 {x a y z : Nat} (hy : y < 256) (hz : z < 256) : (256 * x + y) &&& (256 * a + z) = 256 * (x &&& a) + (y &&& z) := by
  have hyz : y &&& z < 256 := Nat.lt_of_le_of_lt Nat.and_le_left hy
  apply Nat.eq_of_testBit_eq
  intro i
  rw [Nat.testBit_and]
  have e : (256 : Nat) = 2 ^ 8 := rfl
  rw [e] at hy hz hyz ⊢
  rw [Nat.testBit_two_pow_mul_add _ hy, Nat.testBit_two_pow_mul_add _ hz, Nat.testBit_two_pow_mul_add _ hyz]
  by_cases h : i < 8
  · rw [if_pos h, if_pos h, if_pos h, Nat.testBit_and]
  · rw [if_neg h, if_neg h, if_neg h, Nat.testBit_and]
def b1N (a m : Nat) : Nat := m - (m / 2 &&& a)
def b2N (a b m : Nat) : Nat := (b1N a m &&& b) + (b1N a m / 4 &&& b)
theorem by1 : ∀ r, r < 256 → ∀ c, c < 2 → ((128 * c + r / 2) &&& 85) = (r / 2 &&& 85) ∧ (r / 2 &&& 85) ≤ r ∧ r - (r / 2 &&& 85) < 256 := by decide +kernel
theorem by2 : ∀ r, r < 256 → ∀ c, c < 4 → ((64 * c + r / 4) &&& 51) = (r / 4 &&& 51) := by decide +kernel
theorem b1N_256 {a q r : Nat} (hr : r < 256) : b1N (256 * a + 85) (256 * q + r) = 256 * b1N a q + b1N 85 r := by
  have h := by1 r hr (q % 2) (Nat.mod_lt _ (by decide))
  unfold b1N
  have e : (256 * q + r) / 2 = 256 * (q / 2) + (128 * (q % 2) + r / 2) := by omega
  rw [e, and_256 (by omega) (by decide), h.1]
  have h2 : (q / 2 &&& a) ≤ q := Nat.le_trans Nat.and_le_left (Nat.div_le_self _ _)
  have h3 := h.2.1
  omega
theorem b2N_256 {a b q r : Nat} (hr : r < 256) : b2N (256 * a + 85) (256 * b + 51) (256 * q + r) = 256 * b2N a b q + b2N 85 51 r := by
  unfold b2N
  rw [b1N_256 hr]
  have hr1 : b1N 85 r < 256 := (by1 r hr 0 (by decide)).2.2
  generalize b1N 85 r = R at *
  generalize b1N a q = Q at *
  have e : (256 * Q + R) / 4 = 256 * (Q / 4) + (64 * (Q % 4) + R / 4) := by omega
  rw [e, and_256 hr1 (by decide), and_256 (by omega) (by decide), by2 R hr1 (Q % 4) (Nat.mod_lt _ (by decide))]
  omega
def pcN : Nat → Nat → Nat
  | 0, _ => 0
  | n + 1, m => m % 2 + pcN n (m / 2)
theorem by3 : ∀ r, r < 256 → b2N 85 51 r / 16 ≤ 4 ∧ b2N 85 51 r % 16 ≤ 4 ∧ b2N 85 51 r / 16 + b2N 85 51 r % 16 = pcN 8 r := by decide +kernel
theorem pcN_add : ∀ k n m, pcN (k + n) m = pcN k m + pcN n (m / 2 ^ k) := by
  intro k
  induction k with
  | zero => intro n m; rw [Nat.zero_add, Nat.pow_zero, Nat.div_one]; show _ = 0 + _; rw [Nat.zero_add]
  | succ k ih =>
    intro n m
    rw [show k + 1 + n = (k + n) + 1 from by omega]
    show m % 2 + pcN (k + n) (m / 2) = (m % 2 + pcN k (m / 2)) + _
    rw [ih, Nat.div_div_eq_div_mul, ← Nat.pow_succ', Nat.add_assoc]
theorem pcN_mod : ∀ k j m, k ≤ j → pcN k (m % 2 ^ j) = pcN k m := by
  intro k
  induction k with
  | zero => intro j m _; rfl
  | succ k ih =>
    intro j m hj
    obtain ⟨i, rfl⟩ : ∃ i, j = i + 1 := ⟨j - 1, by omega⟩
    show m % 2 ^ (i + 1) % 2 + pcN k (m % 2 ^ (i + 1) / 2) = m % 2 + pcN k (m / 2)
    have e1 : m % 2 ^ (i + 1) % 2 = m % 2 := Nat.mod_mod_of_dvd m ⟨2 ^ i, by rw [Nat.pow_succ, Nat.mul_comm]⟩
    have e2 : m % 2 ^ (i + 1) / 2 = m / 2 % 2 ^ i := by
      rw [Nat.pow_succ, Nat.mul_comm, Nat.mod_mul_right_div_self]
    rw [e1, e2, ih i (m / 2) (by omega)]
def f5N (y : Nat) : Nat := (y + y / 256 + (y + y / 256) / 65536) &&& 63
def b5N (m : Nat) : Nat := f5N ((b2N 1431655765 858993459 m + b2N 1431655765 858993459 m / 16) &&& 252645135)
theorem b5N_eq {m : Nat} (hm : m < 2 ^ 32) : b5N m = pcN 32 m := by
  obtain ⟨q, r0, rfl, h0⟩ : ∃ q r, m = 256 * q + r ∧ r < 256 := ⟨m / 256, m % 256, by omega, by omega⟩
  obtain ⟨q2, r1, rfl, h1⟩ : ∃ q2 r, q = 256 * q2 + r ∧ r < 256 := ⟨q / 256, q % 256, by omega, by omega⟩
  obtain ⟨r3, r2, rfl, h2⟩ : ∃ q3 r, q2 = 256 * q3 + r ∧ r < 256 := ⟨q2 / 256, q2 % 256, by omega, by omega⟩
  have h3 : r3 < 256 := by omega
  have ep : pcN 32 (256 * (256 * (256 * r3 + r2) + r1) + r0) = pcN 8 r0 + pcN 8 r1 + pcN 8 r2 + pcN 8 r3 := by
    have s : ∀ n x y, y < 256 → pcN (8 + n) (256 * x + y) = pcN 8 y + pcN n x := fun n x y hy => by
      rw [pcN_add, ← pcN_mod 8 8 (256 * x + y) (Nat.le_refl _)]
      have e1 : (256 * x + y) % 2 ^ 8 = y := by show (256 * x + y) % 256 = y; omega
      have e2 : (256 * x + y) / 2 ^ 8 = x := by show (256 * x + y) / 256 = x; omega
      rw [e1, e2]
    rw [s 24 _ _ h0, s 16 _ _ h1, s 8 _ _ h2]; omega
  rw [ep]
  unfold b5N
  have e2 : b2N 1431655765 858993459 (256 * (256 * (256 * r3 + r2) + r1) + r0) = 256 * (256 * (256 * b2N 85 51 r3 + b2N 85 51 r2) + b2N 85 51 r1) + b2N 85 51 r0 := by
    rw [show (1431655765 : Nat) = 256 * 5592405 + 85 from rfl, show (858993459 : Nat) = 256 * 3355443 + 51 from rfl, b2N_256 h0,
      show (5592405 : Nat) = 256 * 21845 + 85 from rfl, show (3355443 : Nat) = 256 * 13107 + 51 from rfl, b2N_256 h1,
      show (21845 : Nat) = 256 * 85 + 85 from rfl, show (13107 : Nat) = 256 * 51 + 51 from rfl, b2N_256 h2]
  rw [e2]
  have dig : ∀ r, r < 256 → ∃ h l, b2N 85 51 r = 16 * h + l ∧ h ≤ 4 ∧ l ≤ 4 ∧ pcN 8 r = h + l := fun r hr => by
    obtain ⟨a, c, d⟩ := by3 r hr
    exact ⟨b2N 85 51 r / 16, b2N 85 51 r % 16, by omega, a, c, d.symm⟩
  obtain ⟨g0, l0, z0, a0, c0, d0⟩ := dig r0 h0
  obtain ⟨g1, l1, z1, a1, c1, d1⟩ := dig r1 h1
  obtain ⟨g2, l2, z2, a2, c2, d2⟩ := dig r2 h2
  obtain ⟨g3, l3, z3, a3, c3, d3⟩ := dig r3 h3
  rw [z0, z1, z2, z3, d0, d1, d2, d3]
  clear z0 z1 z2 z3 d0 d1 d2 d3 dig e2 ep hm h0 h1 h2 h3
  have n15 : ∀ x, x < 256 → (x &&& 15) = x % 16 := by decide +kernel
  have s : 256 * (256 * (256 * (16 * g3 + l3) + (16 * g2 + l2)) + (16 * g1 + l1)) + (16 * g0 + l0) + (256 * (256 * (256 * (16 * g3 + l3) + (16 * g2 + l2)) + (16 * g1 + l1)) + (16 * g0 + l0)) / 16 =
      256 * (256 * (256 * (16 * g3 + (l3 + g3)) + (16 * (g2 + l3) + (l2 + g2))) + (16 * (g1 + l2) + (l1 + g1))) + (16 * (g0 + l1) + (l0 + g0)) := by omega
  rw [s, show (252645135 : Nat) = 256 * (256 * (256 * 15 + 15) + 15) + 15 from rfl, and_256 (by omega) (by decide), and_256 (by omega) (by decide), and_256 (by omega) (by decide),
    n15 _ (by omega), n15 _ (by omega), n15 _ (by omega), n15 _ (by omega)]
  have m3 : (16 * g3 + (l3 + g3)) % 16 = l3 + g3 := by omega
  have m2 : (16 * (g2 + l3) + (l2 + g2)) % 16 = l2 + g2 := by omega
  have m1 : (16 * (g1 + l2) + (l1 + g1)) % 16 = l1 + g1 := by omega
  have m0 : (16 * (g0 + l1) + (l0 + g0)) % 16 = l0 + g0 := by omega
  rw [m3, m2, m1, m0]
  have n63 : ∀ x, (x &&& 63) = x % 64 := fun x => Nat.and_two_pow_sub_one_eq_mod x 6
  unfold f5N
  rw [n63]
  have q3 : l3 + g3 ≤ 8 := by omega
  have q2 : l2 + g2 ≤ 8 := by omega
  have q1 : l1 + g1 ≤ 8 := by omega
  have q0 : l0 + g0 ≤ 8 := by omega
  rw [Nat.add_comm g0 l0, Nat.add_comm g1 l1, Nat.add_comm g2 l2, Nat.add_comm g3 l3]
  generalize l3 + g3 = p3 at *
  generalize l2 + g2 = p2 at *
  generalize l1 + g1 = p1 at *
  generalize l0 + g0 = p0 at *
  have w1 : (256 * (256 * (256 * p3 + p2) + p1) + p0) / 256 = 256 * (256 * p3 + p2) + p1 := by omega
  rw [w1]
  have w2 : (256 * (256 * (256 * p3 + p2) + p1) + p0 + (256 * (256 * p3 + p2) + p1)) / 65536 = 256 * p3 + p2 + p3 := by omega
  rw [w2]
  omega
theorem b2N_lt {m : Nat} (hm : m < 2 ^ 32) : b2N 1431655765 858993459 m < 2 ^ 31 := by
  have h1 : (b1N 1431655765 m &&& 858993459) ≤ 858993459 := Nat.and_le_right
  have h2 : (b1N 1431655765 m / 4 &&& 858993459) ≤ 858993459 := Nat.and_le_right
  unfold b2N; omega
theorem bc_nat {m : Nat} (hm : m < 2 ^ 32) : bcF (nI m) = nI (pcN 32 m) := by
  have ush : ∀ (n k : Nat) (s : Int32), n < 2 ^ 32 → ((s.toUInt32 &&& Int32.toUInt32 31).toBitVec % 32).toNat = k → jushr (nI n) s = nI (n / 2 ^ k) := fun n k s hn hs => pk_ushrN hn s k hs
  unfold bcF
  have e1 : nI m - (jushr (nI m) 1 &&& 1431655765) = nI (b1N 1431655765 m) := by
    rw [ush m 1 1 hm rfl, show (1431655765 : Int32) = nI 1431655765 from rfl, nI_and, pk_sub (Nat.le_trans Nat.and_le_left (Nat.div_le_self _ _))]; rfl
  have l1 : b1N 1431655765 m < 2 ^ 32 := Nat.lt_of_le_of_lt (Nat.sub_le _ _) hm
  have e2 : (nI (b1N 1431655765 m) &&& 858993459) + (jushr (nI (b1N 1431655765 m)) 2 &&& 858993459) = nI (b2N 1431655765 858993459 m) := by
    rw [ush _ 2 2 l1 rfl, show (858993459 : Int32) = nI 858993459 from rfl, nI_and, nI_and, nI_add]; rfl
  have l2 := b2N_lt hm
  have e3 : (nI (b2N 1431655765 858993459 m) + jushr (nI (b2N 1431655765 858993459 m)) 4) &&& 252645135 = nI ((b2N 1431655765 858993459 m + b2N 1431655765 858993459 m / 16) &&& 252645135) := by
    rw [ush _ 4 4 (by omega) rfl, show (252645135 : Int32) = nI 252645135 from rfl, nI_add, nI_and]
  have l3 : ((b2N 1431655765 858993459 m + b2N 1431655765 858993459 m / 16) &&& 252645135) ≤ 252645135 := Nat.and_le_right
  rw [← b5N_eq hm]
  simp only [e1, e2, e3]
  unfold b5N f5N
  generalize ((b2N 1431655765 858993459 m + b2N 1431655765 858993459 m / 16) &&& 252645135) = y at *
  rw [ush y 8 8 (by omega) rfl, nI_add, ush _ 16 16 (by omega) rfl, nI_add, show (63 : Int32) = nI 63 from rfl, nI_and]
-- the hungry days of the last thirty
theorem hb_step {f : Nat → Int32} {m b : Nat} {x : Int32} (hm : m < 2 ^ 30) (hb : b < 2) (hx : x = nI b) : (jshl (nI m) 1 ||| x) &&& 1073741823 = nI ((2 * m + b) % 2 ^ 30) := by
  have e1 : jshl (nI m) 1 = nI (m * 2) := by
    unfold jshl
    exact pk_shlN _ 1 rfl (by omega)
  have e2 : nI (m * 2) ||| nI b = nI (2 * m + b) := by
    apply Int32.toBitVec_inj.mp
    show BitVec.ofNat 32 (m * 2) ||| BitVec.ofNat 32 b = BitVec.ofNat 32 (2 * m + b)
    apply BitVec.eq_of_getLsbD_eq
    intro i hi
    simp only [BitVec.getLsbD_or, BitVec.getLsbD_ofNat]
    have h2 : (2 * m + b).testBit i = ((m * 2).testBit i || b.testBit i) := by
      rw [← Nat.testBit_or]
      congr 1
      have := Nat.two_pow_add_eq_or_of_lt (i := 1) (b := b) (by omega) m
      rw [Nat.pow_one] at this
      rw [this, Nat.mul_comm]
    rw [h2]
    cases decide (i < 32) <;> simp
  rw [e1, hx, e2, show (1073741823 : Int32) = nI 1073741823 from rfl, nI_and]
  exact congrArg nI (Nat.and_two_pow_sub_one_eq_mod _ 30)
def hbN (f : Nat → Nat) : Nat → Nat
  | 0 => 0
  | d + 1 => (2 * hbN f d + f (d + 1)) % 2 ^ 30
theorem hbN_lt {f : Nat → Nat} : ∀ d, hbN f d < 2 ^ 30 := by
  intro d
  cases d with
  | zero => show 0 < 2 ^ 30; decide
  | succ d => exact Nat.mod_lt _ (by decide)
theorem hbF_N {f : Nat → Int32} {g : Nat → Nat} : ∀ t, (∀ d, 1 ≤ d → d ≤ t → f d = nI (g d) ∧ g d < 2) → hbF f t = nI (hbN g t) := by
  intro t
  induction t with
  | zero => intro _; rfl
  | succ t ih =>
    intro h
    unfold hbF hbN
    rw [ih (fun d h1 h2 => h d h1 (by omega))]
    exact hb_step (f := f) (hbN_lt t) (h (t + 1) (by omega) (Nat.le_refl _)).2 (h (t + 1) (by omega) (Nat.le_refl _)).1
def smN (f : Nat → Nat) : Nat → Nat
  | 0 => 0
  | n + 1 => smN f n + f n
theorem hb_count {f : Nat → Nat} : ∀ t, (∀ d, 1 ≤ d → d ≤ t → f d < 2) → ∀ j, j ≤ 30 → pcN j (hbN f t) + smN f (max 1 (t + 1 - j)) = smN f (t + 1) := by
  intro t
  induction t with
  | zero =>
    intro _ j _
    have z : ∀ j, pcN j 0 = 0 := by
      intro j
      induction j with
      | zero => rfl
      | succ j ih => show 0 % 2 + pcN j (0 / 2) = 0; rw [Nat.zero_div, ih]
    show pcN j 0 + smN f (max 1 (1 - j)) = smN f 1
    rw [z, Nat.zero_add, Nat.max_eq_left (by omega)]
  | succ t ih =>
    intro h j hj
    cases j with
    | zero => show 0 + smN f (max 1 (t + 1 + 1)) = _; rw [Nat.zero_add, Nat.max_eq_right (by omega)]
    | succ j =>
      have hf := h (t + 1) (by omega) (Nat.le_refl _)
      have e : pcN (j + 1) (hbN f (t + 1)) = f (t + 1) + pcN j (hbN f t) := by
        show hbN f (t + 1) % 2 + pcN j (hbN f (t + 1) / 2) = _
        have e1 : hbN f (t + 1) = (2 * hbN f t + f (t + 1)) % 2 ^ 30 := rfl
        have e2 : hbN f (t + 1) % 2 = f (t + 1) := by rw [e1]; omega
        have e3 : hbN f (t + 1) / 2 = hbN f t % 2 ^ 29 := by rw [e1]; omega
        rw [e2, e3, pcN_mod j 29 _ (by omega)]
      have i := ih (fun d h1 h2 => h d h1 (by omega)) j (by omega)
      rw [e, show t + 1 + 1 - (j + 1) = t + 1 - j from by omega]
      show _ = smN f (t + 1) + f (t + 1)
      omega
theorem hb_all {f : Nat → Int32} {g : Nat → Nat} {t : Nat} (h : ∀ d, 1 ≤ d → d ≤ t → f d = nI (g d) ∧ g d < 2) : bcF (hbF f t) = nI (smN g (t + 1) - smN g (max 1 (t - 29))) := by
  have hl := hbN_lt (f := g) t
  rw [hbF_N t h, bc_nat (by omega)]
  have h1 := hb_count t (fun d a b => (h d a b).2) 30 (Nat.le_refl _)
  have h2 : pcN 32 (hbN g t) = pcN 30 (hbN g t) := by
    have z : pcN 2 0 = 0 := rfl
    rw [show 32 = 30 + 2 from rfl, pcN_add, Nat.div_eq_of_lt hl, z, Nat.add_zero]
  rw [h2, show t - 29 = t + 1 - 30 from by omega]
  exact congrArg nI (by omega)
-- a set of owners
theorem pc_bits : ∀ n m, m < 2 ^ n → ∀ p : Nat → Bool, (∀ i, i < n → p i = m.testBit i) → pcN n m = cnF p n := by
  intro n
  induction n with
  | zero => intro m _ p _; rfl
  | succ n ih =>
    intro m hm p hp
    rw [pcN_add n 1 m]
    have e1 : pcN n m = cnF p n := by
      rw [← pcN_mod n n m (Nat.le_refl _)]
      refine ih (m % 2 ^ n) (Nat.mod_lt _ (Nat.two_pow_pos n)) p (fun i hi => ?_)
      rw [hp i (by omega), Nat.testBit_mod_two_pow]
      simp [hi]
    have e2 : pcN 1 (m / 2 ^ n) = if p n then 1 else 0 := by
      show m / 2 ^ n % 2 + 0 = _
      rw [hp n (by omega), Nat.add_zero, Nat.testBit_eq_decide_div_mod_eq]
      have : m / 2 ^ n % 2 < 2 := Nat.mod_lt _ (by decide)
      by_cases q : m / 2 ^ n % 2 = 1
      · rw [q]; rfl
      · have : m / 2 ^ n % 2 = 0 := by omega
        rw [this]; rfl
    rw [e1, e2]; rfl
