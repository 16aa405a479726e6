-- LEVEL 3, part 1: loops by a counter, the views of a world, frames (by program: wip/whole/l3/base18.py)
theorem andIte {c : Prop} [Decidable c] {A B : Prop} : ((c → A) ∧ (¬ c → B)) ↔ (if c then A else B) := by
  by_cases h : c
  · rw [if_pos h]; exact ⟨fun q => q.1 h, fun q => ⟨fun _ => q, fun n => absurd h n⟩⟩
  · rw [if_neg h]; exact ⟨fun q => q.2 h, fun q => ⟨fun n => absurd n h, fun _ => q⟩⟩
theorem mi_si {M : Mem} {a k b j : Nat} {x : Int32} : mi (si M a k x) b j = if b = a ∧ j = k then x else mi M b j := rfl
theorem mi_sq {M : Mem} {a k b j : Nat} {x : Option Nat} : mi (sq M a k x) b j = mi M b j := rfl
theorem mi_sl {M : Mem} {a k b j : Nat} {x : Int64} : mi (sl M a k x) b j = mi M b j := rfl
theorem mp_si {M : Mem} {a k b j : Nat} {x : Int32} : mp (si M a k x) b j = mp M b j := rfl
theorem mp_sl {M : Mem} {a k b j : Nat} {x : Int64} : mp (sl M a k x) b j = mp M b j := rfl
theorem mp_sq {M : Mem} {a k b j : Nat} {x : Option Nat} : mp (sq M a k x) b j = if b = a ∧ j = k then x else mp M b j := rfl
theorem ml_si {M : Mem} {a k b j : Nat} {x : Int32} : ml (si M a k x) b j = ml M b j := rfl
theorem ml_sq {M : Mem} {a k b j : Nat} {x : Option Nat} : ml (sq M a k x) b j = ml M b j := rfl
theorem ml_sl {M : Mem} {a k b j : Nat} {x : Int64} : ml (sl M a k x) b j = if b = a ∧ j = k then x else ml M b j := rfl
theorem tn_nI {n : Nat} (h : n < 2 ^ 31) : tn (nI n) = n := nI_clamp h
theorem tn_lt {x : Int32} {n : Nat} (h : vp_in x n) : tn x < n := vp_lt h
theorem nI_tn {x : Int32} (h : ¬ x < 0) : nI (tn x) = x := by
  obtain ⟨j, hj, rfl⟩ := nI_of h
  rw [tn_nI hj]
theorem LP1_c0  {body : (Int32 → Prop) → Int32 → Prop}  {v : Int32} (i0 n : Nat) (P : Nat → Prop) (hv : v = nI i0) (hle : i0 ≤ n) (h0 : P i0 )
  (hs : ∀ (i : Nat) , i ≤ n → i0 ≤ i → P i  → ∀ K : Int32 → Prop, (i < n → P (i + 1)  → K (nI (i + 1))) → body K (nI i)) : LP1 body v :=
  ⟨fun m v => ∃ i : Nat, i ≤ n ∧ i0 ≤ i ∧ v = nI i ∧ m = n - i ∧ P i , n - i0, ⟨i0, hle, Nat.le_refl _, hv, rfl, h0⟩, fun m v h => by
    obtain ⟨i, hi, h5, rfl, rfl, hp⟩ := h
    exact hs i  hi h5 hp _ (fun hlt  hp2 => ⟨n - (i + 1), by omega, i + 1, hlt, by omega, rfl, rfl, hp2⟩)⟩
theorem LP1_m {A0 : Type} {body : (A0 → Prop) → A0 → Prop} {a0 : A0} (I : Nat → A0 → Prop) (n : Nat) (h0 : I n a0)
  (hs : ∀ (n : Nat) (a0 : A0), I n a0 → ∀ K : A0 → Prop, (∀ m : Nat, m < n → ∀ (b0 : A0), I m b0 → K b0) → body K a0) : LP1 body a0 :=
  ⟨I, n, h0, fun n a0 h => hs n a0 h _ (fun m hm b0 hb => ⟨m, hm, hb⟩)⟩
theorem LP2_c0 {A1 : Type} {body : (Int32 → A1 → Prop) → Int32 → A1 → Prop} {a1 : A1} {v : Int32} (i0 n : Nat) (P : Nat → A1 → Prop) (hv : v = nI i0) (hle : i0 ≤ n) (h0 : P i0 a1)
  (hs : ∀ (i : Nat) (a1 : A1), i ≤ n → i0 ≤ i → P i a1 → ∀ K : Int32 → A1 → Prop, (i < n → ∀ (b1 : A1), P (i + 1) b1 → K (nI (i + 1)) b1) → body K (nI i) a1) : LP2 body v a1 :=
  ⟨fun m v a1 => ∃ i : Nat, i ≤ n ∧ i0 ≤ i ∧ v = nI i ∧ m = n - i ∧ P i a1, n - i0, ⟨i0, hle, Nat.le_refl _, hv, rfl, h0⟩, fun m v a1 h => by
    obtain ⟨i, hi, h5, rfl, rfl, hp⟩ := h
    exact hs i a1 hi h5 hp _ (fun hlt b1 hp2 => ⟨n - (i + 1), by omega, i + 1, hlt, by omega, rfl, rfl, hp2⟩)⟩
theorem LP2_c1 {A0 : Type} {body : (A0 → Int32 → Prop) → A0 → Int32 → Prop} {a0 : A0} {v : Int32} (i0 n : Nat) (P : Nat → A0 → Prop) (hv : v = nI i0) (hle : i0 ≤ n) (h0 : P i0 a0)
  (hs : ∀ (i : Nat) (a0 : A0), i ≤ n → i0 ≤ i → P i a0 → ∀ K : A0 → Int32 → Prop, (i < n → ∀ (b0 : A0), P (i + 1) b0 → K b0 (nI (i + 1))) → body K a0 (nI i)) : LP2 body a0 v :=
  ⟨fun m a0 v => ∃ i : Nat, i ≤ n ∧ i0 ≤ i ∧ v = nI i ∧ m = n - i ∧ P i a0, n - i0, ⟨i0, hle, Nat.le_refl _, hv, rfl, h0⟩, fun m a0 v h => by
    obtain ⟨i, hi, h5, rfl, rfl, hp⟩ := h
    exact hs i a0 hi h5 hp _ (fun hlt b0 hp2 => ⟨n - (i + 1), by omega, i + 1, hlt, by omega, rfl, rfl, hp2⟩)⟩
theorem LP2_m {A0 : Type} {A1 : Type} {body : (A0 → A1 → Prop) → A0 → A1 → Prop} {a0 : A0} {a1 : A1} (I : Nat → A0 → A1 → Prop) (n : Nat) (h0 : I n a0 a1)
  (hs : ∀ (n : Nat) (a0 : A0) (a1 : A1), I n a0 a1 → ∀ K : A0 → A1 → Prop, (∀ m : Nat, m < n → ∀ (b0 : A0) (b1 : A1), I m b0 b1 → K b0 b1) → body K a0 a1) : LP2 body a0 a1 :=
  ⟨I, n, h0, fun n a0 a1 h => hs n a0 a1 h _ (fun m hm b0 b1 hb => ⟨m, hm, hb⟩)⟩
theorem LP3_c0 {A1 : Type} {A2 : Type} {body : (Int32 → A1 → A2 → Prop) → Int32 → A1 → A2 → Prop} {a1 : A1} {a2 : A2} {v : Int32} (i0 n : Nat) (P : Nat → A1 → A2 → Prop) (hv : v = nI i0) (hle : i0 ≤ n) (h0 : P i0 a1 a2)
  (hs : ∀ (i : Nat) (a1 : A1) (a2 : A2), i ≤ n → i0 ≤ i → P i a1 a2 → ∀ K : Int32 → A1 → A2 → Prop, (i < n → ∀ (b1 : A1) (b2 : A2), P (i + 1) b1 b2 → K (nI (i + 1)) b1 b2) → body K (nI i) a1 a2) : LP3 body v a1 a2 :=
  ⟨fun m v a1 a2 => ∃ i : Nat, i ≤ n ∧ i0 ≤ i ∧ v = nI i ∧ m = n - i ∧ P i a1 a2, n - i0, ⟨i0, hle, Nat.le_refl _, hv, rfl, h0⟩, fun m v a1 a2 h => by
    obtain ⟨i, hi, h5, rfl, rfl, hp⟩ := h
    exact hs i a1 a2 hi h5 hp _ (fun hlt b1 b2 hp2 => ⟨n - (i + 1), by omega, i + 1, hlt, by omega, rfl, rfl, hp2⟩)⟩
theorem LP3_c1 {A0 : Type} {A2 : Type} {body : (A0 → Int32 → A2 → Prop) → A0 → Int32 → A2 → Prop} {a0 : A0} {a2 : A2} {v : Int32} (i0 n : Nat) (P : Nat → A0 → A2 → Prop) (hv : v = nI i0) (hle : i0 ≤ n) (h0 : P i0 a0 a2)
  (hs : ∀ (i : Nat) (a0 : A0) (a2 : A2), i ≤ n → i0 ≤ i → P i a0 a2 → ∀ K : A0 → Int32 → A2 → Prop, (i < n → ∀ (b0 : A0) (b2 : A2), P (i + 1) b0 b2 → K b0 (nI (i + 1)) b2) → body K a0 (nI i) a2) : LP3 body a0 v a2 :=
  ⟨fun m a0 v a2 => ∃ i : Nat, i ≤ n ∧ i0 ≤ i ∧ v = nI i ∧ m = n - i ∧ P i a0 a2, n - i0, ⟨i0, hle, Nat.le_refl _, hv, rfl, h0⟩, fun m a0 v a2 h => by
    obtain ⟨i, hi, h5, rfl, rfl, hp⟩ := h
    exact hs i a0 a2 hi h5 hp _ (fun hlt b0 b2 hp2 => ⟨n - (i + 1), by omega, i + 1, hlt, by omega, rfl, rfl, hp2⟩)⟩
theorem LP3_c2 {A0 : Type} {A1 : Type} {body : (A0 → A1 → Int32 → Prop) → A0 → A1 → Int32 → Prop} {a0 : A0} {a1 : A1} {v : Int32} (i0 n : Nat) (P : Nat → A0 → A1 → Prop) (hv : v = nI i0) (hle : i0 ≤ n) (h0 : P i0 a0 a1)
  (hs : ∀ (i : Nat) (a0 : A0) (a1 : A1), i ≤ n → i0 ≤ i → P i a0 a1 → ∀ K : A0 → A1 → Int32 → Prop, (i < n → ∀ (b0 : A0) (b1 : A1), P (i + 1) b0 b1 → K b0 b1 (nI (i + 1))) → body K a0 a1 (nI i)) : LP3 body a0 a1 v :=
  ⟨fun m a0 a1 v => ∃ i : Nat, i ≤ n ∧ i0 ≤ i ∧ v = nI i ∧ m = n - i ∧ P i a0 a1, n - i0, ⟨i0, hle, Nat.le_refl _, hv, rfl, h0⟩, fun m a0 a1 v h => by
    obtain ⟨i, hi, h5, rfl, rfl, hp⟩ := h
    exact hs i a0 a1 hi h5 hp _ (fun hlt b0 b1 hp2 => ⟨n - (i + 1), by omega, i + 1, hlt, by omega, rfl, rfl, hp2⟩)⟩
theorem LP3_m {A0 : Type} {A1 : Type} {A2 : Type} {body : (A0 → A1 → A2 → Prop) → A0 → A1 → A2 → Prop} {a0 : A0} {a1 : A1} {a2 : A2} (I : Nat → A0 → A1 → A2 → Prop) (n : Nat) (h0 : I n a0 a1 a2)
  (hs : ∀ (n : Nat) (a0 : A0) (a1 : A1) (a2 : A2), I n a0 a1 a2 → ∀ K : A0 → A1 → A2 → Prop, (∀ m : Nat, m < n → ∀ (b0 : A0) (b1 : A1) (b2 : A2), I m b0 b1 b2 → K b0 b1 b2) → body K a0 a1 a2) : LP3 body a0 a1 a2 :=
  ⟨I, n, h0, fun n a0 a1 a2 h => hs n a0 a1 a2 h _ (fun m hm b0 b1 b2 hb => ⟨m, hm, hb⟩)⟩
theorem LP4_c0 {A1 : Type} {A2 : Type} {A3 : Type} {body : (Int32 → A1 → A2 → A3 → Prop) → Int32 → A1 → A2 → A3 → Prop} {a1 : A1} {a2 : A2} {a3 : A3} {v : Int32} (i0 n : Nat) (P : Nat → A1 → A2 → A3 → Prop) (hv : v = nI i0) (hle : i0 ≤ n) (h0 : P i0 a1 a2 a3)
  (hs : ∀ (i : Nat) (a1 : A1) (a2 : A2) (a3 : A3), i ≤ n → i0 ≤ i → P i a1 a2 a3 → ∀ K : Int32 → A1 → A2 → A3 → Prop, (i < n → ∀ (b1 : A1) (b2 : A2) (b3 : A3), P (i + 1) b1 b2 b3 → K (nI (i + 1)) b1 b2 b3) → body K (nI i) a1 a2 a3) : LP4 body v a1 a2 a3 :=
  ⟨fun m v a1 a2 a3 => ∃ i : Nat, i ≤ n ∧ i0 ≤ i ∧ v = nI i ∧ m = n - i ∧ P i a1 a2 a3, n - i0, ⟨i0, hle, Nat.le_refl _, hv, rfl, h0⟩, fun m v a1 a2 a3 h => by
    obtain ⟨i, hi, h5, rfl, rfl, hp⟩ := h
    exact hs i a1 a2 a3 hi h5 hp _ (fun hlt b1 b2 b3 hp2 => ⟨n - (i + 1), by omega, i + 1, hlt, by omega, rfl, rfl, hp2⟩)⟩
theorem LP4_c1 {A0 : Type} {A2 : Type} {A3 : Type} {body : (A0 → Int32 → A2 → A3 → Prop) → A0 → Int32 → A2 → A3 → Prop} {a0 : A0} {a2 : A2} {a3 : A3} {v : Int32} (i0 n : Nat) (P : Nat → A0 → A2 → A3 → Prop) (hv : v = nI i0) (hle : i0 ≤ n) (h0 : P i0 a0 a2 a3)
  (hs : ∀ (i : Nat) (a0 : A0) (a2 : A2) (a3 : A3), i ≤ n → i0 ≤ i → P i a0 a2 a3 → ∀ K : A0 → Int32 → A2 → A3 → Prop, (i < n → ∀ (b0 : A0) (b2 : A2) (b3 : A3), P (i + 1) b0 b2 b3 → K b0 (nI (i + 1)) b2 b3) → body K a0 (nI i) a2 a3) : LP4 body a0 v a2 a3 :=
  ⟨fun m a0 v a2 a3 => ∃ i : Nat, i ≤ n ∧ i0 ≤ i ∧ v = nI i ∧ m = n - i ∧ P i a0 a2 a3, n - i0, ⟨i0, hle, Nat.le_refl _, hv, rfl, h0⟩, fun m a0 v a2 a3 h => by
    obtain ⟨i, hi, h5, rfl, rfl, hp⟩ := h
    exact hs i a0 a2 a3 hi h5 hp _ (fun hlt b0 b2 b3 hp2 => ⟨n - (i + 1), by omega, i + 1, hlt, by omega, rfl, rfl, hp2⟩)⟩
theorem LP4_c2 {A0 : Type} {A1 : Type} {A3 : Type} {body : (A0 → A1 → Int32 → A3 → Prop) → A0 → A1 → Int32 → A3 → Prop} {a0 : A0} {a1 : A1} {a3 : A3} {v : Int32} (i0 n : Nat) (P : Nat → A0 → A1 → A3 → Prop) (hv : v = nI i0) (hle : i0 ≤ n) (h0 : P i0 a0 a1 a3)
  (hs : ∀ (i : Nat) (a0 : A0) (a1 : A1) (a3 : A3), i ≤ n → i0 ≤ i → P i a0 a1 a3 → ∀ K : A0 → A1 → Int32 → A3 → Prop, (i < n → ∀ (b0 : A0) (b1 : A1) (b3 : A3), P (i + 1) b0 b1 b3 → K b0 b1 (nI (i + 1)) b3) → body K a0 a1 (nI i) a3) : LP4 body a0 a1 v a3 :=
  ⟨fun m a0 a1 v a3 => ∃ i : Nat, i ≤ n ∧ i0 ≤ i ∧ v = nI i ∧ m = n - i ∧ P i a0 a1 a3, n - i0, ⟨i0, hle, Nat.le_refl _, hv, rfl, h0⟩, fun m a0 a1 v a3 h => by
    obtain ⟨i, hi, h5, rfl, rfl, hp⟩ := h
    exact hs i a0 a1 a3 hi h5 hp _ (fun hlt b0 b1 b3 hp2 => ⟨n - (i + 1), by omega, i + 1, hlt, by omega, rfl, rfl, hp2⟩)⟩
theorem LP4_c3 {A0 : Type} {A1 : Type} {A2 : Type} {body : (A0 → A1 → A2 → Int32 → Prop) → A0 → A1 → A2 → Int32 → Prop} {a0 : A0} {a1 : A1} {a2 : A2} {v : Int32} (i0 n : Nat) (P : Nat → A0 → A1 → A2 → Prop) (hv : v = nI i0) (hle : i0 ≤ n) (h0 : P i0 a0 a1 a2)
  (hs : ∀ (i : Nat) (a0 : A0) (a1 : A1) (a2 : A2), i ≤ n → i0 ≤ i → P i a0 a1 a2 → ∀ K : A0 → A1 → A2 → Int32 → Prop, (i < n → ∀ (b0 : A0) (b1 : A1) (b2 : A2), P (i + 1) b0 b1 b2 → K b0 b1 b2 (nI (i + 1))) → body K a0 a1 a2 (nI i)) : LP4 body a0 a1 a2 v :=
  ⟨fun m a0 a1 a2 v => ∃ i : Nat, i ≤ n ∧ i0 ≤ i ∧ v = nI i ∧ m = n - i ∧ P i a0 a1 a2, n - i0, ⟨i0, hle, Nat.le_refl _, hv, rfl, h0⟩, fun m a0 a1 a2 v h => by
    obtain ⟨i, hi, h5, rfl, rfl, hp⟩ := h
    exact hs i a0 a1 a2 hi h5 hp _ (fun hlt b0 b1 b2 hp2 => ⟨n - (i + 1), by omega, i + 1, hlt, by omega, rfl, rfl, hp2⟩)⟩
theorem LP4_m {A0 : Type} {A1 : Type} {A2 : Type} {A3 : Type} {body : (A0 → A1 → A2 → A3 → Prop) → A0 → A1 → A2 → A3 → Prop} {a0 : A0} {a1 : A1} {a2 : A2} {a3 : A3} (I : Nat → A0 → A1 → A2 → A3 → Prop) (n : Nat) (h0 : I n a0 a1 a2 a3)
  (hs : ∀ (n : Nat) (a0 : A0) (a1 : A1) (a2 : A2) (a3 : A3), I n a0 a1 a2 a3 → ∀ K : A0 → A1 → A2 → A3 → Prop, (∀ m : Nat, m < n → ∀ (b0 : A0) (b1 : A1) (b2 : A2) (b3 : A3), I m b0 b1 b2 b3 → K b0 b1 b2 b3) → body K a0 a1 a2 a3) : LP4 body a0 a1 a2 a3 :=
  ⟨I, n, h0, fun n a0 a1 a2 a3 h => hs n a0 a1 a2 a3 h _ (fun m hm b0 b1 b2 b3 hb => ⟨m, hm, hb⟩)⟩
theorem LP5_c0 {A1 : Type} {A2 : Type} {A3 : Type} {A4 : Type} {body : (Int32 → A1 → A2 → A3 → A4 → Prop) → Int32 → A1 → A2 → A3 → A4 → Prop} {a1 : A1} {a2 : A2} {a3 : A3} {a4 : A4} {v : Int32} (i0 n : Nat) (P : Nat → A1 → A2 → A3 → A4 → Prop) (hv : v = nI i0) (hle : i0 ≤ n) (h0 : P i0 a1 a2 a3 a4)
  (hs : ∀ (i : Nat) (a1 : A1) (a2 : A2) (a3 : A3) (a4 : A4), i ≤ n → i0 ≤ i → P i a1 a2 a3 a4 → ∀ K : Int32 → A1 → A2 → A3 → A4 → Prop, (i < n → ∀ (b1 : A1) (b2 : A2) (b3 : A3) (b4 : A4), P (i + 1) b1 b2 b3 b4 → K (nI (i + 1)) b1 b2 b3 b4) → body K (nI i) a1 a2 a3 a4) : LP5 body v a1 a2 a3 a4 :=
  ⟨fun m v a1 a2 a3 a4 => ∃ i : Nat, i ≤ n ∧ i0 ≤ i ∧ v = nI i ∧ m = n - i ∧ P i a1 a2 a3 a4, n - i0, ⟨i0, hle, Nat.le_refl _, hv, rfl, h0⟩, fun m v a1 a2 a3 a4 h => by
    obtain ⟨i, hi, h5, rfl, rfl, hp⟩ := h
    exact hs i a1 a2 a3 a4 hi h5 hp _ (fun hlt b1 b2 b3 b4 hp2 => ⟨n - (i + 1), by omega, i + 1, hlt, by omega, rfl, rfl, hp2⟩)⟩
theorem LP5_c1 {A0 : Type} {A2 : Type} {A3 : Type} {A4 : Type} {body : (A0 → Int32 → A2 → A3 → A4 → Prop) → A0 → Int32 → A2 → A3 → A4 → Prop} {a0 : A0} {a2 : A2} {a3 : A3} {a4 : A4} {v : Int32} (i0 n : Nat) (P : Nat → A0 → A2 → A3 → A4 → Prop) (hv : v = nI i0) (hle : i0 ≤ n) (h0 : P i0 a0 a2 a3 a4)
  (hs : ∀ (i : Nat) (a0 : A0) (a2 : A2) (a3 : A3) (a4 : A4), i ≤ n → i0 ≤ i → P i a0 a2 a3 a4 → ∀ K : A0 → Int32 → A2 → A3 → A4 → Prop, (i < n → ∀ (b0 : A0) (b2 : A2) (b3 : A3) (b4 : A4), P (i + 1) b0 b2 b3 b4 → K b0 (nI (i + 1)) b2 b3 b4) → body K a0 (nI i) a2 a3 a4) : LP5 body a0 v a2 a3 a4 :=
  ⟨fun m a0 v a2 a3 a4 => ∃ i : Nat, i ≤ n ∧ i0 ≤ i ∧ v = nI i ∧ m = n - i ∧ P i a0 a2 a3 a4, n - i0, ⟨i0, hle, Nat.le_refl _, hv, rfl, h0⟩, fun m a0 v a2 a3 a4 h => by
    obtain ⟨i, hi, h5, rfl, rfl, hp⟩ := h
    exact hs i a0 a2 a3 a4 hi h5 hp _ (fun hlt b0 b2 b3 b4 hp2 => ⟨n - (i + 1), by omega, i + 1, hlt, by omega, rfl, rfl, hp2⟩)⟩
theorem LP5_c2 {A0 : Type} {A1 : Type} {A3 : Type} {A4 : Type} {body : (A0 → A1 → Int32 → A3 → A4 → Prop) → A0 → A1 → Int32 → A3 → A4 → Prop} {a0 : A0} {a1 : A1} {a3 : A3} {a4 : A4} {v : Int32} (i0 n : Nat) (P : Nat → A0 → A1 → A3 → A4 → Prop) (hv : v = nI i0) (hle : i0 ≤ n) (h0 : P i0 a0 a1 a3 a4)
  (hs : ∀ (i : Nat) (a0 : A0) (a1 : A1) (a3 : A3) (a4 : A4), i ≤ n → i0 ≤ i → P i a0 a1 a3 a4 → ∀ K : A0 → A1 → Int32 → A3 → A4 → Prop, (i < n → ∀ (b0 : A0) (b1 : A1) (b3 : A3) (b4 : A4), P (i + 1) b0 b1 b3 b4 → K b0 b1 (nI (i + 1)) b3 b4) → body K a0 a1 (nI i) a3 a4) : LP5 body a0 a1 v a3 a4 :=
  ⟨fun m a0 a1 v a3 a4 => ∃ i : Nat, i ≤ n ∧ i0 ≤ i ∧ v = nI i ∧ m = n - i ∧ P i a0 a1 a3 a4, n - i0, ⟨i0, hle, Nat.le_refl _, hv, rfl, h0⟩, fun m a0 a1 v a3 a4 h => by
    obtain ⟨i, hi, h5, rfl, rfl, hp⟩ := h
    exact hs i a0 a1 a3 a4 hi h5 hp _ (fun hlt b0 b1 b3 b4 hp2 => ⟨n - (i + 1), by omega, i + 1, hlt, by omega, rfl, rfl, hp2⟩)⟩
theorem LP5_c3 {A0 : Type} {A1 : Type} {A2 : Type} {A4 : Type} {body : (A0 → A1 → A2 → Int32 → A4 → Prop) → A0 → A1 → A2 → Int32 → A4 → Prop} {a0 : A0} {a1 : A1} {a2 : A2} {a4 : A4} {v : Int32} (i0 n : Nat) (P : Nat → A0 → A1 → A2 → A4 → Prop) (hv : v = nI i0) (hle : i0 ≤ n) (h0 : P i0 a0 a1 a2 a4)
  (hs : ∀ (i : Nat) (a0 : A0) (a1 : A1) (a2 : A2) (a4 : A4), i ≤ n → i0 ≤ i → P i a0 a1 a2 a4 → ∀ K : A0 → A1 → A2 → Int32 → A4 → Prop, (i < n → ∀ (b0 : A0) (b1 : A1) (b2 : A2) (b4 : A4), P (i + 1) b0 b1 b2 b4 → K b0 b1 b2 (nI (i + 1)) b4) → body K a0 a1 a2 (nI i) a4) : LP5 body a0 a1 a2 v a4 :=
  ⟨fun m a0 a1 a2 v a4 => ∃ i : Nat, i ≤ n ∧ i0 ≤ i ∧ v = nI i ∧ m = n - i ∧ P i a0 a1 a2 a4, n - i0, ⟨i0, hle, Nat.le_refl _, hv, rfl, h0⟩, fun m a0 a1 a2 v a4 h => by
    obtain ⟨i, hi, h5, rfl, rfl, hp⟩ := h
    exact hs i a0 a1 a2 a4 hi h5 hp _ (fun hlt b0 b1 b2 b4 hp2 => ⟨n - (i + 1), by omega, i + 1, hlt, by omega, rfl, rfl, hp2⟩)⟩
theorem LP5_c4 {A0 : Type} {A1 : Type} {A2 : Type} {A3 : Type} {body : (A0 → A1 → A2 → A3 → Int32 → Prop) → A0 → A1 → A2 → A3 → Int32 → Prop} {a0 : A0} {a1 : A1} {a2 : A2} {a3 : A3} {v : Int32} (i0 n : Nat) (P : Nat → A0 → A1 → A2 → A3 → Prop) (hv : v = nI i0) (hle : i0 ≤ n) (h0 : P i0 a0 a1 a2 a3)
  (hs : ∀ (i : Nat) (a0 : A0) (a1 : A1) (a2 : A2) (a3 : A3), i ≤ n → i0 ≤ i → P i a0 a1 a2 a3 → ∀ K : A0 → A1 → A2 → A3 → Int32 → Prop, (i < n → ∀ (b0 : A0) (b1 : A1) (b2 : A2) (b3 : A3), P (i + 1) b0 b1 b2 b3 → K b0 b1 b2 b3 (nI (i + 1))) → body K a0 a1 a2 a3 (nI i)) : LP5 body a0 a1 a2 a3 v :=
  ⟨fun m a0 a1 a2 a3 v => ∃ i : Nat, i ≤ n ∧ i0 ≤ i ∧ v = nI i ∧ m = n - i ∧ P i a0 a1 a2 a3, n - i0, ⟨i0, hle, Nat.le_refl _, hv, rfl, h0⟩, fun m a0 a1 a2 a3 v h => by
    obtain ⟨i, hi, h5, rfl, rfl, hp⟩ := h
    exact hs i a0 a1 a2 a3 hi h5 hp _ (fun hlt b0 b1 b2 b3 hp2 => ⟨n - (i + 1), by omega, i + 1, hlt, by omega, rfl, rfl, hp2⟩)⟩
theorem LP5_m {A0 : Type} {A1 : Type} {A2 : Type} {A3 : Type} {A4 : Type} {body : (A0 → A1 → A2 → A3 → A4 → Prop) → A0 → A1 → A2 → A3 → A4 → Prop} {a0 : A0} {a1 : A1} {a2 : A2} {a3 : A3} {a4 : A4} (I : Nat → A0 → A1 → A2 → A3 → A4 → Prop) (n : Nat) (h0 : I n a0 a1 a2 a3 a4)
  (hs : ∀ (n : Nat) (a0 : A0) (a1 : A1) (a2 : A2) (a3 : A3) (a4 : A4), I n a0 a1 a2 a3 a4 → ∀ K : A0 → A1 → A2 → A3 → A4 → Prop, (∀ m : Nat, m < n → ∀ (b0 : A0) (b1 : A1) (b2 : A2) (b3 : A3) (b4 : A4), I m b0 b1 b2 b3 b4 → K b0 b1 b2 b3 b4) → body K a0 a1 a2 a3 a4) : LP5 body a0 a1 a2 a3 a4 :=
  ⟨I, n, h0, fun n a0 a1 a2 a3 a4 h => hs n a0 a1 a2 a3 a4 h _ (fun m hm b0 b1 b2 b3 b4 hb => ⟨m, hm, hb⟩)⟩
theorem LP6_c0 {A1 : Type} {A2 : Type} {A3 : Type} {A4 : Type} {A5 : Type} {body : (Int32 → A1 → A2 → A3 → A4 → A5 → Prop) → Int32 → A1 → A2 → A3 → A4 → A5 → Prop} {a1 : A1} {a2 : A2} {a3 : A3} {a4 : A4} {a5 : A5} {v : Int32} (i0 n : Nat) (P : Nat → A1 → A2 → A3 → A4 → A5 → Prop) (hv : v = nI i0) (hle : i0 ≤ n) (h0 : P i0 a1 a2 a3 a4 a5)
  (hs : ∀ (i : Nat) (a1 : A1) (a2 : A2) (a3 : A3) (a4 : A4) (a5 : A5), i ≤ n → i0 ≤ i → P i a1 a2 a3 a4 a5 → ∀ K : Int32 → A1 → A2 → A3 → A4 → A5 → Prop, (i < n → ∀ (b1 : A1) (b2 : A2) (b3 : A3) (b4 : A4) (b5 : A5), P (i + 1) b1 b2 b3 b4 b5 → K (nI (i + 1)) b1 b2 b3 b4 b5) → body K (nI i) a1 a2 a3 a4 a5) : LP6 body v a1 a2 a3 a4 a5 :=
  ⟨fun m v a1 a2 a3 a4 a5 => ∃ i : Nat, i ≤ n ∧ i0 ≤ i ∧ v = nI i ∧ m = n - i ∧ P i a1 a2 a3 a4 a5, n - i0, ⟨i0, hle, Nat.le_refl _, hv, rfl, h0⟩, fun m v a1 a2 a3 a4 a5 h => by
    obtain ⟨i, hi, h5, rfl, rfl, hp⟩ := h
    exact hs i a1 a2 a3 a4 a5 hi h5 hp _ (fun hlt b1 b2 b3 b4 b5 hp2 => ⟨n - (i + 1), by omega, i + 1, hlt, by omega, rfl, rfl, hp2⟩)⟩
theorem LP6_c1 {A0 : Type} {A2 : Type} {A3 : Type} {A4 : Type} {A5 : Type} {body : (A0 → Int32 → A2 → A3 → A4 → A5 → Prop) → A0 → Int32 → A2 → A3 → A4 → A5 → Prop} {a0 : A0} {a2 : A2} {a3 : A3} {a4 : A4} {a5 : A5} {v : Int32} (i0 n : Nat) (P : Nat → A0 → A2 → A3 → A4 → A5 → Prop) (hv : v = nI i0) (hle : i0 ≤ n) (h0 : P i0 a0 a2 a3 a4 a5)
  (hs : ∀ (i : Nat) (a0 : A0) (a2 : A2) (a3 : A3) (a4 : A4) (a5 : A5), i ≤ n → i0 ≤ i → P i a0 a2 a3 a4 a5 → ∀ K : A0 → Int32 → A2 → A3 → A4 → A5 → Prop, (i < n → ∀ (b0 : A0) (b2 : A2) (b3 : A3) (b4 : A4) (b5 : A5), P (i + 1) b0 b2 b3 b4 b5 → K b0 (nI (i + 1)) b2 b3 b4 b5) → body K a0 (nI i) a2 a3 a4 a5) : LP6 body a0 v a2 a3 a4 a5 :=
  ⟨fun m a0 v a2 a3 a4 a5 => ∃ i : Nat, i ≤ n ∧ i0 ≤ i ∧ v = nI i ∧ m = n - i ∧ P i a0 a2 a3 a4 a5, n - i0, ⟨i0, hle, Nat.le_refl _, hv, rfl, h0⟩, fun m a0 v a2 a3 a4 a5 h => by
    obtain ⟨i, hi, h5, rfl, rfl, hp⟩ := h
    exact hs i a0 a2 a3 a4 a5 hi h5 hp _ (fun hlt b0 b2 b3 b4 b5 hp2 => ⟨n - (i + 1), by omega, i + 1, hlt, by omega, rfl, rfl, hp2⟩)⟩
theorem LP6_c2 {A0 : Type} {A1 : Type} {A3 : Type} {A4 : Type} {A5 : Type} {body : (A0 → A1 → Int32 → A3 → A4 → A5 → Prop) → A0 → A1 → Int32 → A3 → A4 → A5 → Prop} {a0 : A0} {a1 : A1} {a3 : A3} {a4 : A4} {a5 : A5} {v : Int32} (i0 n : Nat) (P : Nat → A0 → A1 → A3 → A4 → A5 → Prop) (hv : v = nI i0) (hle : i0 ≤ n) (h0 : P i0 a0 a1 a3 a4 a5)
  (hs : ∀ (i : Nat) (a0 : A0) (a1 : A1) (a3 : A3) (a4 : A4) (a5 : A5), i ≤ n → i0 ≤ i → P i a0 a1 a3 a4 a5 → ∀ K : A0 → A1 → Int32 → A3 → A4 → A5 → Prop, (i < n → ∀ (b0 : A0) (b1 : A1) (b3 : A3) (b4 : A4) (b5 : A5), P (i + 1) b0 b1 b3 b4 b5 → K b0 b1 (nI (i + 1)) b3 b4 b5) → body K a0 a1 (nI i) a3 a4 a5) : LP6 body a0 a1 v a3 a4 a5 :=
  ⟨fun m a0 a1 v a3 a4 a5 => ∃ i : Nat, i ≤ n ∧ i0 ≤ i ∧ v = nI i ∧ m = n - i ∧ P i a0 a1 a3 a4 a5, n - i0, ⟨i0, hle, Nat.le_refl _, hv, rfl, h0⟩, fun m a0 a1 v a3 a4 a5 h => by
    obtain ⟨i, hi, h5, rfl, rfl, hp⟩ := h
    exact hs i a0 a1 a3 a4 a5 hi h5 hp _ (fun hlt b0 b1 b3 b4 b5 hp2 => ⟨n - (i + 1), by omega, i + 1, hlt, by omega, rfl, rfl, hp2⟩)⟩
theorem LP6_c3 {A0 : Type} {A1 : Type} {A2 : Type} {A4 : Type} {A5 : Type} {body : (A0 → A1 → A2 → Int32 → A4 → A5 → Prop) → A0 → A1 → A2 → Int32 → A4 → A5 → Prop} {a0 : A0} {a1 : A1} {a2 : A2} {a4 : A4} {a5 : A5} {v : Int32} (i0 n : Nat) (P : Nat → A0 → A1 → A2 → A4 → A5 → Prop) (hv : v = nI i0) (hle : i0 ≤ n) (h0 : P i0 a0 a1 a2 a4 a5)
  (hs : ∀ (i : Nat) (a0 : A0) (a1 : A1) (a2 : A2) (a4 : A4) (a5 : A5), i ≤ n → i0 ≤ i → P i a0 a1 a2 a4 a5 → ∀ K : A0 → A1 → A2 → Int32 → A4 → A5 → Prop, (i < n → ∀ (b0 : A0) (b1 : A1) (b2 : A2) (b4 : A4) (b5 : A5), P (i + 1) b0 b1 b2 b4 b5 → K b0 b1 b2 (nI (i + 1)) b4 b5) → body K a0 a1 a2 (nI i) a4 a5) : LP6 body a0 a1 a2 v a4 a5 :=
  ⟨fun m a0 a1 a2 v a4 a5 => ∃ i : Nat, i ≤ n ∧ i0 ≤ i ∧ v = nI i ∧ m = n - i ∧ P i a0 a1 a2 a4 a5, n - i0, ⟨i0, hle, Nat.le_refl _, hv, rfl, h0⟩, fun m a0 a1 a2 v a4 a5 h => by
    obtain ⟨i, hi, h5, rfl, rfl, hp⟩ := h
    exact hs i a0 a1 a2 a4 a5 hi h5 hp _ (fun hlt b0 b1 b2 b4 b5 hp2 => ⟨n - (i + 1), by omega, i + 1, hlt, by omega, rfl, rfl, hp2⟩)⟩
theorem LP6_c4 {A0 : Type} {A1 : Type} {A2 : Type} {A3 : Type} {A5 : Type} {body : (A0 → A1 → A2 → A3 → Int32 → A5 → Prop) → A0 → A1 → A2 → A3 → Int32 → A5 → Prop} {a0 : A0} {a1 : A1} {a2 : A2} {a3 : A3} {a5 : A5} {v : Int32} (i0 n : Nat) (P : Nat → A0 → A1 → A2 → A3 → A5 → Prop) (hv : v = nI i0) (hle : i0 ≤ n) (h0 : P i0 a0 a1 a2 a3 a5)
  (hs : ∀ (i : Nat) (a0 : A0) (a1 : A1) (a2 : A2) (a3 : A3) (a5 : A5), i ≤ n → i0 ≤ i → P i a0 a1 a2 a3 a5 → ∀ K : A0 → A1 → A2 → A3 → Int32 → A5 → Prop, (i < n → ∀ (b0 : A0) (b1 : A1) (b2 : A2) (b3 : A3) (b5 : A5), P (i + 1) b0 b1 b2 b3 b5 → K b0 b1 b2 b3 (nI (i + 1)) b5) → body K a0 a1 a2 a3 (nI i) a5) : LP6 body a0 a1 a2 a3 v a5 :=
  ⟨fun m a0 a1 a2 a3 v a5 => ∃ i : Nat, i ≤ n ∧ i0 ≤ i ∧ v = nI i ∧ m = n - i ∧ P i a0 a1 a2 a3 a5, n - i0, ⟨i0, hle, Nat.le_refl _, hv, rfl, h0⟩, fun m a0 a1 a2 a3 v a5 h => by
    obtain ⟨i, hi, h5, rfl, rfl, hp⟩ := h
    exact hs i a0 a1 a2 a3 a5 hi h5 hp _ (fun hlt b0 b1 b2 b3 b5 hp2 => ⟨n - (i + 1), by omega, i + 1, hlt, by omega, rfl, rfl, hp2⟩)⟩
theorem LP6_c5 {A0 : Type} {A1 : Type} {A2 : Type} {A3 : Type} {A4 : Type} {body : (A0 → A1 → A2 → A3 → A4 → Int32 → Prop) → A0 → A1 → A2 → A3 → A4 → Int32 → Prop} {a0 : A0} {a1 : A1} {a2 : A2} {a3 : A3} {a4 : A4} {v : Int32} (i0 n : Nat) (P : Nat → A0 → A1 → A2 → A3 → A4 → Prop) (hv : v = nI i0) (hle : i0 ≤ n) (h0 : P i0 a0 a1 a2 a3 a4)
  (hs : ∀ (i : Nat) (a0 : A0) (a1 : A1) (a2 : A2) (a3 : A3) (a4 : A4), i ≤ n → i0 ≤ i → P i a0 a1 a2 a3 a4 → ∀ K : A0 → A1 → A2 → A3 → A4 → Int32 → Prop, (i < n → ∀ (b0 : A0) (b1 : A1) (b2 : A2) (b3 : A3) (b4 : A4), P (i + 1) b0 b1 b2 b3 b4 → K b0 b1 b2 b3 b4 (nI (i + 1))) → body K a0 a1 a2 a3 a4 (nI i)) : LP6 body a0 a1 a2 a3 a4 v :=
  ⟨fun m a0 a1 a2 a3 a4 v => ∃ i : Nat, i ≤ n ∧ i0 ≤ i ∧ v = nI i ∧ m = n - i ∧ P i a0 a1 a2 a3 a4, n - i0, ⟨i0, hle, Nat.le_refl _, hv, rfl, h0⟩, fun m a0 a1 a2 a3 a4 v h => by
    obtain ⟨i, hi, h5, rfl, rfl, hp⟩ := h
    exact hs i a0 a1 a2 a3 a4 hi h5 hp _ (fun hlt b0 b1 b2 b3 b4 hp2 => ⟨n - (i + 1), by omega, i + 1, hlt, by omega, rfl, rfl, hp2⟩)⟩
theorem LP6_m {A0 : Type} {A1 : Type} {A2 : Type} {A3 : Type} {A4 : Type} {A5 : Type} {body : (A0 → A1 → A2 → A3 → A4 → A5 → Prop) → A0 → A1 → A2 → A3 → A4 → A5 → Prop} {a0 : A0} {a1 : A1} {a2 : A2} {a3 : A3} {a4 : A4} {a5 : A5} (I : Nat → A0 → A1 → A2 → A3 → A4 → A5 → Prop) (n : Nat) (h0 : I n a0 a1 a2 a3 a4 a5)
  (hs : ∀ (n : Nat) (a0 : A0) (a1 : A1) (a2 : A2) (a3 : A3) (a4 : A4) (a5 : A5), I n a0 a1 a2 a3 a4 a5 → ∀ K : A0 → A1 → A2 → A3 → A4 → A5 → Prop, (∀ m : Nat, m < n → ∀ (b0 : A0) (b1 : A1) (b2 : A2) (b3 : A3) (b4 : A4) (b5 : A5), I m b0 b1 b2 b3 b4 b5 → K b0 b1 b2 b3 b4 b5) → body K a0 a1 a2 a3 a4 a5) : LP6 body a0 a1 a2 a3 a4 a5 :=
  ⟨I, n, h0, fun n a0 a1 a2 a3 a4 a5 h => hs n a0 a1 a2 a3 a4 a5 h _ (fun m hm b0 b1 b2 b3 b4 b5 hb => ⟨m, hm, hb⟩)⟩
def u2 (S : Nat → Nat → Int32) (f i : Nat) (x : Int32) : Nat → Nat → Int32 := fun g j => if g = f ∧ j = i then x else S g j
theorem u2_s {S : Nat → Nat → Int32} {f i : Nat} {x : Int32} : u2 S f i x f i = x := if_pos ⟨rfl, rfl⟩
theorem u2_f {S : Nat → Nat → Int32} {f i g j : Nat} {x : Int32} (h : g ≠ f) : u2 S f i x g j = S g j := if_neg (fun q => h q.1)
theorem u2_i {S : Nat → Nat → Int32} {f i g j : Nat} {x : Int32} (h : j ≠ i) : u2 S f i x g j = S g j := if_neg (fun q => h q.2)
theorem u2_self {S : Nat → Nat → Int32} {f i : Nat} : u2 S f i (S f i) = S := by
  funext g j; show (if g = f ∧ j = i then S f i else S g j) = S g j
  by_cases h : g = f ∧ j = i
  · rw [if_pos h, h.1, h.2]
  · rw [if_neg h]
-- the places of a world: the field's kind (0 the world, 1 the city, 2 an owner, 3 a ship, 4 a cargo), its slot, how many
def kd : Nat → Nat
  | 28 => 0 | 34 => 0 | 93 => 0 | 94 => 0 | 95 => 0 | 105 => 0 | 100 => 0
  | 96 => 1 | 97 => 1 | 98 => 1 | 106 => 1 | 119 => 1
  | 107 => 2 | 108 => 2 | 109 => 2 | 110 => 2 | 111 => 2 | 117 => 2 | 118 => 2 | 120 => 2 | 121 => 2 | 122 => 2 | 123 => 2 | 124 => 2
  | 112 => 3 | 113 => 3 | 114 => 3 | 115 => 3 | 125 => 3 | 126 => 3
  | 116 => 4
  | _ => 5
def slt : Nat → Nat
  | 28 => 2 | 34 => 4 | 93 => 0 | 94 => 5 | 95 => 6 | 105 => 7 | 100 => 13
  | 96 => 0 | 97 => 1 | 98 => 2 | 106 => 3 | 119 => 4
  | 107 => 6 | 108 => 7 | 109 => 8 | 110 => 9 | 111 => 5 | 117 => 10 | 118 => 11 | 120 => 0 | 121 => 1 | 122 => 2 | 123 => 3 | 124 => 4
  | 112 => 2 | 113 => 5 | 114 => 3 | 115 => 4 | 125 => 0 | 126 => 1
  | _ => 0
def rgk : Nat → Nat
  | 0 => 1 | 1 => 1 | 2 => 10 | 3 => 8 | 4 => 96 | _ => 0
def rg (f : Nat) : Nat := rgk (kd f)
def cAk (w k i : Nat) : Nat :=
  match k with
  | 0 => w | 1 => w + 3 | 2 => w + 9 + i | 3 => w + 19 + 2 * i | 4 => w + 19 + 2 * (i / 12) + 1 | _ => 0
def cBk (k f i : Nat) : Nat :=
  match k with
  | 4 => i % 12 | _ => slt f
def cA (w f i : Nat) : Nat := cAk w (kd f) i
def cB (f i : Nat) : Nat := cBk (kd f) f i
theorem kd_lt {f : Nat} (h : kd f < 5) : f < 130 := by
  unfold kd at h
  split at h <;> omega
theorem slt_one : ∀ f, f < 130 → ∀ g, g < 130 → kd f = kd g → kd f < 4 → slt f = slt g → f = g := by decide +kernel
theorem kd4_one : ∀ f, f < 130 → kd f = 4 → f = 116 := by decide +kernel
theorem rg_kd {f i : Nat} (h : i < rg f) : kd f < 5 := by
  unfold rg rgk at h
  split at h <;> omega
theorem c_inj {w f g i j : Nat} (hi : i < rg f) (hj : j < rg g) (hA : cA w f i = cA w g j) (hB : cB f i = cB g j) : f = g ∧ i = j := by
  have k1 := rg_kd hi
  have k2 := rg_kd hj
  have b1 := kd_lt k1
  have b2 := kd_lt k2
  have t1 := slt_one f b1 g b2
  have t2 := kd4_one f b1
  have t3 := kd4_one g b2
  unfold rg at hi hj
  unfold cA at hA
  unfold cB at hB
  generalize kd f = a at *
  generalize kd g = b at *
  match a, b, k1, k2 with
  | 0, 0, _, _ => exact ⟨t1 rfl (by decide) hB, by simp only [rgk] at hi hj; omega⟩
  | 1, 1, _, _ => exact ⟨t1 rfl (by decide) hB, by simp only [rgk] at hi hj; omega⟩
  | 2, 2, _, _ => exact ⟨t1 rfl (by decide) hB, by simp only [cAk] at hA; omega⟩
  | 3, 3, _, _ => exact ⟨t1 rfl (by decide) hB, by simp only [cAk] at hA; omega⟩
  | 4, 4, _, _ => exact ⟨(t2 rfl).trans (t3 rfl).symm, by simp only [cAk] at hA; simp only [cBk] at hB; omega⟩
  | 0, 1, _, _ | 0, 2, _, _ | 0, 3, _, _ | 0, 4, _, _ | 1, 0, _, _ | 1, 2, _, _ | 1, 3, _, _ | 1, 4, _, _ | 2, 0, _, _ | 2, 1, _, _ | 2, 3, _, _ | 2, 4, _, _ | 3, 0, _, _ | 3, 1, _, _ | 3, 2, _, _ | 3, 4, _, _ | 4, 0, _, _ | 4, 1, _, _ | 4, 2, _, _ | 4, 3, _, _ => simp only [cAk, rgk] at hA hi hj; omega
theorem u2_def {S : Nat → Nat → Int32} {f i g j : Nat} {x : Int32} : u2 S f i x g j = if g = f ∧ j = i then x else S g j := rfl
def vwC (w : Nat) (M : Mem) (f i : Nat) : Int32 := if f = 109 then (if i < 10 ∧ mp M w 11 ≠ none then mi M (oA w i) 8 else 0) else if i < rg f then mi M (cA w f i) (cB f i) else 0
theorem vwC_def {w f i : Nat} {M : Mem} : vwC w M f i = if f = 109 then (if i < 10 ∧ mp M w 11 ≠ none then mi M (oA w i) 8 else 0) else if i < rg f then mi M (cA w f i) (cB f i) else 0 := rfl
theorem vwC_at {w : Nat} {M : Mem} {f i : Nat} (hf : f ≠ 109) (hi : i < rg f) : vwC w M f i = mi M (cA w f i) (cB f i) := by
  unfold vwC; rw [if_neg hf, if_pos hi]
theorem vwC_si {w : Nat} {M : Mem} {f i : Nat} {x : Int32} (hf : f ≠ 109) (hi : i < rg f) : vwC w (si M (cA w f i) (cB f i) x) = u2 (vwC w M) f i x := by
  funext g j
  rw [u2_def, vwC_def, vwC_def]
  by_cases hg : g = 109
  · subst hg
    rw [if_pos rfl, if_pos rfl, if_neg (c := 109 = f ∧ j = i) (fun q => hf q.1.symm), mp_si]
    by_cases hj : j < 10 ∧ mp M w 11 ≠ none
    · rw [if_pos hj, if_pos hj, mi_si, if_neg]
      intro q
      exact hf (c_inj (w := w) (f := 109) (g := f) (i := j) (j := i) hj.1 hi q.1 q.2).1.symm
    · rw [if_neg hj, if_neg hj]
  · rw [if_neg hg, if_neg hg]
    by_cases hj : j < rg g
    · rw [if_pos hj, if_pos hj, mi_si]
      by_cases h : g = f ∧ j = i
      · obtain ⟨rfl, rfl⟩ := h; rw [if_pos ⟨rfl, rfl⟩, if_pos ⟨rfl, rfl⟩]
      · rw [if_neg h, if_neg (fun q => h (c_inj hj hi q.1 q.2))]
    · rw [if_neg hj, if_neg hj, if_neg (fun q => by obtain ⟨rfl, rfl⟩ := q; exact hj hi)]
theorem vwC_out {w : Nat} {M : Mem} {a k : Nat} {x : Int32} (h : ∀ f i, i < rg f → ¬ (cA w f i = a ∧ cB f i = k)) : vwC w (si M a k x) = vwC w M := by
  funext g j
  rw [vwC_def, vwC_def]
  by_cases hg : g = 109
  · subst hg
    rw [if_pos rfl, if_pos rfl, mp_si]
    by_cases hj : j < 10 ∧ mp M w 11 ≠ none
    · rw [if_pos hj, if_pos hj, mi_si, if_neg (show ¬ (oA w j = a ∧ 8 = k) from h 109 j hj.1)]
    · rw [if_neg hj, if_neg hj]
  · rw [if_neg hg, if_neg hg]
    by_cases hj : j < rg g
    · rw [if_pos hj, if_pos hj, mi_si, if_neg (h g j hj)]
    · rw [if_neg hj, if_neg hj]
theorem cA_rng {w f i : Nat} (hi : i < rg f) : w ≤ cA w f i ∧ cA w f i < w + 35 := by
  have k1 := rg_kd hi
  unfold rg at hi
  unfold cA
  generalize kd f = a at *
  rcases (show a = 0 ∨ a = 1 ∨ a = 2 ∨ a = 3 ∨ a = 4 by omega) with rfl | rfl | rfl | rfl | rfl
  · have hi : i < 1 := hi
    show w ≤ w ∧ w < w + 35
    omega
  · have hi : i < 1 := hi
    show w ≤ w + 3 ∧ w + 3 < w + 35
    omega
  · have hi : i < 10 := hi
    show w ≤ w + 9 + i ∧ w + 9 + i < w + 35
    omega
  · have hi : i < 8 := hi
    show w ≤ w + 19 + 2 * i ∧ w + 19 + 2 * i < w + 35
    omega
  · have hi : i < 96 := hi
    show w ≤ w + 19 + 2 * (i / 12) + 1 ∧ w + 19 + 2 * (i / 12) + 1 < w + 35
    omega
theorem cA_not {w f i : Nat} (hi : i < rg f) : cA w f i = w ∨ cA w f i = w + 3 ∨ (w + 9 ≤ cA w f i ∧ cA w f i < w + 35) := by
  have k1 := rg_kd hi
  unfold rg at hi
  unfold cA
  generalize kd f = a at *
  rcases (show a = 0 ∨ a = 1 ∨ a = 2 ∨ a = 3 ∨ a = 4 by omega) with rfl | rfl | rfl | rfl | rfl
  · have hi : i < 1 := hi
    show w = w ∨ w = w + 3 ∨ (w + 9 ≤ w ∧ w < w + 35)
    omega
  · have hi : i < 1 := hi
    show w + 3 = w ∨ w + 3 = w + 3 ∨ (w + 9 ≤ w + 3 ∧ w + 3 < w + 35)
    omega
  · have hi : i < 10 := hi
    show w + 9 + i = w ∨ w + 9 + i = w + 3 ∨ (w + 9 ≤ w + 9 + i ∧ w + 9 + i < w + 35)
    omega
  · have hi : i < 8 := hi
    show w + 19 + 2 * i = w ∨ w + 19 + 2 * i = w + 3 ∨ (w + 9 ≤ w + 19 + 2 * i ∧ w + 19 + 2 * i < w + 35)
    omega
  · have hi : i < 96 := hi
    show w + 19 + 2 * (i / 12) + 1 = w ∨ w + 19 + 2 * (i / 12) + 1 = w + 3 ∨ (w + 9 ≤ w + 19 + 2 * (i / 12) + 1 ∧ w + 19 + 2 * (i / 12) + 1 < w + 35)
    omega
theorem vwC_far {w : Nat} {M : Mem} {a k : Nat} {x : Int32} (h : a < w ∨ w + 35 ≤ a ∨ (w < a ∧ a ≠ w + 3 ∧ a < w + 9)) : vwC w (si M a k x) = vwC w M :=
  vwC_out fun f i hi q => by
    have h1 := cA_rng (w := w) hi
    have h2 := cA_not (w := w) hi
    rw [q.1] at h1 h2
    omega
theorem slt_own : ∀ f, f < 130 → kd f = 2 → slt f ≠ 12 ∧ slt f ≠ 13 ∧ slt f < 12 := by decide +kernel
theorem slt_wld : ∀ f, f < 130 → kd f = 0 → slt f ≠ 14 := by decide +kernel
theorem vwC_own {w : Nat} {M : Mem} {i k : Nat} {x : Int32} (hk : k = 12 ∨ k = 13) (hi : i < 10) : vwC w (si M (oA w i) k x) = vwC w M :=
  vwC_out fun f j hj q => by
    have k1 := rg_kd hj
    have b1 := kd_lt k1
    have t1 := slt_own f b1
    obtain ⟨q1, q2⟩ := q
    unfold rg at hj
    unfold cA at q1
    unfold cB at q2
    unfold oA at q1
    generalize kd f = a at *
    rcases (show a = 0 ∨ a = 1 ∨ a = 2 ∨ a = 3 ∨ a = 4 by omega) with rfl | rfl | rfl | rfl | rfl
    · simp only [cAk, rgk] at hj q1; omega
    · simp only [cAk, rgk] at hj q1; omega
    · have t2 := t1 rfl; simp only [cBk] at q2; omega
    · simp only [cAk, rgk] at hj q1; omega
    · simp only [cAk, rgk] at hj q1; omega
theorem vwC_is {w : Nat} {M : Mem} {x : Int32} : vwC w (si M w 14 x) = vwC w M :=
  vwC_out fun f j hj q => by
    have k1 := rg_kd hj
    have b1 := kd_lt k1
    have t1 := slt_wld f b1
    obtain ⟨q1, q2⟩ := q
    unfold rg at hj
    unfold cA at q1
    unfold cB at q2
    generalize kd f = a at *
    rcases (show a = 0 ∨ a = 1 ∨ a = 2 ∨ a = 3 ∨ a = 4 by omega) with rfl | rfl | rfl | rfl | rfl
    · have t2 := t1 rfl; simp only [cBk] at q2; omega
    · simp only [cAk, rgk] at hj q1; omega
    · simp only [cAk, rgk] at hj q1; omega
    · simp only [cAk, rgk] at hj q1; omega
    · simp only [cAk, rgk] at hj q1; omega
theorem rC_28 {w : Nat} {M : Mem} : mi M w 2 = vwC w M 28 0 := (vwC_at (f := 28) (i := 0) (by decide) (by decide)).symm
theorem sC_28 {w : Nat} {M : Mem} {x : Int32} : vwC w (si M w 2 x) = u2 (vwC w M) 28 0 x := vwC_si (f := 28) (i := 0) (by decide) (by decide)
theorem rC_34 {w : Nat} {M : Mem} : mi M w 4 = vwC w M 34 0 := (vwC_at (f := 34) (i := 0) (by decide) (by decide)).symm
theorem sC_34 {w : Nat} {M : Mem} {x : Int32} : vwC w (si M w 4 x) = u2 (vwC w M) 34 0 x := vwC_si (f := 34) (i := 0) (by decide) (by decide)
theorem rC_93 {w : Nat} {M : Mem} : mi M w 0 = vwC w M 93 0 := (vwC_at (f := 93) (i := 0) (by decide) (by decide)).symm
theorem sC_93 {w : Nat} {M : Mem} {x : Int32} : vwC w (si M w 0 x) = u2 (vwC w M) 93 0 x := vwC_si (f := 93) (i := 0) (by decide) (by decide)
theorem rC_94 {w : Nat} {M : Mem} : mi M w 5 = vwC w M 94 0 := (vwC_at (f := 94) (i := 0) (by decide) (by decide)).symm
theorem sC_94 {w : Nat} {M : Mem} {x : Int32} : vwC w (si M w 5 x) = u2 (vwC w M) 94 0 x := vwC_si (f := 94) (i := 0) (by decide) (by decide)
theorem rC_95 {w : Nat} {M : Mem} : mi M w 6 = vwC w M 95 0 := (vwC_at (f := 95) (i := 0) (by decide) (by decide)).symm
theorem sC_95 {w : Nat} {M : Mem} {x : Int32} : vwC w (si M w 6 x) = u2 (vwC w M) 95 0 x := vwC_si (f := 95) (i := 0) (by decide) (by decide)
theorem rC_105 {w : Nat} {M : Mem} : mi M w 7 = vwC w M 105 0 := (vwC_at (f := 105) (i := 0) (by decide) (by decide)).symm
theorem sC_105 {w : Nat} {M : Mem} {x : Int32} : vwC w (si M w 7 x) = u2 (vwC w M) 105 0 x := vwC_si (f := 105) (i := 0) (by decide) (by decide)
theorem rC_100 {w : Nat} {M : Mem} : mi M w 13 = vwC w M 100 0 := (vwC_at (f := 100) (i := 0) (by decide) (by decide)).symm
theorem sC_100 {w : Nat} {M : Mem} {x : Int32} : vwC w (si M w 13 x) = u2 (vwC w M) 100 0 x := vwC_si (f := 100) (i := 0) (by decide) (by decide)
theorem rC_96 {w : Nat} {M : Mem} : mi M (w + 3) 0 = vwC w M 96 0 := (vwC_at (f := 96) (i := 0) (by decide) (by decide)).symm
theorem sC_96 {w : Nat} {M : Mem} {x : Int32} : vwC w (si M (w + 3) 0 x) = u2 (vwC w M) 96 0 x := vwC_si (f := 96) (i := 0) (by decide) (by decide)
theorem rC_97 {w : Nat} {M : Mem} : mi M (w + 3) 1 = vwC w M 97 0 := (vwC_at (f := 97) (i := 0) (by decide) (by decide)).symm
theorem sC_97 {w : Nat} {M : Mem} {x : Int32} : vwC w (si M (w + 3) 1 x) = u2 (vwC w M) 97 0 x := vwC_si (f := 97) (i := 0) (by decide) (by decide)
theorem rC_98 {w : Nat} {M : Mem} : mi M (w + 3) 2 = vwC w M 98 0 := (vwC_at (f := 98) (i := 0) (by decide) (by decide)).symm
theorem sC_98 {w : Nat} {M : Mem} {x : Int32} : vwC w (si M (w + 3) 2 x) = u2 (vwC w M) 98 0 x := vwC_si (f := 98) (i := 0) (by decide) (by decide)
theorem rC_106 {w : Nat} {M : Mem} : mi M (w + 3) 3 = vwC w M 106 0 := (vwC_at (f := 106) (i := 0) (by decide) (by decide)).symm
theorem sC_106 {w : Nat} {M : Mem} {x : Int32} : vwC w (si M (w + 3) 3 x) = u2 (vwC w M) 106 0 x := vwC_si (f := 106) (i := 0) (by decide) (by decide)
theorem rC_119 {w : Nat} {M : Mem} : mi M (w + 3) 4 = vwC w M 119 0 := (vwC_at (f := 119) (i := 0) (by decide) (by decide)).symm
theorem sC_119 {w : Nat} {M : Mem} {x : Int32} : vwC w (si M (w + 3) 4 x) = u2 (vwC w M) 119 0 x := vwC_si (f := 119) (i := 0) (by decide) (by decide)
theorem rC_107 {w i : Nat} {M : Mem} (h : i < 10) : mi M (oA w i) 6 = vwC w M 107 i := (vwC_at (f := 107) (i := i) (by decide) h).symm
theorem sC_107 {w i : Nat} {M : Mem} {x : Int32} (h : i < 10) : vwC w (si M (oA w i) 6 x) = u2 (vwC w M) 107 i x := vwC_si (f := 107) (i := i) (by decide) h
theorem rC_108 {w i : Nat} {M : Mem} (h : i < 10) : mi M (oA w i) 7 = vwC w M 108 i := (vwC_at (f := 108) (i := i) (by decide) h).symm
theorem sC_108 {w i : Nat} {M : Mem} {x : Int32} (h : i < 10) : vwC w (si M (oA w i) 7 x) = u2 (vwC w M) 108 i x := vwC_si (f := 108) (i := i) (by decide) h
theorem rC_110 {w i : Nat} {M : Mem} (h : i < 10) : mi M (oA w i) 9 = vwC w M 110 i := (vwC_at (f := 110) (i := i) (by decide) h).symm
theorem sC_110 {w i : Nat} {M : Mem} {x : Int32} (h : i < 10) : vwC w (si M (oA w i) 9 x) = u2 (vwC w M) 110 i x := vwC_si (f := 110) (i := i) (by decide) h
theorem rC_111 {w i : Nat} {M : Mem} (h : i < 10) : mi M (oA w i) 5 = vwC w M 111 i := (vwC_at (f := 111) (i := i) (by decide) h).symm
theorem sC_111 {w i : Nat} {M : Mem} {x : Int32} (h : i < 10) : vwC w (si M (oA w i) 5 x) = u2 (vwC w M) 111 i x := vwC_si (f := 111) (i := i) (by decide) h
theorem rC_117 {w i : Nat} {M : Mem} (h : i < 10) : mi M (oA w i) 10 = vwC w M 117 i := (vwC_at (f := 117) (i := i) (by decide) h).symm
theorem sC_117 {w i : Nat} {M : Mem} {x : Int32} (h : i < 10) : vwC w (si M (oA w i) 10 x) = u2 (vwC w M) 117 i x := vwC_si (f := 117) (i := i) (by decide) h
theorem rC_118 {w i : Nat} {M : Mem} (h : i < 10) : mi M (oA w i) 11 = vwC w M 118 i := (vwC_at (f := 118) (i := i) (by decide) h).symm
theorem sC_118 {w i : Nat} {M : Mem} {x : Int32} (h : i < 10) : vwC w (si M (oA w i) 11 x) = u2 (vwC w M) 118 i x := vwC_si (f := 118) (i := i) (by decide) h
theorem rC_120 {w i : Nat} {M : Mem} (h : i < 10) : mi M (oA w i) 0 = vwC w M 120 i := (vwC_at (f := 120) (i := i) (by decide) h).symm
theorem sC_120 {w i : Nat} {M : Mem} {x : Int32} (h : i < 10) : vwC w (si M (oA w i) 0 x) = u2 (vwC w M) 120 i x := vwC_si (f := 120) (i := i) (by decide) h
theorem rC_121 {w i : Nat} {M : Mem} (h : i < 10) : mi M (oA w i) 1 = vwC w M 121 i := (vwC_at (f := 121) (i := i) (by decide) h).symm
theorem sC_121 {w i : Nat} {M : Mem} {x : Int32} (h : i < 10) : vwC w (si M (oA w i) 1 x) = u2 (vwC w M) 121 i x := vwC_si (f := 121) (i := i) (by decide) h
theorem rC_122 {w i : Nat} {M : Mem} (h : i < 10) : mi M (oA w i) 2 = vwC w M 122 i := (vwC_at (f := 122) (i := i) (by decide) h).symm
theorem sC_122 {w i : Nat} {M : Mem} {x : Int32} (h : i < 10) : vwC w (si M (oA w i) 2 x) = u2 (vwC w M) 122 i x := vwC_si (f := 122) (i := i) (by decide) h
theorem rC_123 {w i : Nat} {M : Mem} (h : i < 10) : mi M (oA w i) 3 = vwC w M 123 i := (vwC_at (f := 123) (i := i) (by decide) h).symm
theorem sC_123 {w i : Nat} {M : Mem} {x : Int32} (h : i < 10) : vwC w (si M (oA w i) 3 x) = u2 (vwC w M) 123 i x := vwC_si (f := 123) (i := i) (by decide) h
theorem rC_124 {w i : Nat} {M : Mem} (h : i < 10) : mi M (oA w i) 4 = vwC w M 124 i := (vwC_at (f := 124) (i := i) (by decide) h).symm
theorem sC_124 {w i : Nat} {M : Mem} {x : Int32} (h : i < 10) : vwC w (si M (oA w i) 4 x) = u2 (vwC w M) 124 i x := vwC_si (f := 124) (i := i) (by decide) h
theorem rC_112 {w i : Nat} {M : Mem} (h : i < 8) : mi M (sA w i) 2 = vwC w M 112 i := (vwC_at (f := 112) (i := i) (by decide) h).symm
theorem sC_112 {w i : Nat} {M : Mem} {x : Int32} (h : i < 8) : vwC w (si M (sA w i) 2 x) = u2 (vwC w M) 112 i x := vwC_si (f := 112) (i := i) (by decide) h
theorem rC_113 {w i : Nat} {M : Mem} (h : i < 8) : mi M (sA w i) 5 = vwC w M 113 i := (vwC_at (f := 113) (i := i) (by decide) h).symm
theorem sC_113 {w i : Nat} {M : Mem} {x : Int32} (h : i < 8) : vwC w (si M (sA w i) 5 x) = u2 (vwC w M) 113 i x := vwC_si (f := 113) (i := i) (by decide) h
theorem rC_114 {w i : Nat} {M : Mem} (h : i < 8) : mi M (sA w i) 3 = vwC w M 114 i := (vwC_at (f := 114) (i := i) (by decide) h).symm
theorem sC_114 {w i : Nat} {M : Mem} {x : Int32} (h : i < 8) : vwC w (si M (sA w i) 3 x) = u2 (vwC w M) 114 i x := vwC_si (f := 114) (i := i) (by decide) h
theorem rC_115 {w i : Nat} {M : Mem} (h : i < 8) : mi M (sA w i) 4 = vwC w M 115 i := (vwC_at (f := 115) (i := i) (by decide) h).symm
theorem sC_115 {w i : Nat} {M : Mem} {x : Int32} (h : i < 8) : vwC w (si M (sA w i) 4 x) = u2 (vwC w M) 115 i x := vwC_si (f := 115) (i := i) (by decide) h
theorem rC_125 {w i : Nat} {M : Mem} (h : i < 8) : mi M (sA w i) 0 = vwC w M 125 i := (vwC_at (f := 125) (i := i) (by decide) h).symm
theorem sC_125 {w i : Nat} {M : Mem} {x : Int32} (h : i < 8) : vwC w (si M (sA w i) 0 x) = u2 (vwC w M) 125 i x := vwC_si (f := 125) (i := i) (by decide) h
theorem rC_126 {w i : Nat} {M : Mem} (h : i < 8) : mi M (sA w i) 1 = vwC w M 126 i := (vwC_at (f := 126) (i := i) (by decide) h).symm
theorem sC_126 {w i : Nat} {M : Mem} {x : Int32} (h : i < 8) : vwC w (si M (sA w i) 1 x) = u2 (vwC w M) 126 i x := vwC_si (f := 126) (i := i) (by decide) h
theorem cg_d {i k : Nat} (hk : k < 12) : (12 * i + k) / 12 = i ∧ (12 * i + k) % 12 = k := by omega
theorem rC_116 {w i k : Nat} {M : Mem} (h : i < 8) (hk : k < 12) : mi M (sA w i + 1) k = vwC w M 116 (12 * i + k) := by
  rw [vwC_at (f := 116) (by decide) (show 12 * i + k < 96 by omega)]
  show _ = mi M (w + 19 + 2 * ((12 * i + k) / 12) + 1) ((12 * i + k) % 12)
  rw [(cg_d hk).1, (cg_d hk).2]; rfl
theorem sC_116 {w i k : Nat} {M : Mem} {x : Int32} (h : i < 8) (hk : k < 12) : vwC w (si M (sA w i + 1) k x) = u2 (vwC w M) 116 (12 * i + k) x := by
  have := vwC_si (w := w) (M := M) (x := x) (f := 116) (i := 12 * i + k) (by decide) (show 12 * i + k < 96 by omega)
  rw [← this]
  show _ = vwC w (si M (w + 19 + 2 * ((12 * i + k) / 12) + 1) ((12 * i + k) % 12) x)
  rw [(cg_d hk).1, (cg_d hk).2]; rfl
theorem rC_109 {w i : Nat} {M : Mem} {a : Nat} (hp : mp M w 11 = some a) (h : i < 10) : mi M (oA w i) 8 = vwC w M 109 i := by
  unfold vwC; rw [if_pos rfl, if_pos ⟨h, by rw [hp]; intro q; cases q⟩]
theorem sC_109 {w i : Nat} {M : Mem} {x : Int32} {a : Nat} (hp : mp M w 11 = some a) (hi : i < 10) : vwC w (si M (oA w i) 8 x) = u2 (vwC w M) 109 i x := by
  have hn : mp M w 11 ≠ none := by rw [hp]; intro q; cases q
  funext g j
  rw [u2_def, vwC_def, vwC_def, mp_si, mi_si, mi_si]
  by_cases hg : g = 109
  · subst hg
    by_cases hj : j < 10
    · by_cases h : j = i
      · subst h
        rw [if_pos rfl, if_pos ⟨hj, hn⟩, if_pos ⟨rfl, rfl⟩, if_pos ⟨rfl, rfl⟩]
      · have hne : ¬ (oA w j = oA w i ∧ 8 = 8) := fun q => h (by have := q.1; unfold oA at this; omega)
        rw [if_neg (c := 109 = 109 ∧ j = i) (fun q => h q.2), if_pos rfl, if_pos ⟨hj, hn⟩, if_neg hne, if_pos rfl, if_pos ⟨hj, hn⟩]
    · rw [if_neg (c := 109 = 109 ∧ j = i) (fun q => hj (by omega)), if_pos rfl, if_neg (fun q => hj q.1), if_pos rfl, if_neg (fun q => hj q.1)]
  · rw [if_neg (c := g = 109 ∧ j = i) (fun q => hg q.1), if_neg hg, if_neg hg]
    by_cases hj : j < rg g
    · rw [if_pos hj, if_pos hj, if_neg]
      intro q
      exact hg (c_inj (w := w) (f := g) (g := 109) hj (show i < rg 109 from hi) q.1 q.2).1
    · rw [if_neg hj, if_neg hj]
-- what is written: ints of the cells that P names
def FI (P : Nat → Prop) (M M' : Mem) : Prop := (∀ a, ¬ P a → M'.1 a = M.1 a) ∧ M'.2 = M.2
theorem FI.rf {P : Nat → Prop} {M : Mem} : FI P M M := ⟨fun _ _ => rfl, rfl⟩
theorem FI.tr {P : Nat → Prop} {M M' M'' : Mem} (h1 : FI P M M') (h2 : FI P M' M'') : FI P M M'' := ⟨fun a ha => (h2.1 a ha).trans (h1.1 a ha), h2.2.trans h1.2⟩
theorem FI.si {P : Nat → Prop} {M M' : Mem} {a k : Nat} {x : Int32} (h : FI P M M') (ha : P a) : FI P M (si M' a k x) := ⟨fun b hb => by
    funext j; show (if b = a ∧ j = k then x else M'.1 b j) = _
    rw [if_neg (fun q => hb (by rw [q.1]; exact ha)), h.1 b hb], h.2⟩
theorem FI.mono {P P' : Nat → Prop} {M M' : Mem} (h : FI P M M') (hp : ∀ a, P a → P' a) : FI P' M M' := ⟨fun a ha => h.1 a (fun q => ha (hp a q)), h.2⟩
theorem FI.mi {P : Nat → Prop} {M M' : Mem} (h : FI P M M') {a k : Nat} (ha : ¬ P a) : mi M' a k = mi M a k := congrFun (h.1 a ha) k
theorem FI.mp {P : Nat → Prop} {M M' : Mem} (h : FI P M M') {a k : Nat} : mp M' a k = mp M a k := congrFun (congrFun (congrArg Prod.fst h.2) a) k
def PW (w a : Nat) : Prop := w ≤ a ∧ a < w + 35 ∧ a ≠ w + 4
