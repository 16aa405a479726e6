-- LEVEL 3, part 53: the class reads a line of a pact
def FrC (L : Lay) (pa : Nat) (M M' : Mem) : Prop := (∀ a k, ¬ PEx a k → a < L.1 → a ≠ pa → mi M' a k = mi M a k) ∧ ∀ a k, a < L.1 → a ≠ pa → mp M' a k = mp M a k
theorem FrC.rf {L : Lay} {pa : Nat} {M : Mem} : FrC L pa M M := ⟨fun _ _ _ _ _ => rfl, fun _ _ _ _ => rfl⟩
theorem FrC.tr {L L1 : Lay} {pa : Nat} {M M1 M2 : Mem} (hl : L.1 ≤ L1.1) (h1 : FrC L pa M M1) (h2 : FrC L1 pa M1 M2) : FrC L pa M M2 := ⟨fun a k q1 q2 q3 => (h2.1 a k q1 (by omega) q3).trans (h1.1 a k q1 q2 q3), fun a k q2 q3 => (h2.2 a k (by omega) q3).trans (h1.2 a k q2 q3)⟩
theorem FJ.frc {L : Lay} {pa : Nat} {M M' : Mem} (h : FJ PEx M M') : FrC L pa M M' := ⟨fun a k q _ _ => h.1 a k q, fun a k _ _ => h.mp⟩
theorem PEx_lt {a k : Nat} (h : PEx a k) : a < 75 := by unfold PEx at h; omega
theorem pcS_fj {L : Lay} {M M' : Mem} {a m m' : Nat} {s : pS} (hF : FJ PEx M M') (hm : m ≤ m') (hp : pcS L M a m s) : pcS L M' a m' s := by
  obtain ⟨p1, p2, p3, p4, p5, p6, p7, p8, p9, pa⟩ := hp
  have row : ∀ b k, 159 ≤ b → AR L b 0 k → M'.1 b = M.1 b := fun b _ hb _ => funext fun j => hF.1 b j (fun z => by have := PEx_lt z; omega)
  have ei : ∀ k, mi M' a k = mi M a k := fun k => hF.1 _ _ (fun z => by have := PEx_lt z; omega)
  have ep : ∀ k, mp M' a k = mp M a k := fun k => hF.mp
  unfold pcS
  rw [ep, ep, ep, ep, ei, ei, ei]
  exact ⟨p1, p2, lnC_to (LE.rf L) row p3, lnC_to (LE.rf L) row p4, lnC_to (LE.rf L) row p5, faC_to (LE.rf L) (by omega) row p6, p7, p8, p9, pa⟩
section LND
variable {L : Lay} {M : Mem}
theorem c_fallN {pa rc rs : Nat} {Q : Lay → Mem → Prop} (hQ : ∀ M', (∀ a k, a ≠ pa → mi M' a k = mi M a k) → (∀ a k, a ≠ pa → mp M' a k = mp M a k) → Q L M') : w_X4_addFall pa none L rc rs M Q := by
  unfold w_X4_addFall
  intro M1 e1
  have fin : ∀ M2, M2 = sq M1 pa 3 none → Q L M2 := fun M2 e2 => hQ M2 (fun a k q => by rw [e2, mi_sq, e1, mi_si, if_neg (by omega)]) (fun a k q => by rw [e2, mp_sq, if_neg (by omega), e1, mp_si])
  exact ⟨fun _ => fin, fun a3 _ => ⟨fun _ => fin, fun a6 z => by cases z⟩⟩
theorem c_fall {pa b d m rc rs : Nat} {s : pS} {x : Ex} {Q : Lay → Mem → Prop} (hL : 159 ≤ L.1) (hp : pcS L M pa b s) (hn : s.2.1.length < 8) (hd : 159 ≤ d) (hA : AR L d 0 m) (hm : b + m ≤ 1000)
    (hrc : 1 ≤ rc) (hrs : 1010 ≤ rs) (hQ : ∀ L' M', LE L L' → FrC L pa M M' → (∀ a k, a < 159 → mi M' a k = mi M a k) → ((∀ (r : Fx) (V0 : List Int32), V0.length ≤ 1 → rkL r (cdL M d m) V0 = [x r] ++ V0) → pcS L' M' pa (b + m) (s.1, s.2.1 ++ [x], s.2.2)) → Q L' M') : w_X4_addFall pa (some d) L rc rs M Q := by
  obtain ⟨p1, p2, p3, p4, p5, p6, p7, p8, p9, pb⟩ := hp
  have nla : pa < L.1 := p1.1
  unfold w_X4_addFall
  intro M1 e1
  rw [p7, nI_1] at e1
  have i1 : ∀ a k, a ≠ pa → mi M1 a k = mi M a k := fun a k q => by rw [e1, mi_si, if_neg (by omega)]
  have q1 : ∀ a k, mp M1 a k = mp M a k := fun a k => by rw [e1, mp_si]
  have k4 : mi M1 pa 4 = nI (s.2.1.length + 1) := by rw [e1, mi_si, if_pos ⟨rfl, rfl⟩]
  have kr : ∀ k, k ≠ 4 → mi M1 pa k = mi M pa k := fun k q => by rw [e1, mi_si, if_neg (by omega)]
  have len : (s.2.1 ++ [x]).length = s.2.1.length + 1 := by rw [List.length_append]; rfl
  rw [q1]
  rcases p6 with ⟨z1, z2⟩ | ⟨b1, n1, y, z1, z2, z3, z4, z5, z6, z7⟩
  · refine ⟨fun _ M4 e4 => ?_, fun a z => absurd (z1.symm.trans z) (fun w => by cases w)⟩
    have i4 : ∀ a k, mi M4 a k = mi M1 a k := fun a k => by rw [e4, mi_sq]
    have j4 : ∀ a k, ¬ (a = pa ∧ k = 3) → mp M4 a k = mp M a k := fun a k q => by rw [e4, mp_sq, if_neg q, q1]
    have row : ∀ e k, 159 ≤ e → AR L e 0 k → M4.1 e = M.1 e := fun e k he hk => funext fun j => by
      have ne : e ≠ pa := fun w => ob_ar p1 (by rw [w] at hk; exact hk)
      exact (i4 e j).trans (i1 e j ne)
    refine hQ L M4 (LE.rf L) ⟨fun a k _ _ q => (i4 a k).trans (i1 a k q), fun a k _ q => j4 a k (fun w => q w.1)⟩ (fun a k q => (i4 a k).trans (i1 a k (by omega))) (fun hx => ?_)
    unfold pcS
    rw [j4 pa 0 (by omega), j4 pa 1 (by omega), j4 pa 2 (by omega), i4, i4, i4, k4, kr 5 (by omega), kr 6 (by omega)]
    refine ⟨p1, p2, lnC_to (LE.rf L) row p3, lnC_to (LE.rf L) row p4, lnC_to (LE.rf L) row p5, ?_, by rw [len], by rw [len]; omega, p9, pb⟩
    refine Or.inr ⟨d, m, x, by rw [e4, mp_sq, if_pos ⟨rfl, rfl⟩], hd, hA, by omega, by simp, fun r => ?_, fun r => ?_⟩
    · rw [cdL_cg (row d m hd hA), hx r [] (Nat.zero_le _)]; rfl
    · rw [z2]
      exact ⟨fun h x' hx' => by
        have : x' = x := by simpa using hx'
        rw [this]; exact h, fun h => h x (by simp)⟩
  · have ln1 : n1 ≤ b + s.2.1.length := z4
    refine ⟨fun z => absurd (z1.symm.trans z) (fun w => by cases w), fun a3 _ => ⟨fun z => (by cases z), fun a6 _ => ⟨b1, n1, z1, z3, b1, n1, z1, z3, d, m, rfl, hA, 1, n1 + m + 1, hrc, by omega, ?_⟩⟩⟩
    unfold w_J7_copyOf_59c91
    rw [nI_add, nI_1, nI_eq' (by omega) (by omega), tn_nI (n := n1 + m + 1) (by omega)]
    have mn : jmin (nI n1) (nI (n1 + m + 1)) = nI n1 := by
      unfold jmin
      rw [if_neg (fun z => by have := (nI_ltI (a := n1 + m + 1) (b := n1) (by omega) (by omega)).mp z; omega)]
    rw [mn, tn_nI (n := n1) (by omega)]
    refine ⟨fun z => absurd z (by omega), fun _ => ⟨Nat.le_refl _, ⟨nI_pos (by omega), by omega⟩, Nat.le_refl _, fun L5 M6 e6 => ⟨⟨by decide, by decide, nI_pos (by omega), by show 0 + n1 ≤ n1; omega, by show 0 + n1 ≤ n1 + m + 1; omega⟩, fun M9 e9 => ?_⟩⟩⟩
    have eL : L5 = (alc (L, M1) (20, n1 + m + 1)).1 := congrArg Prod.fst e6
    have eM : M6 = (alc (L, M1) (20, n1 + m + 1)).2 := congrArg Prod.snd e6
    have hE : LE L L5 := LE.of_alc e6
    have hA5 : AR L5 L.1 0 (n1 + m + 1) := AR.of_alc (t := 0) (n := n1 + m + 1) e6
    have i6 : ∀ a k, a ≠ L.1 → mi M6 a k = mi M1 a k := fun a k q => by
      rw [eM]; show (if a = L.1 then fun _ => 0 else M1.1 a) k = _; rw [if_neg q]; rfl
    have p6 : ∀ a k, a ≠ L.1 → mp M6 a k = mp M1 a k := fun a k q => by
      rw [eM]; show (if a = L.1 then fun _ => none else M1.2.1 a) k = _; rw [if_neg q]; rfl
    have i9 : ∀ a k, a ≠ L.1 → mi M9 a k = mi M1 a k := fun a k q => by
      rw [← i6 a k q, e9]; show (if a = L.1 then _ else M6.1 a k) = _; rw [if_neg q]; rfl
    have p9' : ∀ a k, a ≠ L.1 → mp M9 a k = mp M1 a k := fun a k q => by
      rw [← p6 a k q, e9]; rfl
    have r9 : ∀ j, j < n1 → mi M9 L.1 j = mi M1 b1 j := fun j hj => by
      rw [e9]
      show (if L.1 = L.1 then va_cpy (M6.1 b1) (M6.1 L.1) 0 0 n1 j else M6.1 L.1 j) = _
      rw [if_pos rfl]
      unfold va_cpy
      rw [if_pos (by omega)]
      have := i6 b1 j (by have := z3.1; omega)
      show M6.1 b1 (0 + (j - 0)) = mi M1 b1 j
      rw [Nat.sub_zero, Nat.zero_add]; exact this
    have pne : pa ≠ L.1 := by omega
    have dne : d ≠ L.1 := by have := hA.1; omega
    refine ⟨L.1, n1 + m + 1, rfl, hA5, d, m, rfl, hE.ar hA, b1, n1, by rw [p9' pa 3 pne, q1]; exact z1, hE.ar z3, d, m, rfl, hE.ar hA, ?_⟩
    rw [tn_nI (n := n1) (by omega), tn_nI (n := m) (by omega), show nI (n1 + m + 1) - (1 : Int32) = nI (n1 + m) from by rw [show (1 : Int32) = nI 1 from rfl, pk_sub (by omega), Nat.add_sub_cancel]]
    refine ⟨⟨by decide, nI_pos (by omega), nI_pos (by omega), by show 0 + m ≤ m; omega, by omega⟩, fun M21 e21 => ⟨vp_in_nI (by omega) (by omega), fun M23 e23 M24 e24 => ?_⟩⟩
    rw [tn_nI (n := n1 + m) (by omega)] at e23
    have i21 : ∀ a k, a ≠ L.1 → mi M21 a k = mi M1 a k := fun a k q => by
      rw [← i9 a k q, e21]; show (if a = L.1 then _ else M9.1 a k) = _; rw [if_neg q]; rfl
    have r21 : ∀ j, mi M21 L.1 j = if n1 ≤ j ∧ j < n1 + m then mi M1 d (j - n1) else mi M9 L.1 j := fun j => by
      rw [e21]
      show (if L.1 = L.1 then va_cpy (M9.1 d) (M9.1 L.1) 0 n1 m j else M9.1 L.1 j) = _
      rw [if_pos rfl]
      unfold va_cpy
      by_cases q : n1 ≤ j ∧ j < n1 + m
      · rw [if_pos q, if_pos q]
        have := i9 d (j - n1) dne
        show M9.1 d (0 + (j - n1)) = _
        rw [Nat.zero_add]; exact this
      · rw [if_neg q, if_neg q]; rfl
    have p21 : ∀ a k, a ≠ L.1 → mp M21 a k = mp M a k := fun a k q => by
      rw [← q1 a k, ← p9' a k q, e21]; rfl
    have i24 : ∀ a k, a ≠ L.1 → mi M24 a k = mi M1 a k := fun a k q => by rw [e24, mi_sq, e23, mi_si, if_neg (by omega)]; exact i21 a k q
    have p24 : ∀ a k, a ≠ L.1 → ¬ (a = pa ∧ k = 3) → mp M24 a k = mp M a k := fun a k q q2 => by rw [e24, mp_sq, if_neg q2, e23, mp_si]; exact p21 a k q
    have row : ∀ e k, 159 ≤ e → AR L e 0 k → M24.1 e = M.1 e := fun e k he hk => funext fun j => by
      have ne : e ≠ pa := fun w => ob_ar p1 (by rw [w] at hk; exact hk)
      exact (i24 e j (by have := hk.1; omega)).trans (i1 e j ne)
    have cd : cdL M24 L.1 (n1 + m + 1) = cdL M b1 n1 ++ cdL M d m ++ [20010] := by
      have s1 : cdL M24 L.1 (n1 + m + 1) = cdL M24 L.1 (n1 + m) ++ [mi M24 L.1 (n1 + m)] := by
        unfold cdL; rw [List.range_succ, List.map_append]; rfl
      rw [s1, cdL_add]
      have s2 : mi M24 L.1 (n1 + m) = 20010 := by rw [e24, mi_sq, e23, mi_si, if_pos ⟨rfl, rfl⟩]
      have s3 : cdL M24 L.1 n1 = cdL M b1 n1 := by
        unfold cdL
        refine List.map_congr_left (fun j hj => ?_)
        have hj := List.mem_range.mp hj
        have ne : b1 ≠ pa := fun w => ob_ar p1 (by rw [w] at z3; exact z3)
        rw [e24, mi_sq, e23, mi_si, if_neg (by omega), r21, if_neg (by omega), r9 j hj, i1 _ _ ne]
      have s4 : (List.range m).map (fun j => mi M24 L.1 (n1 + j)) = cdL M d m := by
        unfold cdL
        refine List.map_congr_left (fun j hj => ?_)
        have hj := List.mem_range.mp hj
        have ne : d ≠ pa := fun w => ob_ar p1 (by rw [w] at hA; exact hA)
        rw [e24, mi_sq, e23, mi_si, if_neg (by omega), r21, if_pos (by omega), Nat.add_sub_cancel_left, i1 _ _ ne]
      rw [s2, s3, s4]
    refine hQ L5 M24 hE ⟨fun a k _ q2 q => (i24 a k (by omega)).trans (i1 a k q), fun a k q2 q => p24 a k (by omega) (fun w => q w.1)⟩ (fun a k q => (i24 a k (by omega)).trans (i1 a k (by omega))) (fun hx => ?_)
    unfold pcS
    rw [p24 pa 0 pne (by omega), p24 pa 1 pne (by omega), p24 pa 2 pne (by omega), i24 _ _ pne, i24 _ _ pne, i24 _ _ pne, k4, kr 5 (by omega), kr 6 (by omega)]
    refine ⟨hE.ob p1, p2, lnC_to hE row p3, lnC_to hE row p4, lnC_to hE row p5, ?_, by rw [len], by rw [len]; omega, p9, pb⟩
    refine Or.inr ⟨L.1, n1 + m + 1, fun r => cmF 10 (y r) (x r), by rw [e24, mp_sq, if_pos ⟨rfl, rfl⟩], hL, hA5, by rw [len]; omega, by simp, fun r => ?_, fun r => ?_⟩
    · rw [cd, rkL_1]
      have ap : ∀ A B : List Int32, rkL r (A ++ B) [] = rkL r B (rkL r A []) := fun A B => by unfold rkL; rw [List.foldl_append]
      rw [ap, z6 r, hx r [y r] (Nat.le_refl _)]; rfl
    · show cmF 10 (y r) (x r) = 0 ↔ _
      have e : cmF 10 (y r) (x r) = if y r = 0 then (if x r = 0 then 0 else 1) else 1 := rfl
      rw [e]
      constructor
      · intro h x' hx'
        by_cases c1 : y r = 0
        · rw [if_pos c1] at h
          by_cases c2 : x r = 0
          · rcases List.mem_append.mp hx' with w | w
            · exact (z7 r).mp c1 x' w
            · have : x' = x := by simpa using w
              rw [this]; exact c2
          · rw [if_neg c2] at h; exact absurd h (by decide)
        · rw [if_neg c1] at h; exact absurd h (by decide)
      · intro h
        rw [if_pos ((z7 r).mpr (fun x' w => h x' (List.mem_append.mpr (Or.inl w)))), if_pos (h x (by simp))]
end LND
