-- LEVEL 3, part 49: the class reads an expression
theorem tkE_rng {T : Nat → Nat} {n b : Nat} (hb : b ≤ n) : (b < n → b < tkE T n b) ∧ b ≤ tkE T n b ∧ tkE T n b ≤ n := by
  unfold tkE
  by_cases c : b < n
  · rw [if_pos c]
    by_cases d : isL (T b) = true
    · rw [if_pos d]
      have r := sk_rng (p := isL) (T := T) (n := n) (n - (b + 1)) (b + 1) rfl (by omega)
      rw [← sk_yes c d] at r
      exact ⟨fun _ => by omega, by omega, r.2.1⟩
    · rw [if_neg d]
      by_cases f : isD (T b) = true
      · rw [if_pos f]
        have r := sk_rng (p := isD) (T := T) (n := n) (n - (b + 1)) (b + 1) rfl (by omega)
        rw [← sk_yes c f] at r
        exact ⟨fun _ => by omega, by omega, r.2.1⟩
      · rw [if_neg f]; exact ⟨fun _ => by omega, by omega, by omega⟩
  · rw [if_neg c]; exact ⟨fun q => absurd q c, by omega, hb⟩
theorem pt_tab : ∀ c, c < 128 → (if nI c < (13 : Int32) then (0 : Int32) else (if (26 : Int32) < nI c then (0 : Int32) else (1 : Int32))) = (if 13 ≤ c ∧ c ≤ 26 then 1 else 0) ∧ (if nI c = (11 : Int32) then (1 : Int32) else (if nI c = (40 : Int32) then (1 : Int32) else (0 : Int32))) = (if c = 11 ∨ c = 40 then 1 else 0) := by decide +kernel
theorem pt_op : ∀ c, c < 128 → ptF c = true → rkO (nI c) = 0 ∧ c ≠ 32 := by decide +kernel
theorem rk_32 : ∀ c, c < 128 → rkO (nI c) ≠ 0 → c ≠ 32 ∧ c ≠ 41 ∧ c ≠ 59 := by decide +kernel
theorem fc_tab : ∀ c, 13 ≤ c → c ≤ 26 → (10000 : Int32) + nI c < 20000 ∧ ¬ ((10000 : Int32) + nI c < 10000) ∧ (10000 : Int32) + nI c - 10000 = nI c ∧ ¬ nI c < 13 ∧ ¬ 26 < nI c ∧ tn (nI c - 13) = c - 13 := by
  have : ∀ c, c < 27 → 13 ≤ c → (10000 : Int32) + nI c < 20000 ∧ ¬ ((10000 : Int32) + nI c < 10000) ∧ (10000 : Int32) + nI c - 10000 = nI c ∧ ¬ nI c < 13 ∧ ¬ 26 < nI c ∧ tn (nI c - 13) = c - 13 := by decide +kernel
  exact fun c h1 h2 => this c (by omega) h1
section EXD
variable {L : Lay} {M : Mem}
theorem c_part5 {c : Nat} {Q : Int32 → Mem → Prop} (h3 : mi M 71 3 = nI c) (hc : c < 128) (h0 : ptF c = false → Q 0 M) (h1 : ptF c = true → w_X5_takePart_67 L (if 13 ≤ c ∧ c ≤ 26 then 1 else 0) (if c = 11 ∨ c = 40 then 1 else 0) M Q) : w_X5_takePart L M Q := by
  unfold w_X5_takePart
  rw [h3]
  intro x1 e1 x2 e2
  obtain ⟨t1, t2⟩ := pt_tab c hc
  rw [t1] at e1
  rw [t2] at e2
  subst e1 e2
  have pt : ptF c = (((decide (13 ≤ c) && decide (c ≤ 26)) || decide (c = 11) || decide (c = 40)) || decide (c = 30)) := rfl
  by_cases a : 13 ≤ c ∧ c ≤ 26
  · have p : ptF c = true := by rw [pt]; simp [a.1, a.2]
    have g := h1 p
    rw [if_pos a] at g ⊢
    exact ⟨fun z => absurd z (by decide), fun _ => g⟩
  · by_cases b : c = 11 ∨ c = 40
    · have p : ptF c = true := by rw [pt]; rcases b with b | b <;> simp [b]
      have g := h1 p
      rw [if_neg a, if_pos b] at g ⊢
      exact ⟨fun _ => ⟨fun z => absurd z (by decide), fun _ => g⟩, fun z => absurd rfl z⟩
    · by_cases d : c = 30
      · have p : ptF c = true := by rw [pt]; simp [d]
        have g := h1 p
        rw [if_neg a, if_neg b] at g ⊢
        exact ⟨fun _ => ⟨fun _ => ⟨fun _ => g, fun z => absurd (by rw [d]; rfl) z⟩, fun z => absurd rfl z⟩, fun z => absurd rfl z⟩
      · have p : ptF c = false := by
          rw [pt]
          have b1 : ¬ c = 11 := fun z => b (Or.inl z)
          have b2 : ¬ c = 40 := fun z => b (Or.inr z)
          have a1 : (decide (13 ≤ c) && decide (c ≤ 26)) = false := by
            by_cases q : 13 ≤ c
            · have : ¬ c ≤ 26 := fun z => a ⟨q, z⟩
              simp [this]
            · simp [q]
          rw [a1]; simp [b1, b2, d]
        have g := h0 p
        rw [if_neg a, if_neg b]
        refine ⟨fun _ => ⟨fun _ => ⟨fun z => ?_, fun _ => g⟩, fun z => absurd rfl z⟩, fun z => absurd rfl z⟩
        exact absurd ((nI_eq (by omega) (by omega)).mp (z.trans (show (30 : Int32) = nI 30 from rfl))) d
theorem c_expr {T : Nat → Nat} {n b0 rc rs : Nat} {v0 : Ex} {Q : Option Nat → Lay → Mem → Prop} (hT : okT T n) (hL : 159 ≤ L.1) (h1 : 1 ≤ b0) (hb : b0 ≤ n) (hr : rdC M T n) (ht : rtC M T n b0) (h2 : mi M 71 2 = 0) (hrc : 1 ≤ rc)
    (hrs : exE (exR T n (n + 1) b0 (true, v0, noD, [])) - b0 ≤ rs) (hQ : ∀ o L' M', xrC L M T n b0 (exR T n (n + 1) b0 (true, v0, noD, [])) o L' M' → Q o L' M') : w_X5_readExpression L rc rs M Q := by
  have hn := hT.1
  unfold w_X5_readExpression
  intro M1 e1 M2 e2 M3 e3 M4 e4 M5 e5
  have F5 : FJ PEx M M5 := by rw [e5, e4, e3, e2, e1]; exact ((((FJ.rf.si (by unfold PEx; omega)).si (by unfold PEx; omega)).si (by unfold PEx; omega)).si (by unfold PEx; omega)).si (by unfold PEx; omega)
  have k : ∀ j, j ≠ 8 → j ≠ 10 → j ≠ 11 → j ≠ 12 → j ≠ 13 → mi M5 71 j = mi M 71 j := fun j a1 a2 a3 a4 a5 => by
    rw [e5, mi_si, if_neg (by omega), e4, mi_si, if_neg (by omega), e3, mi_si, if_neg (by omega), e2, mi_si, if_neg (by omega), e1, mi_si, if_neg (by omega)]
  have k8 : mi M5 71 8 = nI 0 := by rw [e5, mi_si, if_neg (by omega), e4, mi_si, if_neg (by omega), e3, mi_si, if_neg (by omega), e2, mi_si, if_neg (by omega), e1, mi_si, if_pos ⟨rfl, rfl⟩]; rfl
  have k10 : mi M5 71 10 = nI 0 := by rw [e5, mi_si, if_neg (by omega), e4, mi_si, if_neg (by omega), e3, mi_si, if_neg (by omega), e2, mi_si, if_pos ⟨rfl, rfl⟩]; rfl
  have k11 : mi M5 71 11 = 1 := by rw [e5, mi_si, if_neg (by omega), e4, mi_si, if_neg (by omega), e3, mi_si, if_pos ⟨rfl, rfl⟩]
  have k12 : mi M5 71 12 = nI 0 := by rw [e5, mi_si, if_neg (by omega), e4, mi_si, if_pos ⟨rfl, rfl⟩]; rfl
  have k13 : mi M5 71 13 = nI 0 := by rw [e5, mi_si, if_pos ⟨rfl, rfl⟩]; rfl
  generalize hR : exR T n (n + 1) b0 (true, v0, noD, []) = R at *
  refine LP5_c0 0 1000 (fun i L1 rc1 rs1 M' => ∃ b f w x D S c W, L1 = L ∧ rc1 = rc ∧ rs1 = rs ∧ i + b0 ≤ b ∧ b ≤ n ∧ n < b + f ∧ R = exR T n f b (w, x, D, S) ∧ mi M' 71 2 = 0 ∧ rtC M' T n b ∧ mi M' 71 11 = (if w = true then 1 else 0) ∧ mi M' 71 12 = nI (opN S) ∧ mi M' 71 13 = nI S.length ∧
    esC M' c W ∧ ceQ c W w x D S ∧ okE (w, x, D, S) ∧ c.length + W.length + b0 ≤ b ∧ FJ PEx M M') rfl (Nat.zero_le _)
    ⟨b0, n + 1, true, v0, noD, [], [], [], rfl, rfl, rfl, by omega, hb, by omega, hR.symm, (k 2 (by omega) (by omega) (by omega) (by omega) (by omega)).trans h2, rt_cg ht (fun j a b => k j (by omega) (by omega) (by omega) (by omega) (by omega)), k11, k12, k13, ⟨k8, rfl, k10, rfl⟩, cq_new, ⟨fun k _ q hq => (by cases hq), Nat.zero_le _, fun z => by cases z⟩, by simp, F5⟩ ?_
  intro i L1 rc1 rs1 M6 hi _ ⟨b, f, w, x, D, S, c, W, q1, q2, q3, ib, bn, nf, hx, g2, gt, g11, g12, g13, ges, gce, gok, gl, F6⟩ K hK
  subst q1 q2 q3
  obtain ⟨ok1, ok2, ok3⟩ := id gok
  have ok1 : okS D S := ok1
  have ok2 : S.length ≤ 5 := ok2
  have ok3 : w = false → hdN S := ok3
  obtain ⟨tc1, tc2, tc3⟩ := tk_code (T := T) (n := n) (b := b) hT
  have te := tkE_rng (T := T) bn
  obtain ⟨f', rfl⟩ : ∃ f', f = f' + 1 := ⟨f - 1, by omega⟩
  rw [exR_s] at hx
  have wl := W_len gce ok2
  have g6r := rd_cg hr F6
  generalize hc : tkC T n b = cc at *
  -- on to the next token
  have go : ∀ (s' : exS) (M7 : Mem) (c' W' : List Int32), cc ≠ 32 → stX cc (tkV T n b) (w, x, D, S) = .inr (some s') → mi M7 71 2 = 0 → rtC M7 T n b → mi M7 71 11 = (if s'.1 = true then 1 else 0) → mi M7 71 12 = nI (opN s'.2.2.2) → mi M7 71 13 = nI s'.2.2.2.length → esC M7 c' W' → ceQ c' W' s'.1 s'.2.1 s'.2.2.1 s'.2.2.2 → c'.length + W'.length + b0 ≤ b + 1 → FJ PEx M M7 →
      w_X5_readExpression_75 K (nI i) 1 L1 rc1 rs1 M7 Q := fun s' M7 c' W' a0 a1 a2 a3 a4 a5 a6 a7 a8 a9 F7 => by
    have bl : b < n := by
      by_cases z : b < n
      · exact z
      · exact absurd (tc2.mpr z) a0
    unfold w_X5_readExpression_75
    refine ⟨fun z => absurd z (by decide), fun _ => ?_⟩
    rw [a1] at hx
    have rb := tk_rng (T := T) te.2.2
    have te1 := te.1 bl
    refine c_next5 hT (rd_cg hr F7) a3.2.1 te.2.2 (fun M8 r8 F8 y hy => ?_)
    rw [hy, nI_1]
    have j : ∀ k, k ≠ 3 → k ≠ 4 → k ≠ 5 → k ≠ 6 → mi M8 71 k = mi M7 71 k := fun k z1 z2 z3 z4 => F8.1 _ _ (by unfold PK; omega)
    refine hK (by omega) _ _ _ M8 ⟨tkB T n (tkE T n b), f', s'.1, s'.2.1, s'.2.2.1, s'.2.2.2, c', W', rfl, rfl, rfl, by omega, rb.2.1, by omega, hx, (j 2 (by omega) (by omega) (by omega) (by omega)).trans a2, r8, (j 11 (by omega) (by omega) (by omega) (by omega)).trans a4, (j 12 (by omega) (by omega) (by omega) (by omega)).trans a5, (j 13 (by omega) (by omega) (by omega) (by omega)).trans a6,
      es_cg a7 (j 8 (by omega) (by omega) (by omega) (by omega)) (fun z => F8.1 _ _ (by unfold PK; omega)) (j 10 (by omega) (by omega) (by omega) (by omega)) (fun z => F8.1 _ _ (by unfold PK; omega)), a8, st_ok gok a1, by omega, F7.tr (F8.mono (fun a k z => by unfold PK at z; unfold PEx; omega))⟩
  -- a fault that is told
  have flt : ∀ (kk : Nat) (M7 M8 : Mem), stX cc (tkV T n b) (w, x, D, S) = .inl kk → 1 ≤ kk → kk < 16 → rtC M7 T n b → FJ PEx M M7 → M8 = si M7 71 2 (nI (kk + 16 * b)) → Q none L1 M8 := fun kk M7 M8 a1 a2 a3 a4 F7 e8 => by
    rw [a1] at hx
    refine hQ none L1 M8 (Or.inl ⟨kk, b, hx, a2, a3, bn, rfl, rfl, by rw [e8, mi_si, if_pos ⟨rfl, rfl⟩], by rw [e8, mi_si, if_neg (by omega)]; exact a4.2.1, by rw [e8, mi_si, if_neg (by omega)]; exact a4.1, by rw [e8]; exact F7.si (by unfold PEx; omega)⟩)
  -- a stop
  have stp : ∀ (M7 : Mem) (c' W' : List Int32), w = false → esC M7 c' W' → c'.length + W'.length + b0 ≤ b → W'.length < 64 → mi M7 71 11 = 0 → mi M7 71 2 = 0 → rtC M7 T n b → mi M7 71 12 = nI (opN S) → FJ PEx M M7 → ((0 < opN S ∨ ¬ cc = 59) → stX cc (tkV T n b) (w, x, D, S) = .inl 1) → (opN S = 0 → cc = 59 → stX cc (tkV T n b) (w, x, D, S) = .inr none ∧ S = [] ∧ c' = c ∧ W' = W) →
      w_X5_readExpression_75 K (nI i) 0 L1 rc1 rs1 M7 Q := fun M7 c' W' hw a1 a2 a3 a4 a5 a6 a7 F7 s1 s2 => by
    have op5 := opN_le S
    unfold w_X5_readExpression_75
    refine ⟨fun _ => ?_, fun z => absurd rfl z⟩
    have rbE : exE R = b ∨ 0 < opN S := by
      by_cases z : 0 < opN S
      · exact Or.inr z
      · refine Or.inl ?_
        by_cases y : cc = 59
        · rw [(s2 (by omega) y).1] at hx; rw [hx]; rfl
        · rw [s1 (Or.inr y)] at hx; rw [hx]; rfl
    by_cases z0 : 0 < opN S
    · -- a fault: room isn't wanted
      unfold w_X5_readExpression_93
      rw [a4, a7, show (0 : Int32) = nI 0 from rfl, nI_lt' (by omega) (by omega)]
      refine ⟨fun _ => ⟨fun _ => ?_, fun y => absurd z0 y⟩, fun y => absurd rfl y⟩
      unfold w_X5_readExpression_107
      refine c_refuse (k := 1) a5 a6.1 (fun M8 e8 => ?_)
      unfold w_X5_readExpression_112
      have k2 : mi M8 71 2 = nI (1 + 16 * b) := by rw [e8, mi_si, if_pos ⟨rfl, rfl⟩]
      rw [k2, show (0 : Int32) = nI 0 from rfl, nI_eq' (by omega) (by omega)]
      exact ⟨fun y => absurd y (by omega), fun _ => flt 1 M7 M8 (s1 (Or.inl z0)) (by omega) (by omega) a6 F7 e8⟩
    · have eb := rbE.resolve_right z0
      refine c_stop hL a1 (by omega) a3 hrc (by omega) a5 a6 a4 a7 (by omega) (fun z => absurd z z0) (fun z L' M8 xa j => ?_) (by omega)
      have k71 : ∀ k, 3 ≤ k → k ≤ 6 → mi M8 71 k = mi M7 71 k := fun k y1 y2 => j k (by omega) (by omega)
      have xa' : xaC L1 L' M M8 (c' ++ mpW W') := ⟨xa.1, xa.2.1, xa.2.2.1, xa.2.2.2.1, fun a k y1 y2 => by rw [xa.2.2.2.2.1 a k y1 y2]; exact F7.1 a k y1, fun a k y => by rw [xa.2.2.2.2.2 a k y]; exact F7.mp⟩
      refine hQ _ L' M8 (Or.inr ⟨c' ++ mpW W', b, rfl, ?_, xa', (j 2 (by omega) (by omega)).trans a5, rt_cg a6 k71, bn, ?_⟩)
      · rw [List.length_append]; unfold mpW; rw [List.length_map]; omega
      · rw [hc]
        by_cases y : cc = 59
        · obtain ⟨y1, y2, y3, y4⟩ := s2 z y
          subst y2 y3 y4
          rw [y1] at hx
          refine Or.inr ⟨_, hx, y, ?_⟩
          have ce : ceQ c' W' false (cvD D x 5) (clD D 5) [] := by rw [hw] at gce; exact ⟨gce.1, gce.2⟩
          have fin := cq_all (okS_rk ok1) 5 (by omega) (by omega) c' W' ce
          intro r V0 hV
          exact fin.2 r V0 hV
        · rw [s1 (Or.inr y)] at hx
          exact Or.inl ⟨hx, y⟩
  unfold w_X5_readExpression_27
  rw [show (1000 : Int32) = nI 1000 from rfl, nI_lt' (by omega) (by omega), g11, gt.2.2.1, hc]
  refine ⟨fun hlt => ⟨fun _ => ?_, fun z => absurd g2 z⟩, fun z => by omega⟩
  cases w with
  | true =>
    rw [if_pos rfl] at g11 ⊢
    refine ⟨fun z => absurd z (by decide), fun _ => ?_⟩
    have s1 : stX cc (tkV T n b) (true, x, D, S) = if ptF cc = false then .inl 1 else if S.length = 5 then .inl 5 else if cc = 11 ∨ cc = 40 then .inr (some (true, x, noD, (decide (cc = 11), D) :: S)) else .inr (some (false, (clN (vlF cc (tkV T n b)) D S).1, (clN (vlF cc (tkV T n b)) D S).2.1, (clN (vlF cc (tkV T n b)) D S).2.2)) := rfl
    refine c_part5 (c := cc) (by rw [gt.2.2.1, hc]) tc1 (fun p => ?_) (fun p => ?_)
    · rw [if_pos p] at s1
      unfold w_X5_readExpression_75
      exact ⟨fun _ => c_want g11 gt (by omega) ⟨fun _ M8 e8 => flt 1 M6 M8 s1 (by omega) (by omega) gt F6 e8, fun z => absurd g2 z⟩, fun z => absurd rfl z⟩
    · rw [if_neg (by rw [p]; decide)] at s1
      have c32 := (pt_op cc tc1 p).2
      unfold w_X5_takePart_67
      rw [g13, show (5 : Int32) = nI 5 from rfl, nI_lt' (by omega) (by omega)]
      refine ⟨fun h5 => ?_, fun h5 => ?_⟩
      · rw [if_neg (by omega)] at s1
        by_cases enc : cc = 11 ∨ cc = 40
        · rw [if_pos enc] at s1 ⊢
          refine ⟨fun z => absurd z (by decide), fun _ M7 e7 y hy M8 e8 => ?_⟩
          rw [nI_1] at e7
          have k73 : mi M7 71 3 = nI cc := by rw [e7, mi_si, if_neg (by omega), gt.2.2.1, hc]
          have hy2 : y = nI (if cc = 11 then 0 else 1) := by
            rw [hy, k73]
            rcases enc with z | z
            · rw [if_pos z, z]; decide
            · rw [z]; decide
          have k712 : mi M7 71 12 = nI (opN S) := by rw [e7, mi_si, if_neg (by omega)]; exact g12
          rw [k712, hy2, nI_add] at e8
          have j8 : ∀ a k, ¬ (a = 71 ∧ (k = 12 ∨ k = 13)) → mi M8 a k = mi M6 a k := fun a k z => by rw [e8, mi_si, if_neg (by omega), e7, mi_si, if_neg (by omega)]
          have es8 : esC M8 c W := es_cg ges (j8 _ _ (by omega)) (fun z => j8 _ _ (by omega)) (j8 _ _ (by omega)) (fun z => j8 _ _ (by omega))
          refine c_push5 es8 (by omega) (fun M9 g9 F9 => ?_)
          rw [j8 71 3 (by omega), gt.2.2.1, hc] at g9
          have F8 : FJ PEx M M8 := by rw [e8, e7]; exact (F6.si (by unfold PEx; omega)).si (by unfold PEx; omega)
          refine go _ M9 c (nI cc :: W) c32 s1 ?_ ?_ ?_ ?_ ?_ g9 ?_ ?_ (F8.tr (F9.mono (fun a k z => by unfold PEx; omega)))
          · rw [F9.1 _ _ (by omega), j8 _ _ (by omega)]; exact g2
          · exact rt_cg gt (fun k z1 z2 => by rw [F9.1 _ _ (by omega), j8 _ _ (by omega)])
          · show mi M9 71 11 = if true = true then 1 else 0
            rw [F9.1 _ _ (by omega), j8 _ _ (by omega), if_pos rfl]; exact g11
          · show mi M9 71 12 = nI ((if decide (cc = 11) = true then 0 else 1) + opN S)
            rw [F9.1 _ _ (by omega), e8, mi_si, if_pos ⟨rfl, rfl⟩, Nat.add_comm]
            by_cases z : cc = 11
            · rw [if_pos z, if_pos (decide_eq_true z)]
            · rw [if_neg z, if_neg (by simp [z])]
          · show mi M9 71 13 = nI (S.length + 1)
            rw [F9.1 _ _ (by omega), e8, mi_si, if_neg (by omega), e7, mi_si, if_pos ⟨rfl, rfl⟩]
          · have := cq_opens (b := decide (cc = 11)) gce
            have e : (if decide (cc = 11) = true then (11 : Int32) else 40) = nI cc := by
              rcases enc with z | z
              · rw [z]; rfl
              · rw [z]; rfl
            rw [e] at this; exact this
          · rw [List.length_cons]; omega
        · rw [if_neg enc] at s1 ⊢
          refine ⟨fun _ y hy => ?_, fun z => absurd rfl z⟩
          rw [gt.2.2.1, hc] at hy
          have hy4 : y < 20000 ∧ ∀ r : Fx, (if y < 10000 then y else fcF r (y - 10000)) = vlF cc (tkV T n b) r := by
            by_cases a : 13 ≤ cc ∧ cc ≤ 26
            · rw [if_pos a, if_neg (by decide)] at hy
              obtain ⟨f1, f2, f3, f4, f5, f6⟩ := fc_tab cc a.1 a.2
              subst hy
              refine ⟨f1, fun r => ?_⟩
              unfold vlF fcF
              rw [if_neg f2, f3, if_neg f4, if_neg f5, f6, if_neg (by omega)]
            · rw [if_neg a, if_pos rfl] at hy
              have c30 : cc = 30 := by
                unfold ptF at p
                have b1 : ¬ cc = 11 := fun z => enc (Or.inl z)
                have b2 : ¬ cc = 40 := fun z => enc (Or.inr z)
                simp [b1, b2] at p
                rcases p with z | z
                · exact absurd z a
                · exact z
              have tv := tkV_lt hT (hc.trans c30)
              rw [gt.2.2.2 (hc.trans c30)] at hy
              subst hy
              refine ⟨(nI_ltI (b := 20000) (by omega) (by omega)).mpr (by omega), fun r => ?_⟩
              unfold vlF
              rw [if_pos (show nI (tkV T n b) < (10000 : Int32) from (nI_ltI (b := 10000) (by omega) (by omega)).mpr tv), if_pos c30]
          refine c_emit5 ges (by omega) (fun M7 g7 F7 => ?_)
          refine c_endP (B := b + 1 - b0) g7 (cq_part gce ok2 hy4.1 hy4.2) ok1 ok2 (by rw [List.length_append]; show c.length + 1 + W.length ≤ _; omega) (by omega) (by rw [F7.1 _ _ (by omega)]; exact g13) (fun M8 c8 W8 b1 b2 b3 b4 b5 b6 F8 => ?_)
          have F68 : FJ PEx M6 M8 := (F7.mono (fun a k z => by unfold PEx; omega)).tr (F8.mono (fun a k z => by unfold PEx; omega))
          have k8 : ∀ k, k ≠ 8 → k ≠ 10 → k ≠ 11 → k ≠ 13 → mi M8 71 k = mi M6 71 k := fun k z1 z2 z3 z4 => by rw [F8.1 _ _ (by omega), F7.1 _ _ (by omega)]
          refine go _ M8 c8 W8 c32 s1 ?_ ?_ ?_ ?_ b5 b1 b2 (by omega) (F6.tr F68)
          · rw [k8 _ (by omega) (by omega) (by omega) (by omega)]; exact g2
          · exact rt_cg gt (fun k z1 z2 => k8 k (by omega) (by omega) (by omega) (by omega))
          · show mi M8 71 11 = if false = true then 1 else 0
            rw [if_neg (by decide)]; exact b4
          · show mi M8 71 12 = nI (opN (clN _ D S).2.2)
            rw [opN_cl, k8 _ (by omega) (by omega) (by omega) (by omega)]; exact g12
      · rw [if_pos (by omega)] at s1
        refine c_refuse (k := 5) g2 gt.1 (fun M7 e7 => ?_)
        unfold w_X5_readExpression_75
        refine ⟨fun _ => c_want (T := T) (n := n) (b := b) (by rw [e7, mi_si, if_neg (by omega)]; exact g11) (rt_cg gt (fun k z1 z2 => by rw [e7, mi_si, if_neg (by omega)])) (by omega) ⟨fun z => ?_, fun _ => flt 5 M6 M7 s1 (by omega) (by omega) gt F6 e7⟩, fun z => absurd rfl z⟩
        rw [e7, mi_si, if_pos ⟨rfl, rfl⟩, show (0 : Int32) = nI 0 from rfl, nI_eq' (by omega) (by omega)] at z
        omega
  | false =>
    rw [if_neg (by decide)] at g11 ⊢
    have hh := ok3 rfl
    refine ⟨fun _ => ?_, fun z => absurd rfl z⟩
    rw [show (41 : Int32) = nI 41 from rfl, nI_eq' (by omega) (by omega)]
    refine ⟨fun c41 => ?_, fun c41 => ?_⟩
    · cases S with
      | nil =>
        have s1 : stX cc (tkV T n b) (false, x, D, []) = .inl 1 := by
          unfold stX; rw [if_neg (c := (false, x, D, ([] : List (Bool × Dc))).1 = true) (by show ¬ (false = true); decide), if_pos c41]
        unfold w_X5_closePart
        refine ⟨fun _ => stp M6 c W rfl ges gl (by omega) g11 g2 gt g12 F6 (fun _ => s1) (fun _ z => by omega), fun z => absurd g12 z⟩
      | cons q S1 =>
        obtain ⟨q1, D1⟩ := q
        have hq1 : q1 = false := hh (q1, D1) S1 rfl
        subst hq1
        have s1 : stX cc (tkV T n b) (false, x, D, (false, D1) :: S1) = .inr (some (false, (clN (cbR D x 1) D1 S1).1, (clN (cbR D x 1) D1 S1).2.1, (clN (cbR D x 1) D1 S1).2.2)) := by
          unfold stX; rw [if_neg (c := (false, x, D, (false, D1) :: S1).1 = true) (by show ¬ (false = true); decide), if_pos c41]
        have l5 : S1.length + 1 ≤ 5 := ok2
        have op1 := opN_le S1
        have e12 : opN ((false, D1) :: S1) = opN S1 + 1 := by show (if false = true then 0 else 1) + opN S1 = _; rw [if_neg (by decide)]; omega
        rw [e12] at g12
        refine c_close5 (B := b - b0) (o := opN S1) ges gce ok1 (by omega) (by omega) (by omega) g13 g12 (by omega) (fun M7 c7 W7 b1 b2 b3 b4 b5 b6 b7 F7 => ?_)
        have F7' : FJ PEx M6 M7 := F7.mono (fun a k z => by unfold PEm at z; unfold PEx; omega)
        have k7 : ∀ k, k ≤ 6 → mi M7 71 k = mi M6 71 k := fun k z => F7.1 _ _ (by unfold PEm; omega)
        refine go _ M7 c7 W7 (by omega) s1 ((k7 2 (by omega)).trans g2) (rt_cg gt (fun k z1 z2 => k7 k (by omega))) ?_ ?_ b6 b1 b2 (by omega) (F6.tr F7')
        · show mi M7 71 11 = if false = true then 1 else 0
          rw [if_neg (by decide)]; exact b4
        · show mi M7 71 12 = nI (opN (clN _ D1 S1).2.2)
          rw [opN_cl]; exact b5
    · have s0 : stX cc (tkV T n b) (false, x, D, S) = if rkO (nI cc) ≠ 0 then (if rkO (nI cc) = 2 ∧ (D 2).isSome = true then .inl 1 else .inr (some (true, x, opD D (nI cc) x, S))) else if cc = 59 ∧ S.length = 0 then .inr none else .inl 1 := by
        unfold stX; rw [if_neg (c := (false, x, D, S).1 = true) (by show ¬ (false = true); decide), if_neg c41]
      have opS : opN S = 0 → S = [] := fun z => by
        cases S with
        | nil => rfl
        | cons q S1 =>
          have := hh q S1 rfl
          have e : opN (q :: S1) = 1 + opN S1 := by show (if q.1 = true then 0 else 1) + opN S1 = _; rw [this, if_neg (by decide)]
          omega
      have e3 : mi M6 71 3 = nI cc := by rw [gt.2.2.1, hc]
      refine c_oper5 (B := b - b0) ges gce ok1 hh ok2 (by omega) (by omega) (fun r0 => ?_) (fun r2 dn M7 c7 W7 b1 b2 b3 b4 F7 => ?_) (fun r0 rd M7 c7 W7 b1 b2 b3 b4 F7 => ?_)
      · rw [e3] at r0
        rw [if_neg (by rw [r0]; exact fun z => z rfl)] at s0
        refine stp M6 c W rfl ges gl (by omega) g11 g2 gt g12 F6 (fun z => ?_) (fun z z2 => ?_)
        · rw [s0, if_neg]
          rintro ⟨y1, y2⟩
          have := opN_le S
          rcases z with z | z
          · omega
          · exact z y1
        · have eS := opS z
          subst eS
          exact ⟨by rw [s0, if_pos ⟨z2, rfl⟩], rfl, rfl, rfl⟩
      · rw [e3] at r2
        have hs : (D 2).isSome = true := by
          cases h : D 2 with
          | none => exact absurd h dn
          | some q => rfl
        rw [if_pos (by rw [r2]; decide), if_pos ⟨r2, hs⟩] at s0
        have k7 : ∀ k, k ≤ 6 ∨ 11 ≤ k → mi M7 71 k = mi M6 71 k := fun k z => F7.1 _ _ (by omega)
        have c59 : cc ≠ 59 := (rk_32 cc tc1 (by rw [r2]; decide)).2.2
        exact stp M7 c7 W7 rfl b1 (by omega) b3 (b4.trans g11) ((k7 2 (by omega)).trans g2) (rt_cg gt (fun k z1 z2 => k7 k (by omega))) ((k7 12 (by omega)).trans g12) (F6.tr (F7.mono (fun a k z => by unfold PEx; omega))) (fun _ => s0) (fun _ z => absurd z c59)
      · rw [e3] at r0 rd b2
        rw [if_pos r0, if_neg (fun z => by have := rd z.1; rw [this] at z; exact absurd z.2 (by decide))] at s0
        have F7' : FJ PEx M6 M7 := F7.mono (fun a k z => by unfold PEx; omega)
        have k7 : ∀ k, k ≤ 6 → mi M7 71 k = mi M6 71 k := fun k z => F7.1 _ _ (by omega)
        refine go _ M7 c7 W7 (rk_32 cc tc1 r0).1 s0 ((k7 2 (by omega)).trans g2) (rt_cg gt (fun k z1 z2 => k7 k (by omega))) ?_ ?_ ?_ b1 b2 (by omega) (F6.tr F7')
        · show mi M7 71 11 = if true = true then 1 else 0
          rw [if_pos rfl]; exact b4
        · show mi M7 71 12 = nI (opN S)
          rw [F7.1 _ _ (by omega)]; exact g12
        · show mi M7 71 13 = nI S.length
          rw [F7.1 _ _ (by omega)]; exact g13
end EXD
