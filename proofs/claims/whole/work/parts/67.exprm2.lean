-- LEVEL 3, part 51: the reference reads an expression
theorem rk_tab : ∀ c, c < 128 → rkO (nI c) = (if c = 9 ∨ c = 10 then 1 else if c = 60 ∨ c = 61 then 2 else if c = 43 ∨ c = 45 then 3 else if c = 42 ∨ c = 47 then 4 else 0) := by decide +kernel
theorem pt_iff {c : Nat} : ptF c = true ↔ (13 ≤ c ∧ c ≤ 26) ∨ c = 11 ∨ c = 40 ∨ c = 30 := by
  unfold ptF
  simp [Bool.or_eq_true, or_assoc]
theorem tm_2 {M : Mem} {T : Nat → Nat} {n b : Nat} (h : tkM M T n b) : mi M 92 47 = 2 ↔ tkC T n b = 30 := by
  rcases h with ⟨a1, a2⟩ | ⟨a1, a2, -⟩ | ⟨a1, a2, -⟩ | ⟨a1, a2, -⟩ | ⟨a1, a2 | ⟨a2, -⟩⟩
  · rw [a2]; exact ⟨fun z => absurd z (by decide), fun z => by omega⟩
  · rw [a2]; exact ⟨fun z => absurd z (by decide), fun z => by omega⟩
  · rw [a2]; exact ⟨fun _ => a1, fun _ => rfl⟩
  · rw [a2]; exact ⟨fun z => absurd z (by decide), fun z => by rw [z] at a1; exact absurd a1 (by decide)⟩
  · rw [a2]; exact ⟨fun z => absurd z (by decide), fun z => by omega⟩
  · rw [a2]; exact ⟨fun z => absurd z (by decide), fun z => by omega⟩
theorem tm_0 {M : Mem} {T : Nat → Nat} {n b : Nat} (h : tkM M T n b) : mi M 92 47 = 0 ↔ tkC T n b = 32 := by
  rcases h with ⟨a1, a2⟩ | ⟨a1, a2, -⟩ | ⟨a1, a2, -⟩ | ⟨a1, a2, -⟩ | ⟨a1, a2 | ⟨a2, -⟩⟩
  · rw [a2]; exact ⟨fun _ => a1, fun _ => rfl⟩
  · rw [a2]; exact ⟨fun z => absurd z (by decide), fun z => by omega⟩
  · rw [a2]; exact ⟨fun z => absurd z (by decide), fun z => by omega⟩
  · rw [a2]; exact ⟨fun z => absurd z (by decide), fun z => by rw [z] at a1; exact absurd a1 (by decide)⟩
  · rw [a2]; exact ⟨fun z => absurd z (by decide), fun z => by omega⟩
  · rw [a2]; exact ⟨fun z => absurd z (by decide), fun z => by omega⟩
theorem tm_v {M : Mem} {T : Nat → Nat} {n b : Nat} (h : tkM M T n b) (c : tkC T n b = 30) : mi M 92 49 = nI (tkV T n b) := by
  rcases h with ⟨a1, a2⟩ | ⟨a1, a2, -⟩ | ⟨a1, a2, a3⟩ | ⟨a1, a2, -⟩ | ⟨a1, -⟩
  · omega
  · omega
  · exact a3
  · rw [c] at a1; exact absurd a1 (by decide)
  · omega
def PEy (s p a k : Nat) : Prop := (a = 92 ∧ (k = 45 ∨ k = 46 ∨ k = 47 ∨ k = 49 ∨ k = 50 ∨ k = 57)) ∨ a = 136 ∨ a = 137 ∨ (a = 135 ∧ s ≤ k) ∨ ((a = 130 ∨ a = 131) ∧ k = 275 + p)
def xrM (M : Mem) (T : Nat → Nat) (n a p : Nat) (R : (Nat × Nat) ⊕ (Nat × Ex)) (x : Int32) (M' : Mem) : Prop :=
  (∃ k b, R = .inl (k, b) ∧ x = 0 ∧ mi M' 92 50 = nI (k + 16 * b) ∧ FLg (PEy a p) M M') ∨
  ∃ b y m, R = .inr (b, y) ∧ x = 1 ∧ b < n ∧ rtM M' T n (tkB T n (tkE T n b)) ∧ mi M' 92 57 = nI (a + m) ∧ a + m ≤ 25000 + b ∧ mi M' 130 (275 + p) = nI a ∧ mi M' 131 (275 + p) = nI (a + m) ∧ vdC (cdM M' a m) y ∧ FLg (PEy a p) M M'
theorem ev_fac1 : ∀ f, f < 15 → 1 ≤ f → ¬ (nI f = 28 ∨ nI f = 30) ∧ ¬ (nI f = 20 ∨ nI f = 21) ∧ ¬ (nI f = 22 ∨ nI f = 23) := by decide +kernel
theorem ev_fac2 : ∀ f, f < 15 → 1 ≤ f → ¬ (nI f = 24 ∨ nI f = 25) ∧ ¬ (nI f = 26 ∨ nI f = 27) ∧ ¬ nI f = 29 := by decide +kernel
theorem ev_fac3 : ∀ f, f < 15 → 1 ≤ f → nI f < 20 ∧ tn (nI f - 1) = f - 1 := by decide +kernel
theorem ev_fact (f : Nat) (h : f < 15) (h1 : 1 ≤ f) : ¬ (nI f = 28 ∨ nI f = 30) ∧ ¬ (nI f = 20 ∨ nI f = 21) ∧ ¬ (nI f = 22 ∨ nI f = 23) ∧ ¬ (nI f = 24 ∨ nI f = 25) ∧ ¬ (nI f = 26 ∨ nI f = 27) ∧ ¬ nI f = 29 ∧ nI f < 20 ∧ tn (nI f - 1) = f - 1 :=
  ⟨(ev_fac1 f h h1).1, (ev_fac1 f h h1).2.1, (ev_fac1 f h h1).2.2, (ev_fac2 f h h1).1, (ev_fac2 f h h1).2.1, (ev_fac2 f h h1).2.2, ev_fac3 f h h1⟩
theorem ev_f {r : Fx} {q : Nat × SS} {f : Nat} (h1 : 1 ≤ f) (h2 : f ≤ 14) : evS r q (nI f) = enE q.2 q.1 (r (f - 1)) := by
  obtain ⟨a1, a2, a3, a4, a5, a6, a7, a8⟩ := ev_fact f (by omega) h1
  unfold evS
  rw [if_neg a1, if_neg a2, if_neg a3, if_neg a4, if_neg a5, if_neg a6, if_pos a7, a8]
theorem ev_n {r : Fx} {q : Nat × SS} {v : Nat} (h : v < 10000) : evS r q (nI (100 + v)) = enE q.2 q.1 (nI v) ∧ ¬ nI (100 + v) = 29 ∧ ¬ nI (100 + v) < 20 := by
  have ne : ∀ k, k < 100 → ¬ nI (100 + v) = nI k := fun k hk z => by
    rw [nI_eq' (by omega) (by omega)] at z; omega
  have lt : ∀ k, k ≤ 100 → ¬ nI (100 + v) < nI k := fun k hk z => by
    rw [nI_lt' (by omega) (by omega)] at z; omega
  refine ⟨?_, ne 29 (by decide), lt 20 (by decide)⟩
  unfold evS
  rw [if_neg (fun z => z.elim (ne 28 (by decide)) (ne 30 (by decide))), if_neg (fun z => z.elim (ne 20 (by decide)) (ne 21 (by decide))), if_neg (fun z => z.elim (ne 22 (by decide)) (ne 23 (by decide))), if_neg (fun z => z.elim (ne 24 (by decide)) (ne 25 (by decide))), if_neg (fun z => z.elim (ne 26 (by decide)) (ne 27 (by decide))), if_neg (show ¬ nI (100 + v) = (29 : Int32) from ne 29 (by decide)), if_neg (show ¬ nI (100 + v) < (20 : Int32) from lt 20 (by decide)), if_neg (show ¬ nI (100 + v) < (100 : Int32) from lt 100 (by decide)),
    show (100 : Int32) = nI 100 from rfl, pk_sub (by omega), Nat.add_sub_cancel_left]
theorem cp_op {D : Dc} {op : Int32} {x : Ex} : cpD2 (opD D op x) = (if rkO op < 2 then 0 else if rkO op = 2 then 1 else cpD2 D) := by
  unfold cpD2
  by_cases c : rkO op < 2
  · rw [if_pos c, opD_gt c, if_neg (by decide)]
  · rw [if_neg c]
    by_cases d : rkO op = 2
    · have : opD D op x 2 = some (op, cbR D x (rkO op)) := by rw [← d]; exact opD_eq
      rw [if_pos d, this]; rfl
    · rw [if_neg d, opD_lt (by omega)]
section EXN
variable {L : Lay} {M : Mem}
theorem m_expr {T : Nat → Nat} {n b0 a p : Nat} {v0 : Ex} {Q : Int32 → Mem → Prop} (hT : okT T n) (hp : p < 11) (hb : b0 ≤ n) (ha : 25000 ≤ a) (hab : a ≤ 25000 + b0) (hr : rdM M T n) (ht : rtM M T n b0) (h57 : mi M 92 57 = nI a)
    (hQ : ∀ x M', xrM M T n a p (exR T n (n + 1) b0 (true, v0, noD, [])) x M' → Q x M') : w_X12_reads L (nI p) M Q := by
  have hn := hT.1
  have nz : narZ 0 = 0 := by decide
  have n1 : narZ 1 = 1 := by decide
  unfold w_X12_reads
  rw [show (275 : Int32) = nI 275 from rfl, nI_add, tn_nI (n := 275 + p) (by omega), nz]
  intro M1 e1
  refine ⟨vp_in_nI (by omega) (by decide), fun M3 e3 => ?_⟩
  have F3 : FLg (PEy a p) M M3 := by rw [e3, e1]; exact (FLg.rf.si (by unfold PEy; omega)).si (by unfold PEy; omega)
  have k3 : ∀ a' k', ¬ PEy a p a' k' → mi M3 a' k' = mi M a' k' := F3.1
  have k57 : mi M3 92 57 = nI (a + 0) := by rw [e3, mi_si, if_neg (by omega), e1, mi_si, if_neg (by omega)]; exact h57
  have r3 : rdM M3 T n := rdM_cg hr (k3 _ _ (by unfold PEy; omega)) (fun i => k3 _ _ (by unfold PEy; omega))
  have t3 : rtM M3 T n b0 := by
    rw [e3, e1]
    unfold rtM tkM at ht ⊢
    simp only [mi_si, ml_i]
    exact ht
  have k130 : mi M3 130 (275 + p) = nI a := by rw [e3, mi_si, if_pos ⟨rfl, rfl⟩, e1, mi_si, if_neg (by omega)]; exact h57
  have k137 : mi M3 137 0 = 0 := by rw [e3, mi_si, if_neg (by omega), e1, mi_si, if_pos ⟨rfl, rfl⟩]
  generalize hR : exR T n (n + 1) b0 (true, v0, noD, []) = R at *
  refine LP3_m (fun m v2 v3 M' => ∃ b f w x D S j, m = f ∧ v2 = nI S.length ∧ v3 = (if w = true then (1 : Int32) else 0) ∧ b0 ≤ b ∧ b ≤ n ∧ n < b + f ∧ R = exR T n f b (w, x, D, S) ∧ rdM M' T n ∧ rtM M' T n b ∧ mi M' 92 57 = nI (a + j) ∧ a + j ≤ 25000 + b ∧ mlS M' D S ∧ vdG (cdM M' a j) w x D S ∧ okE (w, x, D, S) ∧ mi M' 130 (275 + p) = nI a ∧ FLg (PEy a p) M M') (n + 1)
    ⟨b0, n + 1, true, v0, noD, [], 0, rfl, rfl, rfl, Nat.le_refl _, hb, by omega, hR.symm, r3, t3, k57, by omega, k137, vg_new, ⟨fun k _ q hq => (by cases hq), Nat.zero_le _, fun z => (by cases z)⟩, k130, F3⟩ ?_
  intro m v2 v3 M6 ⟨b, f, w, x, D, S, j, em, ev2, ev3, ib, bn, nf, hx, gr, gt, g57, gj, gm, gv, gok, g130, F6⟩ K hK
  subst em ev2 ev3
  obtain ⟨ok1, ok2, ok3⟩ := id gok
  have ok1 : okS D S := ok1
  have ok2 : S.length ≤ 5 := ok2
  have ok3 : w = false → hdN S := ok3
  obtain ⟨tc1, tc2, tc3⟩ := tk_code (T := T) (n := n) (b := b) hT
  have te := tkE_rng (T := T) bn
  obtain ⟨f', rfl⟩ : ∃ f', m = f' + 1 := ⟨m - 1, by omega⟩
  rw [exR_s] at hx
  obtain ⟨cc, hc⟩ : ∃ cc, tkC T n b = cc := ⟨_, rfl⟩
  rw [hc] at hx tc1 tc2 tc3
  have w9 : (1111 : Int64) = lN (whF 9) := by rw [(wl_3 9 (by decide)).1 rfl]; rfl
  have w10 : (423 : Int64) = lN (whF 10) := by rw [(wl_3 10 (by decide)).2.1 rfl]; rfl
  have w11 : (10631 : Int64) = lN (whF 11) := by rw [(wl_3 11 (by decide)).2.2.1 rfl]; rfl
  -- on to the next token
  have go : ∀ (s' : exS) (M7 : Mem) (y : Int32), cc ≠ 32 → stX cc (tkV T n b) (w, x, D, S) = .inr (some s') → mi M7 92 57 = nI (a + (j + 1)) → mi M7 135 (a + j) = y → mlS M7 s'.2.2.1 s'.2.2.2 → vdG (cdM M6 a j ++ [y]) s'.1 s'.2.1 s'.2.2.1 s'.2.2.2 → FJ (fun a' k' => (a' = 92 ∧ k' = 57) ∨ (a' = 135 ∧ k' = a + j) ∨ a' = 136 ∨ a' = 137) M6 M7 →
      w_X12_next L M7 (fun M' => K (nI s'.2.2.2.length) (if s'.1 = true then (1 : Int32) else 0) M') := fun s' M7 y a0 a1 a2 a3 a4 a5 F7 => by
    have bl : b < n := by
      by_cases z : b < n
      · exact z
      · exact absurd (tc2.mpr z) a0
    rw [a1] at hx
    have rb := tk_rng (T := T) te.2.2
    have te1 := te.1 bl
    have r7 : rdM M7 T n := rdM_cg gr (F7.1 _ _ (by omega)) (fun i => F7.1 _ _ (by omega))
    refine m_next5 hT r7 ((F7.1 _ _ (by omega)).trans gt.2.1) te.2.2 (fun M8 r8 F8 => ?_)
    have c7 : cdM M7 a (j + 1) = cdM M6 a j ++ [y] := by
      rw [cdM_1, a3, cdM_cg (M := M6) (M' := M7) (a := a) (a' := a) (fun i hi => F7.1 _ _ (by omega))]
    have c8 : cdM M8 a (j + 1) = cdM M7 a (j + 1) := cdM_cg (fun i hi => F8.1 _ _ (by unfold PJ; omega))
    refine hK f' (by omega) _ _ M8 ⟨tkB T n (tkE T n b), f', s'.1, s'.2.1, s'.2.2.1, s'.2.2.2, j + 1, rfl, rfl, rfl, by omega, rb.2.1, by omega, hx, rdM_cg r7 (F8.1 _ _ (by unfold PJ; omega)) (fun i => F8.1 _ _ (by unfold PJ; omega)), r8, (F8.1 _ _ (by unfold PJ; omega)).trans a2, by omega,
      ml_cg _ _ (fun i _ => F8.1 _ _ (by unfold PJ; omega)) (fun i _ => F8.1 _ _ (by unfold PJ; omega)) a4, by rw [c8, c7]; exact a5, st_ok gok a1, ?_, (F6.tr (F7.flg.mono (fun a' k' z => by unfold PEy; omega))).tr (F8.mono (fun a' k' z => by unfold PJ at z; unfold PEy; omega))⟩
    rw [F8.1 _ _ (by unfold PJ; omega), F7.1 _ _ (by omega)]; exact g130
  -- a fault
  have flt : ∀ (kk : Nat), stX cc (tkV T n b) (w, x, D, S) = .inl kk → w_X12_fails L (nI kk) M6 (fun x1 M' => Q x1 M') := fun kk a1 => by
    rw [a1] at hx
    refine m_fails gt.1 (fun M7 e7 => hQ 0 M7 (Or.inl ⟨kk, b, hx, rfl, by rw [e7, mi_si, if_pos ⟨rfl, rfl⟩], by rw [e7]; exact F6.si (by unfold PEy; omega)⟩))
  have S0 : (nI S.length = 0) = (S.length = 0) := nI_eq' (a := S.length) (b := 0) (by omega) (by omega)
  unfold w_X12_reads_25
  cases w with
  | true =>
    rw [if_pos rfl]
    refine ⟨fun z => absurd z (by decide), fun _ => m_factA gt (m_iwV (k := 11) gt (by decide) w11 (m_isV (s := 40) hT gr gt (by decide) ?_))⟩
    rw [hc]
    have pt := pt_iff (c := cc)
    have f24 : nI (if 13 ≤ cc ∧ cc ≤ 26 then cc - 12 else 0) = 0 ↔ ¬ (13 ≤ cc ∧ cc ≤ 26) := by
      by_cases h : 13 ≤ cc ∧ cc ≤ 26
      · rw [if_pos h, show (0 : Int32) = nI 0 from rfl, nI_eq' (by omega) (by omega)]
        exact ⟨fun z => by omega, fun z => absurd h z⟩
      · rw [if_neg h]; exact ⟨fun _ => h, fun _ => rfl⟩
    have f26 : ∀ k : Nat, (if cc = k then (1 : Int32) else 0) = 0 ↔ ¬ cc = k := fun k => by
      by_cases h : cc = k
      · rw [if_pos h]; exact ⟨fun z => absurd z (by decide), fun z => absurd h z⟩
      · rw [if_neg h]; exact ⟨fun _ => h, fun _ => rfl⟩
    have f2 := tm_2 gt.2.2
    rw [hc] at f2
    have s1 : stX cc (tkV T n b) (true, x, D, S) = if ptF cc = false then .inl 1 else if S.length = 5 then .inl 5 else if cc = 11 ∨ cc = 40 then .inr (some (true, x, noD, (decide (cc = 11), D) :: S)) else .inr (some (false, (clN (vlF cc (tkV T n b)) D S).1, (clN (vlF cc (tkV T n b)) D S).2.1, (clN (vlF cc (tkV T n b)) D S).2.2)) := if_pos rfl
    have r81 : ptF cc = true → w_X12_reads_81 L (nI p) K (nI S.length) 1 (nI (if 13 ≤ cc ∧ cc ≤ 26 then cc - 12 else 0)) (if cc = 11 then 1 else 0) (if cc = 40 then 1 else 0) M6 Q := fun hpt => by
      rw [if_neg (by rw [hpt]; decide)] at s1
      unfold w_X12_reads_81
      rw [show (5 : Int32) = nI 5 from rfl, nI_eq' (by omega) (by omega)]
      refine ⟨fun z => flt 5 (by rw [s1, if_pos z]), fun z => ?_⟩
      rw [if_neg z] at s1
      have r102 : cc = 11 ∨ cc = 40 → w_X12_reads_102 L (nI p) K (nI S.length) 1 (if cc = 11 then 1 else 0) M6 Q := fun hop => by
        rw [if_pos hop] at s1
        unfold w_X12_reads_102
        intro x94 e94
        have y94 : x94 = (if decide (cc = 11) = true then 30 else 28) := by
          rw [e94]
          by_cases h : cc = 11
          · rw [if_pos h, if_neg (by decide), if_pos (decide_eq_true h)]
          · rw [if_neg h, if_pos rfl, if_neg (fun q => h (of_decide_eq_true q))]
        refine m_puts g57 (by omega) (fun M7 e7 x96 e96 x97 e97 => ?_)
        rw [nI_1] at e96; subst e96
        refine ⟨vp_in_nI (by omega) (by decide), fun M9 e9 M10 e10 => ?_⟩
        rw [tn_nI (n := S.length + 1) (by omega)] at e9 e10
        rw [nz] at e10
        have F10 : FJ (fun a' k' => (a' = 92 ∧ k' = 57) ∨ (a' = 135 ∧ k' = a + j) ∨ a' = 136 ∨ a' = 137) M6 M10 := by rw [e10, e9, e7]; exact (((FJ.rf.si (by omega)).si (by omega)).si (by omega)).si (by omega)
        unfold w_X12_reads_190
        have c32 : cc ≠ 32 := by omega
        refine go (true, x, noD, (decide (cc = 11), D) :: S) M10 x94 c32 s1 ?_ ?_ (ml_op gm ?_ ?_ (fun i hi => ?_) (fun i hi => ?_)) ?_ F10
        · rw [e10, mi_si, if_neg (by omega), e9, mi_si, if_neg (by omega), e7, mi_si, if_pos ⟨rfl, rfl⟩, Nat.add_assoc]
        · rw [e10, mi_si, if_neg (by omega), e9, mi_si, if_neg (by omega), e7, mi_si, if_neg (by omega), mi_si, if_pos ⟨rfl, rfl⟩]
        · rw [e10, mi_si, if_pos ⟨rfl, rfl⟩]
        · rw [e10, mi_si, if_neg (by omega), e9, mi_si, if_pos ⟨rfl, rfl⟩, e97]
          by_cases h : cc = 11
          · rw [if_pos h, if_neg (by decide), if_pos (decide_eq_true h)]
          · rw [if_neg h, if_pos rfl, if_neg (fun q => h (of_decide_eq_true q))]
        · rw [e10, mi_si, if_neg (by omega), e9, mi_si, if_neg (by omega), e7, mi_si, if_neg (by omega), mi_si, if_neg (by omega)]
        · rw [e10, mi_si, if_neg (by omega), e9, mi_si, if_neg (by omega), e7, mi_si, if_neg (by omega), mi_si, if_neg (by omega)]
        · refine vg_1 gv ok2 (by show S.length + 1 ≤ 5; omega) (fun q => ?_) (fun q => ?_) (fun r q hq => by rw [y94]; exact me_opens hq)
          · rw [y94] at q; exact absurd q (by split <;> decide)
          · rw [y94] at q; exact absurd q (by split <;> decide)
      rw [f26, f26]
      refine ⟨fun z1 => ⟨fun z2 x69 e69 => ?_, fun z2 => r102 (by omega)⟩, fun z1 => r102 (by omega)⟩
      rw [if_neg (by omega)] at s1
      have pt2 := pt.mp hpt
      have hy : x69 = nI (if 13 ≤ cc ∧ cc ≤ 26 then cc - 12 else 100 + tkV T n b) := by
        rw [e69]
        by_cases h : 13 ≤ cc ∧ cc ≤ 26
        · rw [if_pos h, if_pos h, if_pos (show (0 : Int32) < nI (cc - 12) from (nI_ltI (a := 0) (b := cc - 12) (by omega) (by omega)).mpr (by omega))]
        · rw [if_neg h, if_neg h, if_neg (by decide), tm_v gt.2.2 (by omega), show (100 : Int32) = nI 100 from rfl, nI_add]
      have ev : ∀ r q, evS r q x69 = enE q.2 q.1 (vlF cc (tkV T n b) r) ∧ ¬ x69 = 29 ∧ (x69 < 20 → ∃ f, 1 ≤ f ∧ f ≤ 14 ∧ x69 = nI f) := fun r q => by
        rw [hy]
        by_cases h : 13 ≤ cc ∧ cc ≤ 26
        · rw [if_pos h]
          refine ⟨?_, (ev_fact (cc - 12) (by omega) (by omega)).2.2.2.2.2.1, fun _ => ⟨cc - 12, by omega, by omega, rfl⟩⟩
          rw [ev_f (by omega) (by omega)]
          unfold vlF
          rw [if_neg (by omega), Nat.sub_sub]
        · rw [if_neg h]
          have c30 : cc = 30 := by omega
          obtain ⟨n1, n2, n3⟩ := ev_n (r := r) (q := q) (tkV_lt hT (hc.trans c30))
          refine ⟨?_, n2, fun z => absurd z n3⟩
          rw [n1]; unfold vlF; rw [if_pos c30]
      have cl := clN_len S (vlF cc (tkV T n b)) D
      refine m_puts g57 (by omega) (fun M7 e7 => ?_)
      have F7 : FJ (fun a' k' => (a' = 92 ∧ k' = 57) ∨ (a' = 135 ∧ k' = a + j) ∨ a' = 136 ∨ a' = 137) M6 M7 := by rw [e7]; exact (FJ.rf.si (by omega)).si (by omega)
      have m7 : mlS M7 D S := ml_cg S D (fun i _ => by rw [e7, mi_si, if_neg (by omega), mi_si, if_neg (by omega)]) (fun i _ => by rw [e7, mi_si, if_neg (by omega), mi_si, if_neg (by omega)]) gm
      refine m_pops (E := fun v2 v3 M => w_X12_reads_190 L (nI p) K v2 v3 M Q) (v := vlF cc (tkV T n b)) ok2 m7 ?_
      unfold w_X12_reads_190
      have ev0 := ev (fun _ => 0) (0, fun _ _ => 0)
      refine go (false, (clN (vlF cc (tkV T n b)) D S).1, (clN (vlF cc (tkV T n b)) D S).2.1, (clN (vlF cc (tkV T n b)) D S).2.2) M7 x69 (by omega) s1 ?_ ?_ (ml_cl S _ D m7) ?_ F7
      · rw [e7, mi_si, if_pos ⟨rfl, rfl⟩, Nat.add_assoc]
      · rw [e7, mi_si, if_neg (by omega), mi_si, if_pos ⟨rfl, rfl⟩]
      · exact vg_1 gv ok2 (Nat.le_trans cl ok2) (fun q => absurd q ev0.2.1) ev0.2.2 (fun r q hq => me_part hq ok1 (ev r q).1)
    rw [f24, f26, f26, f2]
    refine ⟨fun z1 => ⟨fun z2 => ⟨fun z3 => ⟨fun z4 => r81 (by rw [pt]; omega), fun z4 => flt 1 ?_⟩, fun z3 => r81 (by rw [pt]; omega)⟩, fun z2 => r81 (by rw [pt]; omega)⟩, fun z1 => r81 (by rw [pt]; omega)⟩
    rw [s1, if_pos]
    cases h : ptF cc with
    | false => rfl
    | true => have := pt.mp h; omega
  | false =>
    have hh := ok3 rfl
    have rt := rk_tab cc tc1
    rw [if_neg (by decide)]
    refine ⟨fun _ => ?_, fun z => absurd rfl z⟩
    have s0 : ¬ cc = 41 → stX cc (tkV T n b) (false, x, D, S) = if rkO (nI cc) ≠ 0 then (if rkO (nI cc) = 2 ∧ (D 2).isSome = true then .inl 1 else .inr (some (true, x, opD D (nI cc) x, S))) else if cc = 59 ∧ S.length = 0 then .inr none else .inl 1 := fun c41 => by
      unfold stX; rw [if_neg (c := (false, x, D, S).1 = true) (by show ¬ (false = true); decide), if_neg c41]
    have top := ml_top gm
    -- an operator
    have opr : ∀ (M7 : Mem) (y : Int32), rkO (nI cc) ≠ 0 → (rkO (nI cc) = 2 → D 2 = none) → y = tmO (nI cc) → mi M7 92 57 = nI (a + (j + 1)) → mi M7 135 (a + j) = y → mi M7 137 S.length = cpD2 (opD D (nI cc) x) → FJ (fun a' k' => (a' = 92 ∧ k' = 57) ∨ (a' = 135 ∧ k' = a + j) ∨ (a' = 137 ∧ k' = S.length)) M6 M7 → w_X12_reads_479 L (nI p) K (nI S.length) 1 M7 Q := fun M7 y a1 a2 a3 a4 a5 a6 F7 => by
      have r3 := rk_32 cc tc1 a1
      have s1 := s0 r3.2.1
      rw [if_pos a1, if_neg (fun z => by have := a2 z.1; rw [this] at z; exact absurd z.2 (by decide))] at s1
      unfold w_X12_reads_479
      refine go (true, x, opD D (nI cc) x, S) M7 y r3.1 s1 a4 a5 (ml_up (S := S) gm a6 (fun i hi => F7.1 _ _ (by omega)) (fun i hi => F7.1 _ _ (by omega))) ?_ (F7.mono (fun a' k' z => by omega))
      have ty : ¬ y = 29 ∧ ¬ y < 20 := by
        rw [a3]
        rcases rk_cases (op := nI cc) rfl a1 with ⟨-, e | e⟩ | ⟨-, e | e⟩ | ⟨-, e | e⟩ | ⟨-, e | e⟩ <;> rw [e] <;> decide
      exact vg_1 gv ok2 ok2 (fun q => absurd q ty.1) (fun q => absurd q ty.2) (fun r q hq => by rw [a3]; exact me_op hq ok1 a1 a2)
    -- a stop
    have r440 : rkO (nI cc) = 0 ∨ (rkO (nI cc) = 2 ∧ (D 2).isSome = true) → (cc = 41 → S.length = 0) → w_X12_reads_440 L (nI p) (nI S.length) M6 Q := fun hk h41 => by
      have s1 : stX cc (tkV T n b) (false, x, D, S) = if cc = 59 ∧ S.length = 0 then .inr none else .inl 1 := by
        by_cases c41 : cc = 41
        · have e := h41 c41
          cases S with
          | nil => unfold stX; rw [if_neg (c := (false, x, D, ([] : List (Bool × Dc))).1 = true) (by show ¬ (false = true); decide), if_pos c41, if_neg (by omega)]
          | cons q S1 => exact absurd e (Nat.succ_ne_zero _)
        · rw [s0 c41]
          rcases hk with h | h
          · rw [if_neg (by rw [h]; exact fun z => z rfl)]
          · rw [if_pos (by rw [h.1]; decide), if_pos h, if_neg]
            intro z
            rw [rt] at h
            have := h.1
            simp [z.1] at this
      unfold w_X12_reads_440 w_X12_reads_473
      refine m_is (s := 59) hT gr gt (by decide) (fun z => flt 1 (by rw [s1, if_neg (by omega)])) (fun z => ?_)
      rw [S0]
      refine ⟨fun q => ?_, fun q => flt 1 (by rw [s1, if_neg (by omega)])⟩
      rw [show (275 : Int32) = nI 275 from rfl, nI_add, tn_nI (n := 275 + p) (by omega), g57]
      refine ⟨vp_in_nI (by omega) (by decide), fun M7 e7 => ?_⟩
      have i7 : ∀ a' k', ¬ (a' = 131 ∧ k' = 275 + p) → mi M7 a' k' = mi M6 a' k' := fun a' k' z => by rw [e7, mi_si, if_neg z]
      refine m_next5 hT (rdM_cg gr (i7 _ _ (by omega)) (fun i => i7 _ _ (by omega))) ((i7 _ _ (by omega)).trans gt.2.1) te.2.2 (fun M8 r8 F8 => ?_)
      rw [s1, if_pos (by omega)] at hx
      have bl : b < n := by
        by_cases z : b < n
        · exact z
        · have := tc2.mpr z; omega
      have eS : S = [] := List.eq_nil_of_length_eq_zero q
      subst eS
      refine hQ 1 M8 (Or.inr ⟨b, cbR D x 1, j, hx, rfl, bl, r8, ?_, gj, ?_, ?_, ?_, ?_⟩)
      · rw [F8.1 _ _ (by unfold PJ; omega), i7 _ _ (by omega)]; exact g57
      · rw [F8.1 _ _ (by unfold PJ; omega), i7 _ _ (by omega)]; exact g130
      · rw [F8.1 _ _ (by unfold PJ; omega), e7, mi_si, if_pos ⟨rfl, rfl⟩]
      · rw [cdM_cg (M := M6) (a := a) (fun i _ => by rw [F8.1 _ _ (by unfold PJ; omega), i7 _ _ (by omega)])]
        exact vg_end gv ok1
      · have F7 : FLg (PEy a p) M M7 := by rw [e7]; exact F6.si (by unfold PEy; omega)
        exact F7.tr (F8.mono (fun a' k' z => by unfold PJ at z; unfold PEy; omega))
    -- words and brackets
    have r345 : rkO (nI cc) = 0 ∨ rkO (nI cc) = 1 ∨ (rkO (nI cc) = 2 ∧ (D 2).isSome = true) → w_X12_reads_345 L (nI p) K (nI S.length) 0 M6 Q := fun hk => by
      have r365 : cc = 9 ∨ cc = 10 → w_X12_reads_365 L (nI p) K (nI S.length) M6 Q := fun h => by
        have rk1 : rkO (nI cc) = 1 := by rw [rt, if_pos h]
        unfold w_X12_reads_365
        refine m_iwV (k := 9) gt (by decide) w9 (fun x78 e78 => m_puts g57 (by omega) (fun M7 e7 => ⟨vp_in_nI (by omega) (by decide), fun M8 e8 => ?_⟩))
        rw [tn_nI (n := S.length) (by omega), nz] at e8
        rw [hc] at e78
        refine opr M8 x78 (by rw [rk1]; decide) (fun z => by omega) ?_ ?_ ?_ ?_ ?_
        · rcases h with h | h
          · rw [e78, h]; decide
          · rw [e78, h]; decide
        · rw [e8, mi_si, if_neg (by omega), e7, mi_si, if_pos ⟨rfl, rfl⟩, Nat.add_assoc]
        · rw [e8, mi_si, if_neg (by omega), e7, mi_si, if_neg (by omega), mi_si, if_pos ⟨rfl, rfl⟩]
        · rw [e8, mi_si, if_pos ⟨rfl, rfl⟩, cp_op, if_pos (by omega)]
        · rw [e8, e7]; exact ((FJ.rf.si (by omega)).si (by omega)).si (by omega)
      unfold w_X12_reads_345
      refine m_iw (k := 9) gt (by decide) w9 (fun z1 => m_iw (k := 10) gt (by decide) w10 (fun z2 => m_is (s := 41) hT gr gt (by decide) (fun z3 => r440 ?_ (fun q => by omega)) (fun z3 => ?_)) (fun z2 => r365 (by omega))) (fun z1 => r365 (by omega))
      · rcases hk with h | h | h
        · exact Or.inl h
        · rw [rt, if_neg (by omega)] at h
          split at h
          · omega
          · split at h
            · omega
            · split at h
              · omega
              · omega
        · exact Or.inr h
      · have c41 : cc = 41 := by omega
        rw [show (0 : Int32) = nI 0 from rfl, nI_lt' (by omega) (by omega)]
        refine ⟨fun q => ?_, fun q => r440 (Or.inl (by rw [rt, c41]; rfl)) (fun _ => by omega)⟩
        cases S with
        | nil => exact absurd q (by decide)
        | cons q1 S1 =>
          obtain ⟨q1, D1⟩ := q1
          have hq1 : q1 = false := hh (q1, D1) S1 rfl
          subst hq1
          have l5 : S1.length + 1 ≤ 5 := ok2
          have s1 : stX cc (tkV T n b) (false, x, D, (false, D1) :: S1) = .inr (some (false, (clN (cbR D x 1) D1 S1).1, (clN (cbR D x 1) D1 S1).2.1, (clN (cbR D x 1) D1 S1).2.2)) := by
            unfold stX; rw [if_neg (c := (false, x, D, (false, D1) :: S1).1 = true) (by show ¬ (false = true); decide), if_pos c41]
          have cl := clN_len S1 (cbR D x 1) D1
          refine m_puts g57 (by omega) (fun M7 e7 x65 e65 => ?_)
          have e65 : x65 = nI (S1.length + 1) + (-1 : Int32) := e65
          rw [nI_d1] at e65
          subst e65
          have F7 : FJ (fun a' k' => (a' = 92 ∧ k' = 57) ∨ (a' = 135 ∧ k' = a + j) ∨ a' = 136 ∨ a' = 137) M6 M7 := by rw [e7]; exact (FJ.rf.si (by omega)).si (by omega)
          have m7 : mlS M7 D1 S1 := ml_cg S1 D1 (fun i _ => by rw [e7, mi_si, if_neg (by omega), mi_si, if_neg (by omega)]) (fun i _ => by rw [e7, mi_si, if_neg (by omega), mi_si, if_neg (by omega)]) gm.2.2
          refine m_pops (E := fun v2 v3 M => w_X12_reads_479 L (nI p) K v2 v3 M Q) (v := cbR D x 1) (by omega) m7 ?_
          unfold w_X12_reads_479
          refine go (false, (clN (cbR D x 1) D1 S1).1, (clN (cbR D x 1) D1 S1).2.1, (clN (cbR D x 1) D1 S1).2.2) M7 29 (by omega) s1 ?_ ?_ (ml_cl S1 _ D1 m7) ?_ F7
          · rw [e7, mi_si, if_pos ⟨rfl, rfl⟩, Nat.add_assoc]
          · rw [e7, mi_si, if_neg (by omega), mi_si, if_pos ⟨rfl, rfl⟩]
          · exact vg_1 gv ok2 (Nat.le_trans cl (by omega)) (fun _ => Nat.succ_pos _) (fun q => absurd q (by decide)) (fun r q hq => me_shut hq ok1)
    -- signs
    have r233 : cc = 43 ∨ cc = 45 ∨ cc = 42 ∨ cc = 47 → w_X12_reads_233 L (nI p) K (nI S.length) M6 Q := fun h => by
      have rk3 : rkO (nI cc) = 3 ∨ rkO (nI cc) = 4 := by
        rw [rt, if_neg (by omega), if_neg (by omega)]
        by_cases z : cc = 43 ∨ cc = 45
        · rw [if_pos z]; exact Or.inl rfl
        · rw [if_neg z, if_pos (by omega)]; exact Or.inr rfl
      have fin : ∀ (y : Int32) (M7 : Mem), y = tmO (nI cc) → M7 = si (si M6 135 (a + j) y) 92 57 (nI (a + j + 1)) → w_X12_reads_479 L (nI p) K (nI S.length) 1 M7 Q := fun y M7 a1 e7 => by
        refine opr M7 y (by omega) (fun z => by omega) a1 ?_ ?_ ?_ ?_
        · rw [e7, mi_si, if_pos ⟨rfl, rfl⟩, Nat.add_assoc]
        · rw [e7, mi_si, if_neg (by omega), mi_si, if_pos ⟨rfl, rfl⟩]
        · rw [e7, mi_si, if_neg (by omega), mi_si, if_neg (by omega), cp_op, if_neg (by omega), if_neg (by omega)]; exact top
        · rw [e7]; exact (FJ.rf.si (by omega)).si (by omega)
      unfold w_X12_reads_233 w_X12_reads_278
      refine m_is (s := 43) hT gr gt (by decide) (fun z1 => m_is (s := 45) hT gr gt (by decide) (fun z2 => m_isV (s := 42) hT gr gt (by decide) (fun x43 e43 => m_puts g57 (by omega) (fun M7 e7 => fin x43 M7 ?_ e7))) (fun z2 => m_puts g57 (by omega) (fun M7 e7 => fin 21 M7 ?_ e7))) (fun z1 => m_puts g57 (by omega) (fun M7 e7 => fin 20 M7 ?_ e7))
      · rw [hc] at e43
        by_cases z : cc = 42
        · rw [e43, z]; decide
        · have z : cc = 47 := by omega
          rw [e43, z]; decide
      · have z : cc = 45 := by omega
        rw [z]; rfl
      · have z : cc = 43 := by omega
        rw [z]; rfl
    have r304 : cc = 60 ∨ cc = 61 → w_X12_reads_304 L (nI p) K (nI S.length) 0 M6 Q := fun h => by
      have rk2 : rkO (nI cc) = 2 := by rw [rt, if_neg (by omega), if_pos h]
      unfold w_X12_reads_304
      rw [tn_nI (n := S.length) (by omega), top]
      refine ⟨vp_in_nI (by omega) (by decide), fun z => ?_, fun z => r345 (Or.inr (Or.inr ⟨rk2, ?_⟩))⟩
      · have dn : D 2 = none := by
          cases h2 : D 2 with
          | none => rfl
          | some q => unfold cpD2 at z; rw [h2] at z; exact absurd z (by decide : ¬ (1 : Int32) = 0)
        refine m_isV (s := 60) hT gr gt (by decide) (fun x50 e50 => m_puts g57 (by omega) (fun M7 e7 M8 e8 => ?_))
        rw [n1] at e8
        rw [hc] at e50
        refine opr M8 x50 (by rw [rk2]; decide) (fun _ => dn) ?_ ?_ ?_ ?_ ?_
        · rcases h with h | h
          · rw [e50, h]; decide
          · rw [e50, h]; decide
        · rw [e8, mi_si, if_neg (by omega), e7, mi_si, if_pos ⟨rfl, rfl⟩, Nat.add_assoc]
        · rw [e8, mi_si, if_neg (by omega), e7, mi_si, if_neg (by omega), mi_si, if_pos ⟨rfl, rfl⟩]
        · rw [e8, mi_si, if_pos ⟨rfl, rfl⟩, cp_op, if_neg (by omega), if_pos rk2]
        · rw [e8, e7]; exact ((FJ.rf.si (by omega)).si (by omega)).si (by omega)
      · cases h2 : D 2 with
        | none => unfold cpD2 at z; rw [h2] at z; exact absurd rfl z
        | some q => rfl
    refine m_is (s := 43) hT gr gt (by decide) (fun z1 => m_is (s := 45) hT gr gt (by decide) (fun z2 => m_is (s := 42) hT gr gt (by decide) (fun z3 => m_is (s := 47) hT gr gt (by decide) (fun z4 => m_is (s := 60) hT gr gt (by decide) (fun z5 => m_is (s := 61) hT gr gt (by decide) (fun z6 => r345 ?_) (fun z6 => r304 (by omega))) (fun z5 => r304 (by omega))) (fun z4 => r233 (by omega))) (fun z3 => r233 (by omega))) (fun z2 => r233 (by omega))) (fun z1 => r233 (by omega))
    by_cases z : cc = 9 ∨ cc = 10
    · exact Or.inr (Or.inl (by rw [rt, if_pos z]))
    · exact Or.inl (by rw [rt, if_neg z, if_neg (by omega), if_neg (by omega), if_neg (by omega)])
end EXN
