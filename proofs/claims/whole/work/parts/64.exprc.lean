-- LEVEL 3, part 48: an expression as it is read, and how the class reads it
abbrev exS : Type := Bool × Ex × Dc × List (Bool × Dc)
def ptF (c : Nat) : Bool := (decide (13 ≤ c) && decide (c ≤ 26)) || decide (c = 11) || decide (c = 40) || decide (c = 30)
def vlF (c v : Nat) : Ex := if c = 30 then fun _ => nI v else fun r => r (c - 13)
def stX (c v : Nat) (s : exS) : Nat ⊕ Option exS :=
  if s.1 = true then
    (if ptF c = false then .inl 1 else if s.2.2.2.length = 5 then .inl 5 else if c = 11 ∨ c = 40 then .inr (some (true, s.2.1, noD, (decide (c = 11), s.2.2.1) :: s.2.2.2))
     else .inr (some (false, (clN (vlF c v) s.2.2.1 s.2.2.2).1, (clN (vlF c v) s.2.2.1 s.2.2.2).2.1, (clN (vlF c v) s.2.2.1 s.2.2.2).2.2)))
  else if c = 41 then (match s.2.2.2 with
    | [] => .inl 1
    | q :: S1 => .inr (some (false, (clN (cbR s.2.2.1 s.2.1 1) q.2 S1).1, (clN (cbR s.2.2.1 s.2.1 1) q.2 S1).2.1, (clN (cbR s.2.2.1 s.2.1 1) q.2 S1).2.2)))
  else if rkO (nI c) ≠ 0 then (if rkO (nI c) = 2 ∧ (s.2.2.1 2).isSome = true then .inl 1 else .inr (some (true, s.2.1, opD s.2.2.1 (nI c) s.2.1, s.2.2.2)))
  else if c = 59 ∧ s.2.2.2.length = 0 then .inr none else .inl 1
def exR (T : Nat → Nat) (n : Nat) : Nat → Nat → exS → (Nat × Nat) ⊕ (Nat × Ex)
  | 0, b, _ => .inl (1, b)
  | f + 1, b, s => match stX (tkC T n b) (tkV T n b) s with
    | .inl k => .inl (k, b)
    | .inr none => .inr (b, cbR s.2.2.1 s.2.1 1)
    | .inr (some s') => exR T n f (tkB T n (tkE T n b)) s'
theorem exR_s {T : Nat → Nat} {n f b : Nat} {s : exS} : exR T n (f + 1) b s = match stX (tkC T n b) (tkV T n b) s with
    | .inl k => .inl (k, b)
    | .inr none => .inr (b, cbR s.2.2.1 s.2.1 1)
    | .inr (some s') => exR T n f (tkB T n (tkE T n b)) s' := rfl
def exE : (Nat × Nat) ⊕ (Nat × Ex) → Nat
  | .inl q => q.2
  | .inr q => q.1
def okE (s : exS) : Prop := okS s.2.2.1 s.2.2.2 ∧ s.2.2.2.length ≤ 5 ∧ (s.1 = false → hdN s.2.2.2)
theorem clN_len : ∀ (S : List (Bool × Dc)) (v : Ex) (D : Dc), (clN v D S).2.2.length ≤ S.length := by
  intro S
  induction S with
  | nil => intro v D; exact Nat.le_refl _
  | cons q S ih =>
    intro v D
    show (if q.1 = true then clN (nvE v) q.2 S else (v, D, q :: S)).2.2.length ≤ S.length + 1
    split
    · have := ih (nvE v) q.2; omega
    · exact Nat.le_refl _
theorem noD_ok {S : List (Bool × Dc)} {D : Dc} {b : Bool} (h : okS D S) : okS noD ((b, D) :: S) := ⟨fun k _ q hq => (by cases hq), fun _ => rfl, h⟩
theorem st_ok {c v : Nat} {s s' : exS} (h : okE s) (e : stX c v s = .inr (some s')) : okE s' := by
  obtain ⟨w, x, D, S⟩ := s
  obtain ⟨h1, h2, h3⟩ := h
  have h1 : okS D S := h1
  have h2 : S.length ≤ 5 := h2
  have h3 : w = false → hdN S := h3
  unfold stX at e
  cases w with
  | true =>
    rw [if_pos rfl] at e
    by_cases c1 : ptF c = false
    · rw [if_pos c1] at e; cases e
    rw [if_neg c1] at e
    by_cases c2 : S.length = 5
    · rw [if_pos c2] at e; cases e
    rw [if_neg c2] at e
    by_cases c3 : c = 11 ∨ c = 40
    · rw [if_pos c3] at e; cases e
      exact ⟨noD_ok h1, by show S.length + 1 ≤ 5; omega, fun z => by cases z⟩
    · rw [if_neg c3] at e; cases e
      exact ⟨clN_ok S _ D h1, Nat.le_trans (clN_len S _ _) h2, fun _ => clN_hd S _ D⟩
  | false =>
    rw [if_neg (c := (false, x, D, S).1 = true) (by show ¬ (false = true); decide)] at e
    by_cases c1 : c = 41
    · rw [if_pos c1] at e
      cases S with
      | nil => cases e
      | cons q S1 =>
        cases e
        have h2 : S1.length + 1 ≤ 5 := h2
        exact ⟨clN_ok S1 _ q.2 h1.2.2, Nat.le_trans (clN_len S1 _ _) (by omega), fun _ => clN_hd S1 _ q.2⟩
    rw [if_neg c1] at e
    by_cases c2 : rkO (nI c) ≠ 0
    · rw [if_pos c2] at e
      by_cases c3 : rkO (nI c) = 2 ∧ (D 2).isSome = true
      · rw [if_pos c3] at e; cases e
      · rw [if_neg c3] at e; cases e
        exact ⟨opD_ok h1 c2 (h3 rfl), h2, fun z => by cases z⟩
    · rw [if_neg c2] at e
      by_cases c3 : c = 59 ∧ S.length = 0
      · rw [if_pos c3] at e; cases e
      · rw [if_neg c3] at e; cases e
def opN : List (Bool × Dc) → Nat
  | [] => 0
  | q :: S => (if q.1 = true then 0 else 1) + opN S
theorem opN_le : ∀ S, opN S ≤ S.length := by
  intro S
  induction S with
  | nil => exact Nat.le_refl _
  | cons q S ih => show (if q.1 = true then 0 else 1) + opN S ≤ S.length + 1; split <;> omega
theorem opN_cl : ∀ (S : List (Bool × Dc)) (v : Ex) (D : Dc), opN (clN v D S).2.2 = opN S := by
  intro S
  induction S with
  | nil => intro v D; rfl
  | cons q S ih =>
    intro v D
    show opN (if q.1 = true then clN (nvE v) q.2 S else (v, D, q :: S)).2.2 = (if q.1 = true then 0 else 1) + opN S
    by_cases c : q.1 = true
    · rw [if_pos c, if_pos c, ih]; omega
    · rw [if_neg c, if_neg c]; show (if q.1 = true then 0 else 1) + opN S = _; rw [if_neg c]
theorem nu_lt {T : Nat → Nat} {b : Nat} : ∀ l, (∀ i, i < l → T (b + i) ≤ 57) → nuF T b l < 10 ^ l := by
  intro l
  induction l with
  | zero => intro _; exact Nat.one_pos
  | succ l ih =>
    intro h
    have a := ih (fun i hi => h i (by omega))
    have c := h l (by omega)
    show 10 * nuF T b l + (T (b + l) - 48) < 10 ^ (l + 1)
    rw [Nat.pow_succ]; omega
theorem tkV_lt {T : Nat → Nat} {n b : Nat} (hT : okT T n) (h : tkC T n b = 30) : tkV T n b < 10000 := by
  unfold tkC at h
  by_cases c : b < n
  · rw [if_pos c] at h
    by_cases d : isL (T b) = true
    · rw [if_pos d] at h
      split at h
      · omega
      · rcases wi_spec (T := T) (b := b) (l := skF isL T n b - b) 27 0 with ⟨q, -⟩ | ⟨j, j1, j2, j3, -⟩ <;> omega
    · rw [if_neg d] at h
      by_cases f : isD (T b) = true
      · rw [if_pos f] at h
        have r := sk_rng (p := isD) (T := T) (n := n) (n - b) b rfl (by omega)
        have l4 : skF isD T n b - b ≤ 4 := by
          split at h
          · omega
          · omega
        unfold tkV
        have := nu_lt (T := T) (b := b) (skF isD T n b - b) (fun i hi => by
          have := r.2.2.1 (b + i) (by omega) (by omega)
          unfold isD at this; simp at this; omega)
        exact Nat.lt_of_lt_of_le this (Nat.pow_le_pow_right (by decide) l4)
      · rw [if_neg f] at h
        split at h
        · rename_i g
          rw [h] at g; exact absurd g (by decide)
        · omega
  · rw [if_neg c] at h; omega
-- the codes that wait come last
def mpW (W : List Int32) : List Int32 := W.map (fun o => 20000 + o)
theorem cq_all {v : Ex} {D : Dc} (hr : rkD D) : ∀ j, 1 ≤ j → j ≤ 5 → ∀ (c W : List Int32), ceQ c W false (cvD D v j) (clD D j) [] → ceQ (c ++ mpW W) [] false (cbR D v 1) noD [] := by
  intro j
  induction j using Nat.strongRecOn with
  | ind j ih =>
    intro j1 j5 c W h
    rcases cq_next j1 j5 hr h with ⟨-, q2, q3⟩ | ⟨k, q, W2, k1, k2, k3, k4, k5, k6, k7⟩
    · have eW : W = [] := q2
      subst eW
      show ceQ (c ++ []) [] false _ noD []
      rw [List.append_nil]; exact q3
    · have := ih k k2 k1 (by omega) _ _ k7
      rw [k6]
      show ceQ (c ++ ((20000 + q.1) :: mpW W2)) [] false _ noD []
      rw [List.append_assoc] at this; exact this
def PEx (a k : Nat) : Prop := (a = 71 ∧ k ≠ 1) ∨ a = 73 ∨ a = 74
section EXC
variable {L : Lay} {M : Mem}
theorem c_refuse {b k : Nat} {Q : Mem → Prop} (h2 : mi M 71 2 = 0) (h5 : mi M 71 5 = nI b) (h : ∀ M', M' = si M 71 2 (nI (k + 16 * b)) → Q M') : w_X5_refuse L (nI k) M Q := by
  unfold w_X5_refuse
  rw [h2, h5, show (16 : Int32) = nI 16 from rfl, pk_mul, nI_add]
  exact ⟨fun _ M1 e1 => h M1 e1, fun z => absurd rfl z⟩
theorem c_refuse0 {k : Int32} {Q : Mem → Prop} (h2 : ¬ mi M 71 2 = 0) (h : Q M) : w_X5_refuse L k M Q := by
  unfold w_X5_refuse
  exact ⟨fun z => absurd z h2, fun _ => h⟩
-- the array that an expression gives
def xaC (L L' : Lay) (M M' : Mem) (c : List Int32) : Prop := LE L L' ∧ L'.1 = L.1 + 1 ∧ AR L' L.1 0 c.length ∧ cdL M' L.1 c.length = c ∧ (∀ a k, ¬ PEx a k → a ≠ L.1 → mi M' a k = mi M a k) ∧ (∀ a k, a ≠ L.1 → mp M' a k = mp M a k)
theorem c_tail {c W : List Int32} {rc rs : Nat} {Q : Option Nat → Lay → Mem → Prop} (hL : 159 ≤ L.1) (h : esC M c W) (hc : c.length + W.length < 1000) (hw : W.length < 64) (hrc : 1 ≤ rc) (hrs : c.length + W.length ≤ rs)
    (hQ : ∀ L' M', xaC L L' M M' (c ++ mpW W) → (∀ k, k ≠ 8 → k ≠ 10 → mi M' 71 k = mi M 71 k) → Q (some L.1) L' M') : LP4 (fun K121 L rc rs M => w_X5_readExpression_121 K121 L rc rs M Q) L rc rs M := by
  refine LP4_m (fun m L1 rc1 rs1 M1 => ∃ c1 W1, L1 = L ∧ rc1 = rc ∧ rs1 = rs ∧ esC M1 c1 W1 ∧ c1 ++ mpW W1 = c ++ mpW W ∧ c1.length + W1.length = c.length + W.length ∧ W1.length < 64 ∧ m = W1.length ∧ FJ (fun a k => (a = 71 ∧ (k = 8 ∨ k = 10)) ∨ a = 73) M M1) W.length ⟨c, W, rfl, rfl, rfl, h, rfl, rfl, hw, rfl, FJ.rf⟩ ?_
  intro m L1 rc1 rs1 M1 ⟨c1, W1, e1, e2, e3, a1, a2, a3, a4, a5, F1⟩ K hK
  subst e1 e2 e3
  unfold w_X5_readExpression_121
  rw [a1.2.2.1, show (0 : Int32) = nI 0 from rfl, nI_lt' (by omega) (by omega)]
  refine ⟨fun hpos => ?_, fun hz => ?_⟩
  · cases hW : W1 with
    | nil => rw [hW] at hpos; exact absurd hpos (by decide)
    | cons t T1 =>
      subst hW
      have tl : T1.length < 64 := by rw [List.length_cons] at a4; omega
      obtain ⟨t1, t2⟩ := es_top a1 tl
      rw [← a1.2.2.1, t1, tn_nI (n := T1.length) (by omega), t2]
      refine ⟨vp_in_nI tl (by decide), c_emit5 a1 (by rw [List.length_cons] at a3; omega) (fun M2 g2 F2 M3 e3 => ?_)⟩
      refine hK T1.length (by rw [a5, List.length_cons]; omega) _ _ _ M3 ⟨c1 ++ [20000 + t], T1, rfl, rfl, rfl, es_pop g2 e3 tl, ?_, ?_, tl, rfl, ?_⟩
      · rw [← a2, List.append_assoc]; rfl
      · rw [← a3, List.length_append, List.length_cons]; show c1.length + 1 + T1.length = c1.length + (T1.length + 1); omega
      · rw [e3]; exact (F1.tr (F2.mono (fun a k q => by omega))).si (by omega)
  · have eW : W1 = [] := List.eq_nil_of_length_eq_zero (by omega)
    subst eW
    have a2 : c1 = c ++ mpW W := by rw [← a2]; show c1 = c1 ++ []; rw [List.append_nil]
    subst a2
    have hl : (c ++ mpW W).length ≤ rs1 ∧ (c ++ mpW W).length < 1000 := by
      have a3 : (c ++ mpW W).length + 0 = c.length + W.length := a3
      omega
    refine ⟨1, (c ++ mpW W).length, hrc, hl.1, ?_⟩
    unfold w_J7_copyOf_59c91
    rw [a1.1, nI_eq' (by omega) (by omega), tn_nI (n := (c ++ mpW W).length) (by omega)]
    have mn : jmin (nI 1000) (nI (c ++ mpW W).length) = nI (c ++ mpW W).length := by
      unfold jmin
      rw [if_pos ((nI_ltI (by omega) (by omega)).mpr hl.2)]
    rw [mn, tn_nI (n := (c ++ mpW W).length) (by omega)]
    refine ⟨fun z => absurd z (by omega), fun _ => ⟨Nat.le_refl _, ⟨nI_pos (by omega), by omega⟩, Nat.le_refl _, fun L5 M6 e6 => ⟨⟨by decide, by decide, nI_pos (by omega), by show 0 + _ ≤ _; omega, by show 0 + _ ≤ _; omega⟩, fun M9 e9 => ?_⟩⟩⟩
    have eL : L5 = (alc (L1, M1) (20, (c ++ mpW W).length)).1 := congrArg Prod.fst e6
    have eM : M6 = (alc (L1, M1) (20, (c ++ mpW W).length)).2 := congrArg Prod.snd e6
    have i6 : ∀ a k, a ≠ L1.1 → mi M6 a k = mi M1 a k := fun a k q => by
      rw [eM]; show (if a = L1.1 then fun _ => 0 else M1.1 a) k = _; rw [if_neg q]; rfl
    have p6 : ∀ a k, a ≠ L1.1 → mp M6 a k = mp M1 a k := fun a k q => by
      rw [eM]; show (if a = L1.1 then fun _ => none else M1.2.1 a) k = _; rw [if_neg q]; rfl
    have i9 : ∀ a k, a ≠ L1.1 → mi M9 a k = mi M6 a k := fun a k q => by
      rw [e9]; show (if a = L1.1 then _ else M6.1 a k) = _; rw [if_neg q]; rfl
    have p9 : ∀ a k, mp M9 a k = mp M6 a k := fun a k => by
      rw [e9]; rfl
    have n71 : ∀ a, a < 159 → a ≠ L1.1 := fun a q => by omega
    refine hQ L5 M9 ⟨LE.of_alc e6, by rw [eL]; rfl, by have := AR.of_alc (t := 0) (n := (c ++ mpW W).length) e6; exact this, ?_, fun a k q1 q2 => ?_, fun a k q => ?_⟩ (fun k k1 k2 => ?_)
    · refine Eq.trans ?_ a1.2.1
      unfold cdL
      apply List.map_congr_left
      intro j hj
      have hj := List.mem_range.mp hj
      rw [e9]
      show (if L1.1 = L1.1 then va_cpy (M6.1 73) (M6.1 L1.1) 0 0 (c ++ mpW W).length j else M6.1 L1.1 j) = _
      rw [if_pos rfl]
      unfold va_cpy
      rw [if_pos (by omega)]
      have := i6 73 j (n71 73 (by omega))
      show M6.1 73 (0 + (j - 0)) = mi M1 73 j
      rw [Nat.sub_zero, Nat.zero_add]; exact this
    · rw [i9 a k q2, i6 a k q2]; exact F1.1 a k (fun z => q1 (by unfold PEx; omega))
    · rw [p9, p6 a k q]; exact F1.mp
    · rw [i9 71 k (n71 71 (by omega)), i6 71 k (n71 71 (by omega))]; exact F1.1 71 k (by omega)
-- a stop behind a part: a fault where something is open, else the codes
theorem c_stop {T : Nat → Nat} {n b o : Nat} {c W : List Int32} {rc rs : Nat} {Q : Option Nat → Lay → Mem → Prop} (hL : 159 ≤ L.1) (h : esC M c W) (hc : c.length + W.length < 1000) (hw : W.length < 64) (hrc : 1 ≤ rc) (hrs : c.length + W.length ≤ rs) (h2 : mi M 71 2 = 0) (hr : rtC M T n b) (h11 : mi M 71 11 = 0) (h12 : mi M 71 12 = nI o) (ho : o < 100)
    (hF : 0 < o → ∀ M', M' = si M 71 2 (nI (1 + 16 * b)) → Q none L M')
    (hG : o = 0 → ∀ L' M', xaC L L' M M' (c ++ mpW W) → (∀ k, k ≠ 8 → k ≠ 10 → mi M' 71 k = mi M 71 k) → Q (some L.1) L' M') (hb : b ≤ 1000) : w_X5_readExpression_93 L rc rs M Q := by
  unfold w_X5_readExpression_93
  rw [h11, h12, show (0 : Int32) = nI 0 from rfl, nI_lt' (by omega) (by omega)]
  refine ⟨fun _ => ⟨fun c1 => ?_, fun c1 => ?_⟩, fun z => absurd rfl z⟩
  · unfold w_X5_readExpression_107
    refine c_refuse (k := 1) h2 hr.1 (fun M1 e1 => ?_)
    unfold w_X5_readExpression_112
    have k2 : mi M1 71 2 = nI (1 + 16 * b) := by rw [e1, mi_si, if_pos ⟨rfl, rfl⟩]
    rw [k2, show (0 : Int32) = nI 0 from rfl, nI_eq' (by omega) (by omega)]
    exact ⟨fun z => absurd z (by omega), fun _ => hF c1 M1 e1⟩
  · unfold w_X5_readExpression_112
    exact ⟨fun _ => c_tail hL h hc hw hrc hrs (hG (by omega)), fun z => absurd h2 z⟩
-- a stop where a part is wanted: a fault
theorem c_want {T : Nat → Nat} {n b : Nat} {rc rs : Nat} {Q : Option Nat → Lay → Mem → Prop} (h11 : mi M 71 11 = 1) (hr : rtC M T n b) (hb : b ≤ 1000)
    (hF : (mi M 71 2 = 0 → ∀ M', M' = si M 71 2 (nI (1 + 16 * b)) → Q none L M') ∧ (¬ mi M 71 2 = 0 → Q none L M)) : w_X5_readExpression_93 L rc rs M Q := by
  unfold w_X5_readExpression_93
  rw [h11]
  refine ⟨fun z => absurd z (by decide), fun _ => ?_⟩
  unfold w_X5_readExpression_107
  by_cases c : mi M 71 2 = 0
  · refine c_refuse (k := 1) c hr.1 (fun M1 e1 => ?_)
    unfold w_X5_readExpression_112
    have k2 : mi M1 71 2 = nI (1 + 16 * b) := by rw [e1, mi_si, if_pos ⟨rfl, rfl⟩]
    rw [k2, show (0 : Int32) = nI 0 from rfl, nI_eq' (by omega) (by omega)]
    exact ⟨fun z => absurd z (by omega), fun _ => hF.1 c M1 e1⟩
  · refine c_refuse0 c ?_
    unfold w_X5_readExpression_112
    exact ⟨fun z => absurd z c, fun _ => hF.2 c⟩
theorem rt_cg {M M' : Mem} {T : Nat → Nat} {n b : Nat} (h : rtC M T n b) (hF : ∀ k, 3 ≤ k → k ≤ 6 → mi M' 71 k = mi M 71 k) : rtC M' T n b :=
  ⟨(hF 5 (by omega) (by omega)).trans h.1, (hF 6 (by omega) (by omega)).trans h.2.1, (hF 3 (by omega) (by omega)).trans h.2.2.1, fun z => (hF 4 (by omega) (by omega)).trans (h.2.2.2 z)⟩
theorem rd_cg {M M' : Mem} {T : Nat → Nat} {n : Nat} (h : rdC M T n) (hF : FJ PEx M M') : rdC M' T n := rdC_cg h (hF.1 _ _ (by unfold PEx; omega)) (fun i => hF.1 _ _ (by unfold PEx; omega))
-- what an expression's reading comes to
def xrC (L : Lay) (M : Mem) (T : Nat → Nat) (n b0 : Nat) (R : (Nat × Nat) ⊕ (Nat × Ex)) (o : Option Nat) (L' : Lay) (M' : Mem) : Prop :=
  (∃ k b, R = .inl (k, b) ∧ 1 ≤ k ∧ k < 16 ∧ b ≤ n ∧ o = none ∧ L' = L ∧ mi M' 71 2 = nI (k + 16 * b) ∧ mi M' 71 6 = nI (tkE T n b) ∧ mi M' 71 5 = nI b ∧ FJ PEx M M') ∨
  ∃ c b, o = some L.1 ∧ c.length ≤ b - b0 ∧ xaC L L' M M' c ∧ mi M' 71 2 = 0 ∧ rtC M' T n b ∧ b ≤ n ∧
    ((R = .inl (1, b) ∧ ¬ tkC T n b = 59) ∨ ∃ x, R = .inr (b, x) ∧ tkC T n b = 59 ∧ ∀ (r : Fx) (V0 : List Int32), V0.length ≤ 1 → rkL r c V0 = [x r] ++ V0)
end EXC
