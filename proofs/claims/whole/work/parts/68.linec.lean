-- LEVEL 3, part 52: a pact as it is read, line by line; the class's pieces
abbrev pS : Type := (Nat → Option Ex) × List Ex × Int32 × Int32
def nxT (T : Nat → Nat) (n b : Nat) : Nat := tkB T n (tkE T n b)
def exI (T : Nat → Nat) (n b : Nat) : (Nat × Nat) ⊕ (Nat × Ex) := exR T n (n + 1) b (true, (fun _ => 0), noD, [])
def enT (T : Nat → Nat) (n b : Nat) (s : pS) : (Nat × Nat) ⊕ (Nat × pS) := if tkC T n b = 59 then .inr (nxT T n b, s) else .inl (1, b)
def tdB (s : pS) (c : Nat) : Bool := (decide (c < 3) && (s.1 c).isSome) || (decide (c = 4) && !decide (s.2.2.1 = -1)) || (decide (c = 5) && !decide (s.2.2.2 = -1))
theorem td_iff {s : pS} {c : Nat} : tdB s c = true ↔ (c < 3 ∧ (s.1 c).isSome = true) ∨ (c = 4 ∧ ¬ s.2.2.1 = -1) ∨ (c = 5 ∧ ¬ s.2.2.2 = -1) := by
  unfold tdB
  simp [Bool.or_eq_true, Bool.and_eq_true, or_assoc]
def exL (T : Nat → Nat) (n : Nat) (f : Ex → pS) (R : (Nat × Nat) ⊕ (Nat × Ex)) : (Nat × Nat) ⊕ (Nat × pS) := match R with
  | .inl q => .inl q
  | .inr q => .inr (nxT T n q.1, f q.2)
def liR (T : Nat → Nat) (n b : Nat) (s : pS) : (Nat × Nat) ⊕ (Nat × pS) :=
  if 5 < tkC T n b then .inl (1, b)
  else if tdB s (tkC T n b) = true then .inl (3, b)
  else if tkC T n b = 3 ∧ s.2.1.length = 8 then .inl (5, b)
  else if tkC T n b = 3 then (if tkC T n (nxT T n b) = 6 then exL T n (fun x => (s.1, s.2.1 ++ [x], s.2.2)) (exI T n (nxT T n (nxT T n b))) else .inl (1, nxT T n b))
  else if tkC T n b = 4 then (if tkC T n (nxT T n b) = 13 ∨ tkC T n (nxT T n b) = 14 ∨ tkC T n (nxT T n b) = 12 then enT T n (nxT T n (nxT T n b)) (s.1, s.2.1, nI (tkC T n (nxT T n b)), s.2.2.2) else .inl (1, nxT T n b))
  else if tkC T n b = 5 then (if tkC T n (nxT T n b) = 30 then (if tkV T n (nxT T n b) ≤ 50 then enT T n (nxT T n (nxT T n b)) (s.1, s.2.1, s.2.2.1, nI (tkV T n (nxT T n b))) else .inl (4, nxT T n b)) else .inl (1, nxT T n b))
  else exL T n (fun x => ((fun k => if k = tkC T n b then some x else s.1 k), s.2)) (exI T n (nxT T n b))
theorem nx_rng {T : Nat → Nat} {n b : Nat} (hb : b ≤ n) : b ≤ nxT T n b ∧ nxT T n b ≤ n ∧ (b < n → b < nxT T n b) := by
  have te := tkE_rng (T := T) hb
  have rb := tk_rng (T := T) te.2.2
  unfold nxT
  exact ⟨by omega, rb.2.1, fun h => by have := te.1 h; omega⟩
-- where an expression ends
theorem ex_pos {T : Nat → Nat} {n : Nat} (hT : okT T n) : ∀ f b s, b ≤ n → b ≤ exE (exR T n f b s) ∧ exE (exR T n f b s) ≤ n := by
  intro f
  induction f with
  | zero => intro b s hb; exact ⟨Nat.le_refl _, hb⟩
  | succ f ih =>
    intro b s hb
    rw [exR_s]
    have nx := nx_rng (T := T) hb
    cases h : stX (tkC T n b) (tkV T n b) s with
    | inl k => exact ⟨Nat.le_refl _, hb⟩
    | inr o =>
      cases o with
      | none => exact ⟨Nat.le_refl _, hb⟩
      | some s' =>
        have := ih (nxT T n b) s' nx.2.1
        exact ⟨Nat.le_trans nx.1 this.1, this.2⟩
def liE (R : (Nat × Nat) ⊕ (Nat × pS)) : Nat := match R with
  | .inl q => q.2
  | .inr q => q.1
-- what the class holds of a pact that is being read
def lnC (L : Lay) (M : Mem) (o : Option Nat) (e : Option Ex) : Prop := (o = none ∧ e = none) ∨ ∃ b n x, o = some b ∧ 159 ≤ b ∧ AR L b 0 n ∧ n ≤ 1000 ∧ e = some x ∧ ∀ r : Fx, rkL r (cdL M b n) [] = [x r]
def faC (L : Lay) (M : Mem) (m : Nat) (o : Option Nat) (fs : List Ex) : Prop := (o = none ∧ fs = []) ∨ ∃ (b n : Nat) (y : Ex), o = some b ∧ 159 ≤ b ∧ AR L b 0 n ∧ n ≤ m ∧ fs ≠ [] ∧ (∀ r : Fx, rkL r (cdL M b n) [] = [y r]) ∧ ∀ r : Fx, (y r = (0 : Int32) ↔ ∀ x, x ∈ fs → x r = 0)
def pcS (L : Lay) (M : Mem) (a m : Nat) (s : pS) : Prop := OB L a 4 ∧ 159 ≤ a ∧ lnC L M (mp M a 0) (s.1 0) ∧ lnC L M (mp M a 1) (s.1 1) ∧ lnC L M (mp M a 2) (s.1 2) ∧ faC L M (m + s.2.1.length) (mp M a 3) s.2.1 ∧ mi M a 4 = nI s.2.1.length ∧ s.2.1.length ≤ 8 ∧ mi M a 5 = s.2.2.1 ∧ mi M a 6 = s.2.2.2
theorem lnC_to {L L' : Lay} {M M' : Mem} {o : Option Nat} {e : Option Ex} (hE : LE L L') (h : ∀ a k, 159 ≤ a → AR L a 0 k → M'.1 a = M.1 a) (hl : lnC L M o e) : lnC L' M' o e := by
  rcases hl with q | ⟨b, n, x, h1, h2, h3, h4, h5, h6⟩
  · exact Or.inl q
  · exact Or.inr ⟨b, n, x, h1, h2, hE.ar h3, h4, h5, fun r => by rw [cdL_cg (h b n h2 h3)]; exact h6 r⟩
theorem faC_to {L L' : Lay} {M M' : Mem} {m m' : Nat} {o : Option Nat} {fs : List Ex} (hE : LE L L') (hm : m ≤ m') (h : ∀ a k, 159 ≤ a → AR L a 0 k → M'.1 a = M.1 a) (hl : faC L M m o fs) : faC L' M' m' o fs := by
  rcases hl with q | ⟨b, n, y, h1, h2, h3, h4, h5, h6, h7⟩
  · exact Or.inl q
  · exact Or.inr ⟨b, n, y, h1, h2, hE.ar h3, by omega, h5, fun r => by rw [cdL_cg (h b n h2 h3)]; exact h6 r, h7⟩
theorem ob_ar {L : Lay} {a k : Nat} (h : OB L a 4) : ¬ AR L a 0 k := fun q => by
  have := h.2.symm.trans q.2
  simp at this
theorem cdL_add {M : Mem} {a n : Nat} : ∀ m, cdL M a (n + m) = cdL M a n ++ (List.range m).map (fun j => mi M a (n + j)) := by
  intro m
  induction m with
  | zero => simp
  | succ m ih =>
    rw [show n + (m + 1) = (n + m) + 1 by omega]
    unfold cdL at ih ⊢
    rw [List.range_succ, List.map_append, ih, List.range_succ, List.map_append, List.append_assoc]; rfl
section LNC
variable {L : Lay} {M : Mem}
theorem c_exprF {rc rs : Nat} {Q : Option Nat → Lay → Mem → Prop} (h2 : ¬ mi M 71 2 = 0) (hQ : ∀ M', FJ (fun a k => a = 71 ∧ 8 ≤ k) M M' → Q none L M') : w_X5_readExpression L rc rs M Q := by
  unfold w_X5_readExpression
  intro M1 e1 M2 e2 M3 e3 M4 e4 M5 e5
  have F5 : FJ (fun a k => a = 71 ∧ 8 ≤ k) M M5 := by rw [e5, e4, e3, e2, e1]; exact ((((FJ.rf.si (by omega)).si (by omega)).si (by omega)).si (by omega)).si (by omega)
  have k2 : ¬ mi M5 71 2 = 0 := by rw [F5.1 _ _ (by omega)]; exact h2
  have k11 : mi M5 71 11 = 1 := by rw [e5, mi_si, if_neg (by omega), e4, mi_si, if_neg (by omega), e3, mi_si, if_pos ⟨rfl, rfl⟩]
  refine LP5_c0 0 0 (fun i L1 rc1 rs1 M' => L1 = L ∧ M' = M5) rfl (Nat.le_refl _) ⟨rfl, rfl⟩ ?_
  intro i L1 rc1 rs1 M6 hi _ ⟨q1, q2⟩ K _
  subst q1 q2
  have : i = 0 := by omega
  subst this
  unfold w_X5_readExpression_27
  refine ⟨fun _ => ⟨fun z => absurd z k2, fun _ => ?_⟩, fun z => absurd (by decide) z⟩
  unfold w_X5_readExpression_93
  refine ⟨fun z => absurd (k11.symm.trans z) (by decide), fun _ => ?_⟩
  unfold w_X5_readExpression_107
  refine c_refuse0 k2 ?_
  unfold w_X5_readExpression_112
  exact ⟨fun z => absurd z k2, fun _ => hQ M6 F5⟩
theorem c_exp1 {T : Nat → Nat} {n b c : Nat} {p : Int32} {Q : Mem → Prop} (hT : okT T n) (hp : p = nI c) (hc : c < 128) (hb : b ≤ n) (hr : rdC M T n) (ht : rtC M T n b) (h2 : mi M 71 2 = 0)
    (h1 : tkC T n b = c → ∀ M', mi M' 71 2 = 0 → rdC M' T n → rtC M' T n (nxT T n b) → FJ PEx M M' → Q M')
    (h0 : ¬ tkC T n b = c → ∀ M', mi M' 71 2 = nI (1 + 16 * b) → rdC M' T n → rtC M' T n (nxT T n b) → FJ PEx M M' → Q M') : w_X5_expect L p M Q := by
  have te := tkE_rng (T := T) hb
  have tc := (tk_code (b := b) hT).1
  unfold w_X5_expect
  rw [ht.2.2.1, hp, nI_eq' (by omega) (by omega)]
  have pk : ∀ a k, PK a k → PEx a k := fun a k z => by unfold PK at z; unfold PEx; omega
  refine ⟨fun z => ?_, fun z => c_refuse (k := 1) h2 ht.1 (fun M1 e1 => ?_)⟩
  · unfold w_X5_expect_13
    exact c_next5 hT hr ht.2.1 te.2.2 (fun M' r F => h1 z M' (by rw [F.1 _ _ (by unfold PK; omega)]; exact h2) (rd_cg hr (F.mono pk)) r (F.mono pk))
  · unfold w_X5_expect_13
    have F1 : FJ PEx M M1 := by rw [e1]; exact FJ.rf.si (by unfold PEx; omega)
    have r1 := rd_cg hr F1
    refine c_next5 hT r1 (by rw [e1, mi_si, if_neg (by omega)]; exact ht.2.1) te.2.2 (fun M' r F => h0 z M' ?_ (rd_cg r1 (F.mono pk)) r (F1.tr (F.mono pk)))
    rw [F.1 _ _ (by unfold PK; omega), e1, mi_si, if_pos ⟨rfl, rfl⟩]
theorem c_expF {T : Nat → Nat} {n e : Nat} {p : Int32} {Q : Mem → Prop} (hT : okT T n) (hr : rdC M T n) (h6 : mi M 71 6 = nI e) (he : e ≤ n) (h2 : ¬ mi M 71 2 = 0) (hQ : ∀ M', mi M' 71 2 = mi M 71 2 → rdC M' T n → FJ PEx M M' → Q M') : w_X5_expect L p M Q := by
  have pk : ∀ a k, PK a k → PEx a k := fun a k z => by unfold PK at z; unfold PEx; omega
  have go : w_X5_expect_13 L p M Q := by
    unfold w_X5_expect_13
    exact c_next5 hT hr h6 he (fun M' r F => hQ M' (F.1 _ _ (by unfold PK; omega)) (rd_cg hr (F.mono pk)) (F.mono pk))
  unfold w_X5_expect
  exact ⟨fun _ => go, fun _ => c_refuse0 h2 go⟩
theorem c_setL {pa k : Nat} {o : Option Nat} {Q : Mem → Prop} (hk : k < 3) (h : ∀ M', M' = sq M pa k o → Q M') : w_X4_setLine L pa (nI k) o M Q := by
  unfold w_X4_setLine
  have : k = 0 ∨ k = 1 ∨ k = 2 := by omega
  rcases this with rfl | rfl | rfl
  · exact ⟨fun _ => h, fun z => absurd rfl z⟩
  · exact ⟨fun z => absurd z (by decide), fun _ => ⟨fun _ => h, fun z => absurd rfl z⟩⟩
  · exact ⟨fun z => absurd z (by decide), fun _ => ⟨fun z => absurd z (by decide), fun _ => h⟩⟩
theorem c_told {pa b c : Nat} {s : pS} {Q : Int32 → Mem → Prop} (hc : c ≤ 5) (hp : pcS L M pa b s) (h : Q (if tdB s c = true then 1 else 0) M) : w_X4_hasTold L pa (nI c) M Q := by
  obtain ⟨-, -, p0, p1, p2, -, -, -, p5, p6⟩ := hp
  have ln : ∀ {o : Option Nat} {e : Option Ex}, lnC L M o e → (o = none → e = none) ∧ ∀ a, o = some a → e.isSome = true := fun {o e} q => by
    rcases q with ⟨q1, q2⟩ | ⟨b, n, x, q1, -, -, -, q5, -⟩
    · exact ⟨fun _ => q2, fun a z => absurd (q1.symm.trans z) (fun w => by cases w)⟩
    · exact ⟨fun z => absurd (q1.symm.trans z) (fun w => by cases w), fun a _ => by rw [q5]; rfl⟩
  have lx : ∀ {o : Option Nat} {k : Nat}, k < 3 → lnC L M o (s.1 k) → (o = none → ¬ tdB s k = true) ∧ ∀ a, o = some a → tdB s k = true := fun {o k} hk q => by
    obtain ⟨q1, q2⟩ := ln q
    refine ⟨fun z w => ?_, fun a z => td_iff.mpr (Or.inl ⟨hk, q2 a z⟩)⟩
    rcases td_iff.mp w with ⟨-, w⟩ | ⟨w, -⟩ | ⟨w, -⟩
    · rw [q1 z] at w; cases w
    · omega
    · omega
  unfold w_X4_hasTold
  have : c = 0 ∨ c = 1 ∨ c = 2 ∨ c = 3 ∨ c = 4 ∨ c = 5 := by omega
  rcases this with rfl | rfl | rfl | rfl | rfl | rfl
  · have q := lx (k := 0) (by decide) p0
    exact ⟨fun _ => ⟨fun z => by rw [if_neg (q.1 z)] at h; exact h, fun a z => by rw [if_pos (q.2 a z)] at h; exact h⟩, fun z => absurd rfl z⟩
  · have q := lx (k := 1) (by decide) p1
    exact ⟨fun z => absurd z (by decide), fun _ => ⟨fun _ => ⟨fun z => by rw [if_neg (q.1 z)] at h; exact h, fun a z => by rw [if_pos (q.2 a z)] at h; exact h⟩, fun z => absurd rfl z⟩⟩
  · have q := lx (k := 2) (by decide) p2
    exact ⟨fun z => absurd z (by decide), fun _ => ⟨fun z => absurd z (by decide), fun _ => ⟨fun _ => ⟨fun z => by rw [if_neg (q.1 z)] at h; exact h, fun a z => by rw [if_pos (q.2 a z)] at h; exact h⟩, fun z => absurd rfl z⟩⟩⟩
  · have q : ¬ tdB s 3 = true := fun w => by have := td_iff.mp w; omega
    rw [if_neg q] at h
    exact ⟨fun z => absurd z (by decide), fun _ => ⟨fun z => absurd z (by decide), fun _ => ⟨fun z => absurd z (by decide), fun _ => ⟨fun _ => h, fun z => absurd rfl z⟩⟩⟩⟩
  · have q : tdB s 4 = true ↔ ¬ s.2.2.1 = -1 := ⟨fun w => by rcases td_iff.mp w with ⟨w, -⟩ | ⟨-, w⟩ | ⟨w, -⟩ <;> first | exact w | omega, fun w => td_iff.mpr (Or.inr (Or.inl ⟨rfl, w⟩))⟩
    refine ⟨fun z => absurd z (by decide), fun _ => ⟨fun z => absurd z (by decide), fun _ => ⟨fun z => absurd z (by decide), fun _ => ⟨fun z => absurd z (by decide), fun _ => ⟨fun _ x hx => ?_, fun z => absurd rfl z⟩⟩⟩⟩⟩
    rw [hx, p5]
    by_cases w : s.2.2.1 = -1
    · rw [if_pos w]; rw [if_neg (fun z => q.mp z w)] at h; exact h
    · rw [if_neg w]; rw [if_pos (q.mpr w)] at h; exact h
  · have q : tdB s 5 = true ↔ ¬ s.2.2.2 = -1 := ⟨fun w => by rcases td_iff.mp w with ⟨w, -⟩ | ⟨w, -⟩ | ⟨-, w⟩ <;> first | exact w | omega, fun w => td_iff.mpr (Or.inr (Or.inr ⟨rfl, w⟩))⟩
    refine ⟨fun z => absurd z (by decide), fun _ => ⟨fun z => absurd z (by decide), fun _ => ⟨fun z => absurd z (by decide), fun _ => ⟨fun z => absurd z (by decide), fun _ => ⟨fun z => absurd z (by decide), fun _ => ⟨fun _ x hx => ?_, fun z => absurd rfl z⟩⟩⟩⟩⟩⟩
    rw [hx, p6]
    by_cases w : s.2.2.2 = -1
    · rw [if_pos w]; rw [if_neg (fun z => q.mp z w)] at h; exact h
    · rw [if_neg w]; rw [if_pos (q.mpr w)] at h; exact h
theorem c_num {T : Nat → Nat} {n b m : Nat} {Q : Int32 → Mem → Prop} (hT : okT T n) (hm : m < 10000) (hb : b ≤ n) (hr : rdC M T n) (ht : rtC M T n b) (h2 : mi M 71 2 = 0)
    (h1 : tkC T n b = 30 → tkV T n b ≤ m → ∀ M', mi M' 71 2 = 0 → rdC M' T n → rtC M' T n (nxT T n b) → FJ PEx M M' → Q (nI (tkV T n b)) M')
    (h0 : ∀ k x M', (k = 4 ∧ tkC T n b = 30 ∧ m < tkV T n b) ∨ (k = 1 ∧ ¬ tkC T n b = 30) → mi M' 71 2 = nI (k + 16 * b) → rdC M' T n → rtC M' T n (nxT T n b) → FJ PEx M M' → Q x M') : w_X5_readNumber L (nI m) M Q := by
  have te := tkE_rng (T := T) hb
  have tc := (tk_code (b := b) hT).1
  have pk : ∀ a k, PK a k → PEx a k := fun a k z => by unfold PK at z; unfold PEx; omega
  unfold w_X5_readNumber
  intro x1 e1
  have flt : ∀ k, (k = 4 ∧ tkC T n b = 30 ∧ m < tkV T n b) ∨ (k = 1 ∧ ¬ tkC T n b = 30) → w_X5_refuse L (nI k) M (fun M4 => w_X5_readNumber_32 L (nI m) x1 M4 Q) := fun k hk => by
    refine c_refuse h2 ht.1 (fun M1 e2 => ?_)
    unfold w_X5_readNumber_32
    have F1 : FJ PEx M M1 := by rw [e2]; exact FJ.rf.si (by unfold PEx; omega)
    have r1 := rd_cg hr F1
    refine c_next5 hT r1 (by rw [e2, mi_si, if_neg (by omega)]; exact ht.2.1) te.2.2 (fun M' r F => h0 k x1 M' hk ?_ (rd_cg r1 (F.mono pk)) r (F1.tr (F.mono pk)))
    rw [F.1 _ _ (by unfold PK; omega), e2, mi_si, if_pos ⟨rfl, rfl⟩]
  rw [ht.2.2.1, show (30 : Int32) = nI 30 from rfl, nI_eq' (by omega) (by omega)]
  refine ⟨fun c30 => ?_, fun c30 => flt 1 (Or.inr ⟨rfl, c30⟩)⟩
  have tv := tkV_lt hT c30
  have e1' : x1 = nI (tkV T n b) := by rw [e1]; exact ht.2.2.2 c30
  have lt : (nI m < x1) = (m < tkV T n b) := by rw [e1', nI_lt' (by omega) (by omega)]
  rw [lt]
  refine ⟨fun z => flt 4 (Or.inl ⟨rfl, c30, z⟩), fun z => ?_⟩
  unfold w_X5_readNumber_32
  rw [e1']
  exact c_next5 hT hr ht.2.1 te.2.2 (fun M' r F => h1 c30 (by omega) M' (by rw [F.1 _ _ (by unfold PK; omega)]; exact h2) (rd_cg hr (F.mono pk)) r (F.mono pk))
end LNC
