-- LEVEL 3, part 46: tokens, as the reference takes them
def FLg (P : Nat → Nat → Prop) (M M' : Mem) : Prop := (∀ a k, ¬ P a k → mi M' a k = mi M a k) ∧ (∀ a k, mp M' a k = mp M a k)
theorem FLg.rf {P : Nat → Nat → Prop} {M : Mem} : FLg P M M := ⟨fun _ _ _ => rfl, fun _ _ => rfl⟩
theorem FLg.tr {P : Nat → Nat → Prop} {M M' M'' : Mem} (h1 : FLg P M M') (h2 : FLg P M' M'') : FLg P M M'' := ⟨fun a k ha => (h2.1 a k ha).trans (h1.1 a k ha), fun a k => (h2.2 a k).trans (h1.2 a k)⟩
theorem FLg.si {P : Nat → Nat → Prop} {M M' : Mem} {a k : Nat} {x : Int32} (h : FLg P M M') (ha : P a k) : FLg P M (si M' a k x) := ⟨fun b j hb => by
    rw [mi_si, if_neg (fun q => hb (by rw [q.1, q.2]; exact ha)), h.1 b j hb], fun b j => h.2 b j⟩
theorem FLg.sl {P : Nat → Nat → Prop} {M M' : Mem} {a k : Nat} {x : Int64} (h : FLg P M M') : FLg P M (sl M' a k x) := ⟨fun b j hb => h.1 b j hb, fun b j => h.2 b j⟩
theorem FLg.mono {P P' : Nat → Nat → Prop} {M M' : Mem} (h : FLg P M M') (hp : ∀ a k, P a k → P' a k) : FLg P' M M' := ⟨fun a k ha => h.1 a k (fun q => ha (hp a k q)), h.2⟩
theorem FJ.flg {P : Nat → Nat → Prop} {M M' : Mem} (h : FJ P M M') : FLg P M M' := ⟨h.1, fun a k => h.mp⟩
def rdM (M : Mem) (T : Nat → Nat) (n : Nat) : Prop := mi M 92 44 = nI n ∧ ∀ i, i < n → mi M 129 i = nI (T i)
def tkM (M : Mem) (T : Nat → Nat) (n b : Nat) : Prop :=
  (tkC T n b = 32 ∧ mi M 92 47 = 0) ∨ (tkC T n b < 27 ∧ mi M 92 47 = 1 ∧ ml M 92 48 = lN (whF (tkC T n b))) ∨ (tkC T n b = 30 ∧ mi M 92 47 = 2 ∧ mi M 92 49 = nI (tkV T n b)) ∨ (sgn (tkC T n b) = true ∧ mi M 92 47 = 3 ∧ T b = tkC T n b ∧ b < n) ∨
  (tkC T n b = 31 ∧ (mi M 92 47 = 4 ∨ (mi M 92 47 = 1 ∧ ∃ h, ml M 92 48 = lN h ∧ h < 2 ^ 60 ∧ ∀ k, k < 27 → h ≠ whF k)))
def rtM (M : Mem) (T : Nat → Nat) (n b : Nat) : Prop := mi M 92 46 = nI b ∧ mi M 92 45 = nI (tkE T n b) ∧ tkM M T n b
def PJ (a k : Nat) : Prop := a = 92 ∧ (k = 45 ∨ k = 46 ∨ k = 47 ∨ k = 49)
theorem rdM_cg {M M' : Mem} {T : Nat → Nat} {n : Nat} (h : rdM M T n) (h1 : mi M' 92 44 = mi M 92 44) (h2 : ∀ i, mi M' 129 i = mi M 129 i) : rdM M' T n := ⟨h1.trans h.1, fun i hi => (h2 i).trans (h.2 i hi)⟩
theorem ml_i {M : Mem} {a k b j : Nat} {x : Int32} : ml (si M a k x) b j = ml M b j := rfl
theorem sn_tab : ∀ c, c < 128 → (if nI c < (40 : Int32) then (if nI c = (45 : Int32) then (3 : Int32) else (if nI c = (47 : Int32) then (3 : Int32) else (if nI c < (59 : Int32) then (4 : Int32) else (if (61 : Int32) < nI c then (4 : Int32) else (3 : Int32))))) else (if (43 : Int32) < nI c then (if nI c = (45 : Int32) then (3 : Int32) else (if nI c = (47 : Int32) then (3 : Int32) else (if nI c < (59 : Int32) then (4 : Int32) else (if (61 : Int32) < nI c then (4 : Int32) else (3 : Int32))))) else (3 : Int32))) = if sgn c = true then 3 else 4 := by decide +kernel
section LXM
variable {L : Lay} {M : Mem}
theorem m_sign {T : Nat → Nat} {n i : Nat} {Q : Int32 → Mem → Prop} (hT : okT T n) (hr : rdM M T n) (hi : i ≤ n) (h : Q (nI (if i < n then T i else 0)) M) : w_X12_signAt L (nI i) M Q := by
  have hn := hT.1
  unfold w_X12_signAt
  rw [hr.1, nI_lt' (by omega) (by omega), tn_nI (n := i) (by omega)]
  refine ⟨fun c => ⟨vp_in_nI (by omega) (by decide), ?_⟩, fun c => ?_⟩
  · rw [if_pos c] at h; rw [hr.2 i c]; exact h
  · rw [if_neg c] at h; exact h
theorem m_word {T : Nat → Nat} {n b : Nat} {Q : Mem → Prop} (hT : okT T n) (hr : rdM M T n) (h46 : mi M 92 46 = nI b) (h45 : mi M 92 45 = nI b) (h48 : ml M 92 48 = lN 0) (hb : b < n) (hl : isL (T b) = true)
    (hQ : ∀ M', rtM M' T n b → FLg PJ M M' → Q M') : LP1 (fun K109 M => w_X12_next_109 L K109 M Q) M := by
  have hn := hT.1
  have rg := sk_rng (p := isL) (T := T) (n - b) b rfl (by omega)
  refine LP1_m (fun m M' => ∃ e, e ≤ n ∧ b ≤ e ∧ m = n - e ∧ mi M' 92 45 = nI e ∧ skF isL T n b = skF isL T n e ∧ ml M' 92 48 = lN (hsG (fun i => T (b + i)) (min (e - b) 8)) ∧ FLg (fun a k => a = 92 ∧ k = 45) M M') (n - b) ⟨b, by omega, Nat.le_refl _, rfl, h45, rfl, by rw [Nat.sub_self]; exact h48, FLg.rf⟩ ?_
  intro m M1 ⟨e, he, hbe, hm, g45, hs, g48, F1⟩ K hK
  have g46 : mi M1 92 46 = nI b := (F1.1 _ _ (by omega)).trans h46
  have r1 : rdM M1 T n := rdM_cg hr (F1.1 _ _ (by omega)) (fun j => F1.1 _ _ (by omega))
  have fin : skF isL T n e = e → w_X12_next_188 L M1 Q := fun es => by
    rw [es] at hs
    have lt : ∀ i, i < e - b → 97 ≤ T (b + i) ∧ T (b + i) ≤ 122 := fun i hi => by
      have := rg.2.2.1 (b + i) (by omega) (by omega)
      unfold isL at this; simpa using this
    unfold w_X12_next_188
    intro x hx M2 e2
    have el : ((8 : Int32) < nI (e - b)) ↔ 8 < e - b := nI_ltI (a := 8) (b := e - b) (by omega) (by omega)
    rw [g45, g46, pk_sub hbe] at hx
    have kE : tkE T n b = e := by unfold tkE; rw [if_pos hb, if_pos hl]; exact hs
    have kC : tkC T n b = if 8 < e - b then 31 else wiG T b (e - b) 27 0 := by unfold tkC; rw [if_pos hb, if_pos hl, hs]
    have k47 : mi M2 92 47 = x := by rw [e2, mi_si, if_pos ⟨rfl, rfl⟩]
    have k48 : ml M2 92 48 = lN (hsG (fun i => T (b + i)) (min (e - b) 8)) := by rw [e2, ml_i]; exact g48
    refine hQ M2 ⟨by rw [e2, mi_si, if_neg (by omega)]; exact g46, by rw [e2, mi_si, if_neg (by omega), g45, kE], ?_⟩ (by rw [e2]; exact (F1.mono (fun a k q => by unfold PJ; omega)).si (by unfold PJ; omega))
    unfold tkM
    by_cases c : 8 < e - b
    · rw [if_pos (el.mpr c)] at hx
      rw [if_pos c] at kC
      exact Or.inr (Or.inr (Or.inr (Or.inr ⟨kC, Or.inl (k47.trans hx)⟩)))
    · rw [if_neg (fun z => c (el.mp z))] at hx
      rw [if_neg c] at kC
      rw [show min (e - b) 8 = e - b by omega] at k48
      rcases wi_spec (T := T) (b := b) (l := e - b) 27 0 with ⟨q1, q2⟩ | ⟨j, j1, j2, j3, j4⟩
      · refine Or.inr (Or.inr (Or.inr (Or.inr ⟨kC.trans q1, Or.inr ⟨k47.trans hx, _, k48, ?_, fun k hk z => ?_⟩⟩)))
        · have := hs_lt (f := fun i => T (b + i)) (e - b) lt
          have p8 : 27 ^ (e - b) ≤ 27 ^ 8 := Nat.pow_le_pow_right (by decide) (by omega)
          have : (27 : Nat) ^ 8 < 2 ^ 60 := by decide
          omega
        · have := q2 k (by omega) (by omega)
          rw [(wm_hs (by omega) lt hk).mpr z] at this
          exact absurd this (by decide)
      · refine Or.inr (Or.inl ⟨by omega, k47.trans hx, ?_⟩)
        rw [kC, j3, k48, (wm_hs (by omega) lt (by omega)).mp j4]
  unfold w_X12_next_109
  rw [g45]
  refine m_sign hT r1 he ?_
  by_cases hlt : e < n
  · have te := hT.2 e hlt
    rw [if_pos hlt, show (97 : Int32) = nI 97 from rfl, nI_lt' (by omega) (by omega)]
    refine ⟨fun c => fin (sk_no (fun z => by have := z.2; unfold isL at this; simp at this; omega)), fun c => ?_⟩
    rw [g45]
    refine m_sign hT r1 he ?_
    rw [if_pos hlt, show (122 : Int32) = nI 122 from rfl, nI_lt' (by omega) (by omega)]
    refine ⟨fun d => fin (sk_no (fun z => by have := z.2; unfold isL at this; simp at this; omega)), fun d => ?_⟩
    have il : isL (T e) = true := by unfold isL; simp; omega
    rw [g45, g46, pk_sub hbe, show (8 : Int32) = nI 8 from rfl, nI_lt' (by omega) (by omega)]
    have go : ∀ M2 : Mem, FLg (fun a k => a = 92 ∧ k = 45) M M2 → mi M2 92 45 = nI e → ml M2 92 48 = lN (hsG (fun i => T (b + i)) (min (e + 1 - b) 8)) → w_X12_next_175 L K M2 Q := fun M2 a1 a2 a3 => by
      unfold w_X12_next_175
      intro M3 e3
      rw [a2, nI_1] at e3
      exact hK (n - (e + 1)) (by omega) M3 ⟨e + 1, by omega, by omega, rfl, by rw [e3, mi_si, if_pos ⟨rfl, rfl⟩], by rw [hs, sk_yes hlt il], by rw [e3, ml_i]; exact a3, by rw [e3]; exact a1.si ⟨rfl, rfl⟩⟩
    refine ⟨fun f => m_sign hT r1 he (fun M2 e2 => go M2 (by rw [e2]; exact F1.sl) (by rw [e2]; exact g45) ?_), fun f => go M1 F1 g45 ?_⟩
    · rw [if_pos hlt] at e2
      rw [e2, ml_sl, if_pos ⟨rfl, rfl⟩, g48, nI_l (by omega), show (27 : Int64) = lN 27 from rfl, show (96 : Int64) = lN 96 from rfl, lN_mul, lN_add, lN_sub (by omega), show min (e - b) 8 = e - b by omega, show min (e + 1 - b) 8 = (e - b) + 1 by omega]
      show _ = lN (27 * hsG (fun i => T (b + i)) (e - b) + T (b + (e - b)) - 96)
      rw [show b + (e - b) = e by omega, Nat.mul_comm]
    · rw [show min (e + 1 - b) 8 = min (e - b) 8 by omega]; exact g48
  · rw [if_neg hlt]
    refine ⟨fun _ => fin (sk_no (fun z => hlt z.1)), fun z => absurd (by decide) z⟩
theorem m_number {T : Nat → Nat} {n b : Nat} {Q : Mem → Prop} (hT : okT T n) (hr : rdM M T n) (h46 : mi M 92 46 = nI b) (h45 : mi M 92 45 = nI b) (h49 : mi M 92 49 = 0) (hb : b < n) (hl : isL (T b) = false) (hd : isD (T b) = true)
    (hQ : ∀ M', rtM M' T n b → FLg PJ M M' → Q M') : LP1 (fun K224 M => w_X12_next_224 L K224 M Q) M := by
  have hn := hT.1
  refine LP1_m (fun m M' => ∃ e, e ≤ n ∧ b ≤ e ∧ m = n - e ∧ mi M' 92 45 = nI e ∧ skF isD T n b = skF isD T n e ∧ mi M' 92 49 = nI (nuF T b (min (e - b) 4)) ∧ FLg (fun a k => a = 92 ∧ (k = 45 ∨ k = 49)) M M') (n - b) ⟨b, by omega, Nat.le_refl _, rfl, h45, rfl, by rw [Nat.sub_self]; exact h49, FLg.rf⟩ ?_
  intro m M1 ⟨e, he, hbe, hm, g45, hs, g49, F1⟩ K hK
  have g46 : mi M1 92 46 = nI b := (F1.1 _ _ (by omega)).trans h46
  have r1 : rdM M1 T n := rdM_cg hr (F1.1 _ _ (by omega)) (fun j => F1.1 _ _ (by omega))
  have fin : skF isD T n e = e → w_X12_next_299 L M1 Q := fun es => by
    rw [es] at hs
    unfold w_X12_next_299
    intro x hx M2 e2
    have el : ((4 : Int32) < nI (e - b)) ↔ 4 < e - b := nI_ltI (a := 4) (b := e - b) (by omega) (by omega)
    rw [g45, g46, pk_sub hbe] at hx
    have kE : tkE T n b = e := by unfold tkE; rw [if_pos hb, if_neg (by rw [hl]; decide), if_pos hd]; exact hs
    have kC : tkC T n b = if 4 < e - b then 31 else 30 := by unfold tkC; rw [if_pos hb, if_neg (by rw [hl]; decide), if_pos hd, hs]
    have kV : tkV T n b = nuF T b (e - b) := by unfold tkV; rw [hs]
    have k47 : mi M2 92 47 = x := by rw [e2, mi_si, if_pos ⟨rfl, rfl⟩]
    refine hQ M2 ⟨by rw [e2, mi_si, if_neg (by omega)]; exact g46, by rw [e2, mi_si, if_neg (by omega), g45, kE], ?_⟩ (by rw [e2]; exact (F1.mono (fun a k q => by unfold PJ; omega)).si (by unfold PJ; omega))
    unfold tkM
    by_cases c : 4 < e - b
    · rw [if_pos (el.mpr c)] at hx
      rw [if_pos c] at kC
      exact Or.inr (Or.inr (Or.inr (Or.inr ⟨kC, Or.inl (k47.trans hx)⟩)))
    · rw [if_neg (fun z => c (el.mp z))] at hx
      rw [if_neg c] at kC
      refine Or.inr (Or.inr (Or.inl ⟨kC, k47.trans hx, ?_⟩))
      rw [e2, mi_si, if_neg (by omega), g49, kV, show min (e - b) 4 = e - b by omega]
  unfold w_X12_next_224
  rw [g45]
  refine m_sign hT r1 he ?_
  by_cases hlt : e < n
  · have te := hT.2 e hlt
    rw [if_pos hlt, show (48 : Int32) = nI 48 from rfl, nI_lt' (by omega) (by omega)]
    refine ⟨fun c => fin (sk_no (fun z => by have := z.2; unfold isD at this; simp at this; omega)), fun c => ?_⟩
    rw [g45]
    refine m_sign hT r1 he ?_
    rw [if_pos hlt, show (57 : Int32) = nI 57 from rfl, nI_lt' (by omega) (by omega)]
    refine ⟨fun d => fin (sk_no (fun z => by have := z.2; unfold isD at this; simp at this; omega)), fun d => ?_⟩
    have il : isD (T e) = true := by unfold isD; simp; omega
    rw [g45, g46, pk_sub hbe, show (4 : Int32) = nI 4 from rfl, nI_lt' (by omega) (by omega)]
    have go : ∀ M2 : Mem, FLg (fun a k => a = 92 ∧ (k = 45 ∨ k = 49)) M M2 → mi M2 92 45 = nI e → mi M2 92 49 = nI (nuF T b (min (e + 1 - b) 4)) → w_X12_next_286 L K M2 Q := fun M2 a1 a2 a3 => by
      unfold w_X12_next_286
      intro M3 e3
      rw [a2, nI_1] at e3
      exact hK (n - (e + 1)) (by omega) M3 ⟨e + 1, by omega, by omega, rfl, by rw [e3, mi_si, if_pos ⟨rfl, rfl⟩], by rw [hs, sk_yes hlt il], by rw [e3, mi_si, if_neg (by omega)]; exact a3, by rw [e3]; exact a1.si ⟨rfl, Or.inl rfl⟩⟩
    refine ⟨fun f => m_sign hT r1 he (fun M2 e2 => go M2 (by rw [e2]; exact F1.si ⟨rfl, Or.inr rfl⟩) (by rw [e2, mi_si, if_neg (by omega)]; exact g45) ?_), fun f => go M1 F1 g45 ?_⟩
    · rw [if_pos hlt] at e2
      rw [e2, mi_si, if_pos ⟨rfl, rfl⟩, g49, show (10 : Int32) = nI 10 from rfl, pk_mul, nI_add, pk_sub (by omega), show min (e - b) 4 = e - b by omega, show min (e + 1 - b) 4 = (e - b) + 1 by omega]
      show _ = nI (10 * nuF T b (e - b) + (T (b + (e - b)) - 48))
      rw [show b + (e - b) = e by omega, Nat.mul_comm, Nat.add_sub_assoc (by omega)]
    · rw [show min (e + 1 - b) 4 = min (e - b) 4 by omega]; exact g49
  · rw [if_neg hlt]
    refine ⟨fun _ => fin (sk_no (fun z => hlt z.1)), fun z => absurd (by decide) z⟩
theorem m_next5 {T : Nat → Nat} {n e : Nat} {Q : Mem → Prop} (hT : okT T n) (hr : rdM M T n) (h45 : mi M 92 45 = nI e) (he : e ≤ n)
    (hQ : ∀ M', rtM M' T n (tkB T n e) → FLg PJ M M' → Q M') : w_X12_next L M Q := by
  have hn := hT.1
  unfold w_X12_next
  refine LP1_m (fun m M' => ∃ i, i ≤ n ∧ e ≤ i ∧ m = n - i ∧ mi M' 92 45 = nI i ∧ skF isK T n e = skF isK T n i ∧ FLg (fun a k => a = 92 ∧ k = 45) M M') (n - e) ⟨e, he, Nat.le_refl _, rfl, h45, rfl, FLg.rf⟩ ?_
  intro m M1 ⟨i, hi, hei, hm, g45, hs, F1⟩ K hK
  have fin : skF isK T n i = i → w_X12_next_52 L M1 Q := fun es => by
    have eb : tkB T n e = i := hs.trans es
    rw [eb] at hQ
    unfold w_X12_next_52
    intro M2 e2 M3 e3 M4 e4
    rw [g45] at e2
    have F4 : FLg PJ M M4 := by rw [e4, e3, e2]; exact ((((F1.mono (fun a k q => by unfold PJ; omega)).si (by unfold PJ; omega)).sl).si (by unfold PJ; omega))
    have r4 : rdM M4 T n := rdM_cg hr (F4.1 _ _ (by unfold PJ; omega)) (fun j => F4.1 _ _ (by unfold PJ; omega))
    have k45 : mi M4 92 45 = nI i := by rw [e4, mi_si, if_neg (by omega), e3, mi_sl, e2, mi_si, if_neg (by omega)]; exact g45
    have k46 : mi M4 92 46 = nI i := by rw [e4, mi_si, if_neg (by omega), e3, mi_sl, e2, mi_si, if_pos ⟨rfl, rfl⟩]
    have k48 : ml M4 92 48 = lN 0 := by rw [e4, ml_i, e3, ml_sl, if_pos ⟨rfl, rfl⟩]; rfl
    have k49 : mi M4 92 49 = 0 := by rw [e4, mi_si, if_pos ⟨rfl, rfl⟩]
    rw [k45, r4.1, nI_eq' (by omega) (by omega), tn_nI (n := i) (by omega)]
    refine ⟨fun c M5 e5 => ?_, fun c => ⟨vp_in_nI (by omega) (by decide), fun x hx => ?_⟩⟩
    · have kE : tkE T n i = i := by unfold tkE; rw [if_neg (by omega)]
      have kC : tkC T n i = 32 := by unfold tkC; rw [if_neg (by omega)]
      exact hQ M5 ⟨by rw [e5, mi_si, if_neg (by omega)]; exact k46, by rw [e5, mi_si, if_neg (by omega), k45, kE], Or.inl ⟨kC, by rw [e5, mi_si, if_pos ⟨rfl, rfl⟩]⟩⟩ (by rw [e5]; exact F4.si (by unfold PJ; omega))
    · have hlt : i < n := by omega
      have te := hT.2 i hlt
      rw [r4.2 i hlt] at hx
      subst hx
      have notL : isL (T i) = false → w_X12_next_212 L (nI (T i)) M4 Q := fun ql => by
        unfold w_X12_next_212
        have notD : isD (T i) = false → w_X12_next_322 L (nI (T i)) M4 Q := fun qd => by
          unfold w_X12_next_322
          intro M5 e5 y hy M6 e6
          rw [sn_tab _ (by omega)] at hy
          have kE : tkE T n i = i + 1 := by unfold tkE; rw [if_pos hlt, if_neg (by rw [ql]; decide), if_neg (by rw [qd]; decide)]
          have kC : tkC T n i = if sgn (T i) = true then T i else 31 := by unfold tkC; rw [if_pos hlt, if_neg (by rw [ql]; decide), if_neg (by rw [qd]; decide)]
          rw [k45, nI_1] at e5
          refine hQ M6 ⟨by rw [e6, mi_si, if_neg (by omega), e5, mi_si, if_neg (by omega)]; exact k46, by rw [e6, mi_si, if_neg (by omega), e5, mi_si, if_pos ⟨rfl, rfl⟩, kE], ?_⟩ (by rw [e6, e5]; exact (F4.si (by unfold PJ; omega)).si (by unfold PJ; omega))
          have k47 : mi M6 92 47 = y := by rw [e6, mi_si, if_pos ⟨rfl, rfl⟩]
          unfold tkM
          by_cases g : sgn (T i) = true
          · rw [if_pos g] at hy kC
            exact Or.inr (Or.inr (Or.inr (Or.inl ⟨by rw [kC]; exact g, k47.trans hy, kC.symm, hlt⟩)))
          · rw [if_neg g] at hy kC
            exact Or.inr (Or.inr (Or.inr (Or.inr ⟨kC, Or.inl (k47.trans hy)⟩)))
        rw [show (48 : Int32) = nI 48 from rfl, show (57 : Int32) = nI 57 from rfl, nI_lt' (by omega) (by omega), nI_lt' (by omega) (by omega)]
        refine ⟨fun c2 => notD (by unfold isD; simp; omega), fun c2 => ⟨fun c3 => notD (by unfold isD; simp; omega), fun c3 => ?_⟩⟩
        exact m_number hT r4 k46 k45 k49 hlt ql (by unfold isD; simp; omega) (fun M' a b' => hQ M' a (F4.tr b'))
      rw [show (97 : Int32) = nI 97 from rfl, show (122 : Int32) = nI 122 from rfl, nI_lt' (by omega) (by omega), nI_lt' (by omega) (by omega)]
      refine ⟨fun c2 => notL (by unfold isL; simp; omega), fun c2 => ⟨fun c3 => notL (by unfold isL; simp; omega), fun c3 => ?_⟩⟩
      exact m_word hT r4 k46 k45 k48 hlt (by unfold isL; simp; omega) (fun M' a b' => hQ M' a (F4.tr b'))
  unfold w_X12_next_0 w_X12_next_39
  rw [g45, F1.1 92 44 (by omega), hr.1, nI_lt' (by omega) (by omega)]
  refine ⟨fun hlt => ?_, fun hge => fin (sk_no (fun q => hge q.1))⟩
  have tb := hT.2 i hlt
  rw [tn_nI (by omega), F1.1 129 _ (by omega), hr.2 i hlt, show (10 : Int32) = nI 10 from rfl, show (32 : Int32) = nI 32 from rfl, nI_eq' (by omega) (by omega), nI_eq' (by omega) (by omega)]
  have go : isK (T i) = true → ∀ M2 : Mem, M2 = si M1 92 45 (nI i + 1) → K M2 := fun q M2 e2 => by
    refine hK (n - (i + 1)) (by omega) M2 ⟨i + 1, by omega, by omega, rfl, ?_, ?_, ?_⟩
    · rw [e2, mi_si, if_pos ⟨rfl, rfl⟩, nI_1]
    · rw [hs, sk_yes hlt q]
    · rw [e2]; exact F1.si ⟨rfl, rfl⟩
  refine ⟨vp_in_nI (by omega) (by decide), fun c => go (by unfold isK; simp [c]), fun c => ⟨fun d => go (by unfold isK; simp [d]), fun d => fin (sk_no (fun z => ?_))⟩⟩
  have z2 := z.2
  unfold isK at z2
  simp [c, d] at z2
-- is it this word, this sign
theorem m_iw {T : Nat → Nat} {n b k : Nat} {w : Int64} {A B : Mem → Prop} (hr : rtM M T n b) (hk : k < 27) (hw : w = lN (whF k)) (h0 : ¬ tkC T n b = k → A M) (h1 : tkC T n b = k → B M) : w_X12_isWord L w M (fun x M1 => (x = 0 → A M1) ∧ (¬ x = 0 → B M1)) := by
  have wk := (wt_2 k hk).2.2
  have w2 : whF k < 2 ^ 62 := by omega
  unfold w_X12_isWord
  rcases hr.2.2 with ⟨a1, a2⟩ | ⟨a1, a2, a3⟩ | ⟨a1, a2, -⟩ | ⟨a1, a2, -⟩ | ⟨a1, a2 | ⟨a2, h, a3, a4, a5⟩⟩
  · rw [a2]
    exact ⟨fun z => absurd z (by decide), fun _ => ⟨fun _ => h0 (by omega), fun z => absurd rfl z⟩⟩
  · rw [a2, a3, hw]
    refine ⟨fun _ x hx => ?_, fun z => absurd rfl z⟩
    have wc : whF (tkC T n b) < 2 ^ 62 := by have := (wt_2 _ a1).2.2; omega
    by_cases q : tkC T n b = k
    · rw [if_pos ((lc_eq _ _).mpr (by rw [q]))] at hx; subst hx
      exact ⟨fun z => absurd z (by decide), fun _ => h1 q⟩
    · rw [if_neg (fun z => q (wt_6 _ a1 k hk ((lN_eq4 wc w2).mp ((lc_eq _ _).mp z))))] at hx; subst hx
      exact ⟨fun _ => h0 q, fun z => absurd rfl z⟩
  · rw [a2]
    exact ⟨fun z => absurd z (by decide), fun _ => ⟨fun _ => h0 (by omega), fun z => absurd rfl z⟩⟩
  · rw [a2]
    refine ⟨fun z => absurd z (by decide), fun _ => ⟨fun _ => h0 (fun z => ?_), fun z => absurd rfl z⟩⟩
    rw [z] at a1
    have t : ∀ k, k < 27 → sgn k = false := by decide +kernel
    rw [t k hk] at a1; exact absurd a1 (by decide)
  · rw [a2]
    exact ⟨fun z => absurd z (by decide), fun _ => ⟨fun _ => h0 (by omega), fun z => absurd rfl z⟩⟩
  · rw [a2, a3, hw]
    refine ⟨fun _ x hx => ?_, fun z => absurd rfl z⟩
    rw [if_neg (fun z => a5 k hk ((lN_eq4 (by omega) w2).mp ((lc_eq _ _).mp z)))] at hx; subst hx
    exact ⟨fun _ => h0 (by omega), fun z => absurd rfl z⟩
theorem m_is {T : Nat → Nat} {n b s : Nat} {A B : Mem → Prop} (hT : okT T n) (hd : rdM M T n) (hr : rtM M T n b) (hs : sgn s = true) (h0 : ¬ tkC T n b = s → A M) (h1 : tkC T n b = s → B M) : w_X12_isSign L (nI s) M (fun x M1 => (x = 0 → A M1) ∧ (¬ x = 0 → B M1)) := by
  have hn := hT.1
  have s128 : s < 128 := by unfold sgn at hs; simp at hs; omega
  have t : ∀ k, k < 128 → sgn k = true → ¬ (k < 27 ∨ k = 30 ∨ k = 31 ∨ k = 32) := by decide +kernel
  have ts := t s s128 hs
  unfold w_X12_isSign
  rcases hr.2.2 with ⟨a1, a2⟩ | ⟨a1, a2, a3⟩ | ⟨a1, a2, -⟩ | ⟨a1, a2, a3, a4⟩ | ⟨a1, a2 | ⟨a2, -⟩⟩
  · rw [a2]
    exact ⟨fun z => absurd z (by decide), fun _ => ⟨fun _ => h0 (by omega), fun z => absurd rfl z⟩⟩
  · rw [a2]
    exact ⟨fun z => absurd z (by decide), fun _ => ⟨fun _ => h0 (by omega), fun z => absurd rfl z⟩⟩
  · rw [a2]
    exact ⟨fun z => absurd z (by decide), fun _ => ⟨fun _ => h0 (by omega), fun z => absurd rfl z⟩⟩
  · have c128 := (tk_code (b := b) hT).1
    rw [a2, hr.1, tn_nI (by omega), hd.2 b a4, a3]
    refine ⟨fun _ => ⟨vp_in_nI (by omega) (by decide), fun x hx => ?_⟩, fun z => absurd rfl z⟩
    have e := nI_eq (a := tkC T n b) (b := s) (by omega) (by omega)
    by_cases q : tkC T n b = s
    · rw [if_pos (e.mpr q)] at hx; subst hx
      exact ⟨fun z => absurd z (by decide), fun _ => h1 q⟩
    · rw [if_neg (fun z => q (e.mp z))] at hx; subst hx
      exact ⟨fun _ => h0 q, fun z => absurd rfl z⟩
  · rw [a2]
    exact ⟨fun z => absurd z (by decide), fun _ => ⟨fun _ => h0 (by omega), fun z => absurd rfl z⟩⟩
  · rw [a2]
    exact ⟨fun z => absurd z (by decide), fun _ => ⟨fun _ => h0 (by omega), fun z => absurd rfl z⟩⟩
theorem m_fails {b k : Nat} {Q : Int32 → Mem → Prop} (h46 : mi M 92 46 = nI b) (h : ∀ M', M' = si M 92 50 (nI (k + 16 * b)) → Q 0 M') : w_X12_fails L (nI k) M Q := by
  unfold w_X12_fails
  intro M1 e1
  rw [h46, show (16 : Int32) = nI 16 from rfl, pk_mul, nI_add] at e1
  exact h M1 e1
end LXM
