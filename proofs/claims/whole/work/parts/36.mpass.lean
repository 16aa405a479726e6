-- LEVEL 3, part 20: the month's first day with what is in hand; a whole day of the reference
def hdM (s : Nat) (M : Mem) (h : Option Pc) : Prop := (mi M 101 s = 0 ∧ h = none) ∨ (mi M 101 s = 1 ∧ ∃ P, h = some P ∧ pacM M 24 P)
theorem m_begins {L : Lay} {T s t : Nat} {S : SS} {v iss : Int32} {p h0 : Option Pc} {M : Mem} {Q : Mem → Prop} (hs : s < 2) (hg : gdT T S) (ht : t < 720) (h93 : S 93 0 = nI t) (hv : mi M 103 s = v) (ho : vOK v) (hz : hzM s M)
    (hop : opM M (mi M 99 s) p) (hh : hdM s M h0) (vo : ∀ f i, f ≠ 109 → vwM s M f i = S f i) (hi : iss = -1 ∨ ∃ k, k ≤ 9999 ∧ iss = nI k) (zr : ∀ i, tn (S 28 0) ≤ i → i < 10 → mi M 109 (10 * s + i) = 0)
    (h : ∀ M', vwM s M' = bgS S v iss (bgP S v (hdF p h0)) → FJ (PB s t (tn (S 28 0))) M M' → (mi M' 99 s = -1 ∨ mi M' 99 s = mi M 99 s ∨ (mi M 101 s = 1 ∧ mi M' 99 s = nI (if s = 0 then t / 30 else 24))) → mi M' 101 s = 0 → opM M' (mi M' 99 s) (bgP S v (hdF p h0)) → (∀ i, tn (S 28 0) ≤ i → i < 10 → mi M' 109 (10 * s + i) = 0) → Q M') : w_X12_begins L (nI s) iss M Q := by
  unfold w_X12_begins
  rw [tn_nI (n := s) (by omega)]
  refine ⟨vp_in_nI hs (by decide), fun c M3 e3 M4 e4 => ?_, fun c => ?_⟩
  · rcases hh with ⟨q, -⟩ | ⟨-, P, q2, q3⟩
    · exact absurd c (by rw [q]; decide)
    subst q2
    have r : ∀ a k, ¬ ((a = 99 ∨ a = 101) ∧ k = s) → mi M4 a k = mi M a k := fun a k ha => by
      rw [e4, mi_si, if_neg (fun q => by omega), e3, mi_si, if_neg (fun q => by omega)]
    have r99 : mi M4 99 s = nI 24 := by rw [e4, mi_si, if_pos ⟨rfl, rfl⟩]; rfl
    have r101 : mi M4 101 s = 0 := by rw [e4, mi_si, if_neg (fun q => by omega), e3, mi_si, if_pos ⟨rfl, rfl⟩]
    have F4 : FJ (PB s t (tn (S 28 0))) M M4 := by
      rw [e4, e3]
      refine (FJ.rf.si ?_).si ?_ <;> (unfold PB; omega)
    have P4 : pacM M4 24 P := pacM_cg (fun a k q => r a k (by unfold slM at q; omega)) q3
    have v4 : ∀ f i, f ≠ 109 → vwM s M4 f i = S f i := fun f i hf => by rw [← vo f i hf]; exact vwM_n hf (fun a k _ _ _ c1 c2 _ _ _ _ => r a k (fun q => by omega))
    -- from the slot on
    have go : ∀ (M5 : Mem) (sl : Nat), sl ≤ 24 → sl = (if s = 0 then t / 30 else 24) → mi M5 99 s = nI sl → pacM M5 sl P → FJ (PB s t (tn (S 28 0))) M M5 → mi M5 101 s = 0 → (∀ a k, ¬ (a = 99 ∧ k = s) → ¬ (130 ≤ a ∧ a < 136) → mi M5 a k = mi M4 a k) → w_X12_begins_53 L (nI s) iss M5 Q := fun M5 sl hsl esl k99 hP hF k101 q => by
      refine m_53 (t := t) (M0 := M) (p := some P) hs hg (by rw [q 103 s (by omega) (by omega), r 103 s (by omega)]; exact hv) ho (fun d hd => by rw [q 119 _ (by omega) (by omega), r 119 _ (by omega)]; exact hz d hd)
        (Or.inr ⟨sl, P, k99, hsl, rfl, hP⟩) (fun f i hf => by rw [← v4 f i hf]; exact vwM_n hf (fun a k _ h2 _ c1 _ _ _ _ _ => q a k (fun z => c1 z.1) (fun z => by omega))) hF hi
        (fun i a b => by rw [q 109 _ (by omega) (by omega), r 109 _ (by omega)]; exact zr i a b)
        (fun M' a1 a2 a3 a4 a5 a6 => h M' a1 a2 ?_ (by rw [a4, k101]) a5 a6)
      rcases a3 with z | z
      · exact Or.inl z
      · exact Or.inr (Or.inr ⟨c, by rw [z, k99, esl]⟩)
    refine ⟨fun e0 => ?_, fun e0 => ?_⟩
    · have s0 : s = 0 := by
        rw [← nI_0, nI_eq' (by omega) (by omega)] at e0; exact e0
      subst s0
      intro x6 e6
      have hx6 : x6 = nI (t / 30) := by
        rw [e6, rM_93, v4 93 0 (by decide), h93, show (30 : Int32) = nI 30 from rfl, pk_div (by omega) (by omega) (by omega)]
      subst hx6
      refine m_copies (p := 24) (q := t / 30) (by omega) (by omega) (by omega) (fun M7 c7 F7 M8 e8 => ?_)
      have h99' : ∀ a k, ¬ (a = 99 ∧ k = 0) → mi M8 a k = mi M7 a k := fun a k q => by rw [e8, mi_si, if_neg q]
      refine go M8 (t / 30) (by omega) (by rw [if_pos rfl]) (by rw [e8, mi_si, if_pos ⟨rfl, rfl⟩]) (pacM_cg (fun a k q => h99' a k (by unfold slM at q; omega)) (pacM_cp (by omega) c7 P4)) ?_ ?_ (fun a k q1 q2 => ?_)
      · rw [e8]
        refine (F4.tr (F7.mono (fun a k q => ?_))).si ?_
        · unfold PB; exact Or.inr (Or.inr (Or.inr (Or.inr (Or.inr ⟨rfl, q⟩))))
        · unfold PB; omega
      · rw [h99' 101 0 (by omega), F7.1 101 0 (by unfold slM; omega)]; exact r101
      · rw [h99' a k q1, F7.1 a k (by unfold slM; omega)]
    · have s0 : ¬ s = 0 := fun q => e0 (by rw [q]; rfl)
      exact go M4 24 (by omega) (by rw [if_neg s0]) r99 P4 F4 r101 (fun a k _ _ => rfl)
  · rcases hh with ⟨c0, q⟩ | ⟨q, -⟩
    · subst q
      refine m_53 (t := t) (M0 := M) (p := p) hs hg hv ho hz hop vo FJ.rf hi zr (fun M' a1 a2 a3 a4 a5 a6 => h M' a1 a2 ?_ (by rw [a4]; exact c0) a5 a6)
      rcases a3 with z | z
      · exact Or.inl z
      · exact Or.inr (Or.inl z)
    · exact absurd q c
-- a world of the reference is what X says
def wsM (s : Nat) (M : Mem) (X : WS) : Prop := vwM s M = X.1 ∧ mi M 103 s = X.2.1.1 ∧ mi M 104 s = X.2.1.2 ∧ vOK X.2.1.1 ∧ vOK X.2.2.1.1 ∧ X.2.2.1 = (if mi M 102 s = 1 then (mi M 92 40, mi M 92 41) else X.2.1) ∧
  opM M (mi M 99 s) X.2.2.2.1 ∧ hdM s M X.2.2.2.2 ∧ hzM s M ∧ zmM s M ∧ ∀ i, tn (X.1 28 0) ≤ i → i < 10 → mi M 109 (10 * s + i) = 0
def PS (s t n a k : Nat) : Prop := PB s t n a k ∨ PE s t a k ∨ ((a = 102 ∨ a = 103 ∨ a = 104) ∧ k = s)
theorem m_pass {L : Lay} {s t : Nat} {p1 iss : Int32} {X : WS} {M : Mem} {Q : Mem → Prop} (hs : s < 2) (hX : wsM s M X) (hg : gdT t X.1) (ht : t < 720) (h93 : X.1 93 0 = nI t) (hal : ∀ i, ¬ X.1 109 i < 0) (hi : iss = -1 ∨ ∃ k, k ≤ 9999 ∧ iss = nI k)
    (h : ∀ M', wsM s M' (dayF (if p1 = 0 then mi M 127 (t + 1) else 3) iss X) → FJ (PS s t (tn (X.1 28 0))) M M' →
      (mi M' 99 s = -1 ∨ mi M' 99 s = mi M 99 s ∨ (mi M 101 s = 1 ∧ mi M' 99 s = nI (if s = 0 then t / 30 else 24))) → (∀ i, ¬ (dayF (if p1 = 0 then mi M 127 (t + 1) else 3) iss X).1 109 i < 0) →
      (s = 0 → (t + 1) % 30 = 0 → mi M' 128 ((t + 1) / 30 - 1) = mi M' 99 0) → (∀ j, (j ≠ (t + 1) / 30 - 1 ∨ (t + 1) % 30 ≠ 0) → mi M' 128 j = mi M 128 j) →
      (∀ j i, j < 24 → i < 10 → (j ≠ (t + 1) / 30 - 1 ∨ (t + 1) % 30 ≠ 0 ∨ tn (X.1 28 0) ≤ i) → mi M' 117 (240 * s + 10 * j + i) = mi M 117 (240 * s + 10 * j + i) ∧ mi M' 118 (240 * s + 10 * j + i) = mi M 118 (240 * s + 10 * j + i)) →
      ((t + 1) % 30 = 0 → ∀ i, i < tn (X.1 28 0) → mi M' 117 (240 * s + 10 * ((t + 1) / 30 - 1) + i) = vwM s M' 117 i ∧ mi M' 118 (240 * s + 10 * ((t + 1) / 30 - 1) + i) = if mi M' 99 s < 0 then -1 else vwM s M' 118 i) → Q M') : w_X12_day L (nI s) p1 iss M Q := by
  obtain ⟨S, ⟨v0, d0⟩, ⟨v, d⟩, p, hd⟩ := X
  obtain ⟨x1, x2, x3, x4, x5, x6, x7, x8, x9, x10, x11⟩ := hX
  have x1 : vwM s M = S := x1
  have x5 : vOK v := x5
  have hg : gdT t S := hg
  have h93 : S 93 0 = nI t := h93
  have hal : ∀ i, ¬ S 109 i < 0 := hal
  have em : (jrem (S 93 0) 30 = 0) = (t % 30 = 0) := by rw [h93]; exact jrem30 (by omega)
  unfold w_X12_day
  rw [tn_nI (n := s) (by omega), rM_93, x1, h93, nI_1]
  refine ⟨vp_in_nI hs (by decide), fun x hx => ?_⟩
  subst hx
  -- from the wind on
  have go : ∀ wd : Int32, wd = (if p1 = 0 then mi M 127 (t + 1) else 3) → w_X12_day_25 L (nI s) p1 iss (nI (t + 1)) wd M Q := fun wd hwd => by
    rw [← hwd] at h
    unfold w_X12_day_25
    rw [tn_nI (n := s) (by omega)]
    -- from the law on
    have go2 : ∀ M1 : Mem, FJ (fun a k => (a = 102 ∨ a = 103 ∨ a = 104) ∧ k = s) M M1 → ¬ mi M1 102 s = 1 → mi M1 103 s = v → mi M1 104 s = d → w_X12_day_64 L (nI s) p1 iss (nI (t + 1)) wd M1 Q := fun M1 F1 k102 k103 k104 => by
      have v1 : vwM s M1 = S := by rw [← x1]; exact vwM_cg fun a k _ _ _ _ _ _ _ _ _ _ _ _ _ _ => F1.1 a k (by omega)
      have o1 : opM M1 (mi M1 99 s) p := by rw [F1.1 99 s (by omega)]; exact opM_cg (fun a k _ _ => F1.1 a k (by omega)) x7
      have z1 : zmM s M1 := fun j i a b c => by rw [F1.1 117 _ (by omega), F1.1 118 _ (by omega)]; exact x10 j i a (by rw [← F1.1 92 28 (by omega)]; exact b) c
      have q1 : hzM s M1 := fun e he => by rw [F1.1 119 _ (by omega)]; exact x9 e he
      have h1 : hdM s M1 hd := by
        rcases x8 with ⟨a, b⟩ | ⟨a, P, b, c⟩
        · exact Or.inl ⟨by rw [F1.1 101 s (by omega)]; exact a, b⟩
        · exact Or.inr ⟨by rw [F1.1 101 s (by omega)]; exact a, P, b, pacM_cg (fun a k z => F1.1 a k (by unfold slM at z; omega)) c⟩
      -- the day's own part
      have day : ∀ (S2 : SS) (p2 hd2 : Option Pc) (M2 : Mem), vwM s M2 = S2 → gdT t S2 → S2 93 0 = nI t → tn (S2 28 0) = tn (S 28 0) → (∀ i, ¬ S2 109 i < 0) → FJ (PB s t (tn (S 28 0))) M1 M2 →
          (mi M2 99 s = -1 ∨ mi M2 99 s = mi M 99 s ∨ (mi M 101 s = 1 ∧ mi M2 99 s = nI (if s = 0 then t / 30 else 24))) → opM M2 (mi M2 99 s) p2 → hdM s M2 hd2 → (∀ i, tn (S 28 0) ≤ i → i < 10 → mi M2 109 (10 * s + i) = 0) →
          (dyF S2 p2.isSome wd d, (v, d), (v, d), p2, hd2) = dayF wd iss (S, (v0, d0), (v, d), p, hd) → w_X12_day_80 L (nI s) p1 iss (nI (t + 1)) wd M2 Q := by
        intro S2 p2 hd2 M2 v2 g2 t2 n2 al2 F2 c99 o2 hh2 zr2 hres
        subst v2
        have k : ∀ a k, 93 ≤ a → a < 127 → a ≠ 99 → a ≠ 100 → a ≠ 101 → a ≠ 108 → a ≠ 109 → mi M2 a k = mi M1 a k := fun a k _ _ _ _ _ _ _ => F2.1 a k (by unfold PB slM; omega)
        have k28 : mi M2 92 28 = mi M1 92 28 := F2.1 92 28 (by unfold PB slM; omega)
        have hh : p2.isSome = !decide (mi M2 99 s < 0) := by
          rcases o2 with ⟨a, b⟩ | ⟨q, P, a, b, c, -⟩
          · rw [a, b]; rfl
          · rw [a, c, show decide (nI q < 0) = false from decide_eq_false (nI_pos (by omega))]; rfl
        have k104' : mi M2 104 s = d := (k 104 s (by omega) (by omega) (by omega) (by omega) (by omega) (by omega) (by omega)).trans k104
        have zm2 : zmM s M2 := fun j i a b c => by
          rw [k 117 _ (by omega) (by omega) (by omega) (by omega) (by omega) (by omega) (by omega), k 118 _ (by omega) (by omega) (by omega) (by omega) (by omega) (by omega) (by omega)]
          exact z1 j i a (by rw [← k28]; exact b) c
        refine m_day hs g2 ht t2 zm2 (fun i _ => al2 i) p2.isSome hh (fun M3 v3 F3 b3 z3 u1 u2' u3 u4 => ?_)
        rw [k104'] at v3
        have e3 : ∀ a k, ¬ PE s t a k → mi M3 a k = mi M2 a k := F3.1
        have e99 : mi M3 99 s = mi M2 99 s := e3 99 s (by unfold PE PD; omega)
        have d109 : ∀ i, vwM s M3 109 i = vwM s M2 109 i := fun i => by
          rw [v3]; unfold dyF
          rw [enF_at (t := t) ?_ (by omega), if_neg (fun q => by omega), if_neg (fun q => by omega), if_neg (fun q => by omega)]
          · exact dy_109
          · unfold usF; rw [u2_f (by decide), u2_f (by decide), u2_f (by decide), saG_f (by decide) (by decide) (by decide) (by decide) (by decide) (by decide) (by decide), ldG_f (by decide) (by decide) (by decide) (by decide) (by decide)]
            show (if 93 = 107 ∧ 0 < _ then _ else vwM s M2 93 0) = _
            rw [if_neg (fun q => by omega)]; exact t2
        have d28 : vwM s M3 28 0 = vwM s M2 28 0 := by rw [v3]; exact dy_f (Or.inl rfl)
        refine h M3 ?_ (((F1.mono (fun a k q => Or.inr (Or.inr q))).tr (F2.mono (fun a k q => Or.inl q))).tr (F3.mono (fun a k q => Or.inr (Or.inl q)))) (by rw [e99]; exact c99) (fun i => ?_) (fun a b => ?_) (fun j hj => ?_) (fun j i a b c => ?_) (fun a i b => ?_)
        · rw [← hres]
          refine ⟨v3, ?_, ?_, x5, x5, ?_, ?_, ?_, ?_, z3, ?_⟩
          · rw [e3 103 s (by unfold PE PD; omega), k 103 s (by omega) (by omega) (by omega) (by omega) (by omega) (by omega) (by omega)]; exact k103
          · rw [e3 104 s (by unfold PE PD; omega)]; exact k104'
          · rw [if_neg]
            rw [e3 102 s (by unfold PE PD; omega), k 102 s (by omega) (by omega) (by omega) (by omega) (by omega) (by omega) (by omega)]; exact k102
          · rw [e99]; exact opM_cg (fun a k _ _ => e3 a k (by unfold PE PD; omega)) o2
          · rcases hh2 with ⟨a, b⟩ | ⟨a, P, b, c⟩
            · exact Or.inl ⟨by rw [e3 101 s (by unfold PE PD; omega)]; exact a, b⟩
            · exact Or.inr ⟨by rw [e3 101 s (by unfold PE PD; omega)]; exact a, P, b, pacM_cg (fun a k z => e3 a k (by unfold slM at z; unfold PE PD; omega)) c⟩
          · intro e he
            by_cases q : e = t + 1
            · rw [q]; exact b3
            · rw [e3 119 _ (by unfold PE PD; omega), k 119 _ (by omega) (by omega) (by omega) (by omega) (by omega) (by omega) (by omega)]; exact q1 e he
          · intro i a b
            have a : tn (dyF (vwM s M2) p2.isSome wd d 28 0) ≤ i := a
            rw [dy_f (Or.inl rfl), n2] at a
            rw [e3 109 _ (by unfold PE PD; omega)]; exact zr2 i a b
        · rw [← hres]
          show ¬ dyF (vwM s M2) p2.isSome wd d 109 i < 0
          rw [← v3, d109]; exact al2 i
        · subst a; rw [u1 rfl b]; exact e99.symm
        · rw [u2' j hj, F2.1 128 j (by unfold PB slM; omega), F1.1 128 j (by omega)]
        · have := u3 j i a b (by rw [n2]; exact c)
          rw [this.1, this.2, k 117 _ (by omega) (by omega) (by omega) (by omega) (by omega) (by omega) (by omega), k 118 _ (by omega) (by omega) (by omega) (by omega) (by omega) (by omega) (by omega), F1.1 117 _ (by omega), F1.1 118 _ (by omega)]
          exact ⟨rfl, rfl⟩
        · have b2 : i < tn (vwM s M2 28 0) := by rw [n2]; exact b
          have w := u4 a i b2
          refine ⟨w.1, ?_⟩
          rw [w.2, e99]
          by_cases q : mi M2 99 s < 0
          · rw [if_pos q, if_pos q]
          · rw [if_neg q, if_neg q, v3]; unfold dyF
            have us : usF (saG (vwM s M2 93 0 + 1) wd d (ldG p2.isSome (tn (vwM s M2 94 0)) (digF (vwM s M2))) (tn (vwM s M2 34 0))) wd 28 0 = vwM s M2 28 0 := by
              unfold usF; rw [u2_f (by decide), u2_f (by decide), u2_f (by decide), saG_f (by decide) (by decide) (by decide) (by decide) (by decide) (by decide) (by decide), ldG_f (by decide) (by decide) (by decide) (by decide) (by decide)]
              show (if 28 = 107 ∧ 0 < _ then _ else vwM s M2 28 0) = _
              rw [if_neg (fun q => by omega)]
            rw [enF_at (t := t) ?_ (by omega), if_neg (fun q => by omega), if_neg (fun q => by omega), if_pos ⟨a, rfl, by rw [us]; exact b2⟩]
            · exact dy_109.symm
            · unfold usF; rw [u2_f (by decide), u2_f (by decide), u2_f (by decide), saG_f (by decide) (by decide) (by decide) (by decide) (by decide) (by decide) (by decide), ldG_f (by decide) (by decide) (by decide) (by decide) (by decide)]
              show (if 93 = 107 ∧ 0 < _ then _ else vwM s M2 93 0) = _
              rw [if_neg (fun q => by omega)]; exact t2
      unfold w_X12_day_64
      rw [show nI (t + 1) - (1 : Int32) = nI t from by rw [show (1 : Int32) = nI 1 from rfl, pk_sub (by omega)]; rfl, jrem30 (by omega)]
      refine ⟨fun hm => ?_, fun hm => ?_⟩
      · refine m_begins (t := t) hs hg ht h93 k103 x5 q1 o1 h1 (fun f i _ => by rw [v1]) hi (fun i a b => by rw [F1.1 109 _ (by omega)]; exact x11 i a b) (fun M2 a1 a2 a3 a4 a5 a6 => ?_)
        have ew : ∀ f i, f ≠ 109 → f ≠ 108 → f ≠ 100 → bgS S v iss (bgP S v (hdF p hd)) f i = S f i := fun f i c1 c2 c3 => bgS_f c1 c2 c3
        refine day _ (bgP S v (hdF p hd)) none M2 a1 (gd_X ew hg) ((ew 93 0 (by decide) (by decide) (by decide)).trans h93) (by rw [ew 28 0 (by decide) (by decide) (by decide)]) (bgS_109 hg hi) a2 (by rw [F1.1 99 s (by omega), F1.1 101 s (by omega)] at a3; exact a3) a5 (Or.inl ⟨a4, rfl⟩) a6 ?_
        show _ = (if jrem (S 93 0) 30 = 0 then _ else _)
        rw [if_pos (em.mpr hm)]
      · refine day S p hd M1 v1 hg h93 rfl hal FJ.rf (Or.inr (Or.inl (F1.1 99 s (by omega)))) o1 h1 (fun i a b => by rw [F1.1 109 _ (by omega)]; exact x11 i a b) ?_
        show _ = (if jrem (S 93 0) 30 = 0 then _ else _)
        rw [if_neg (fun q => hm (em.mp q))]
    have x6 : (v, d) = (if mi M 102 s = 1 then (mi M 92 40, mi M 92 41) else (v0, d0)) := x6
    refine ⟨vp_in_nI hs (by decide), fun c M7 e7 M8 e8 M9 e9 => ?_, fun c => ?_⟩
    · rw [if_pos c] at x6
      have f1 : v = mi M 92 40 := congrArg Prod.fst x6
      have f2 : d = mi M 92 41 := congrArg Prod.snd x6
      refine go2 M9 ?_ ?_ ?_ ?_
      · rw [e9, e8, e7]
        exact ((FJ.rf.si ⟨Or.inl rfl, rfl⟩).si ⟨Or.inr (Or.inl rfl), rfl⟩).si ⟨Or.inr (Or.inr rfl), rfl⟩
      · rw [e9, mi_si, if_neg (fun q => by omega), e8, mi_si, if_neg (fun q => by omega), e7, mi_si, if_pos ⟨rfl, rfl⟩]; decide
      · rw [e9, mi_si, if_neg (fun q => by omega), e8, mi_si, if_pos ⟨rfl, rfl⟩, e7, mi_si, if_neg (fun q => by omega)]; exact f1.symm
      · rw [e9, mi_si, if_pos ⟨rfl, rfl⟩, e8, mi_si, if_neg (fun q => by omega), e7, mi_si, if_neg (fun q => by omega)]; exact f2.symm
    · rw [if_neg c] at x6
      have f1 : v = v0 := congrArg Prod.fst x6
      have f2 : d = d0 := congrArg Prod.snd x6
      exact go2 M FJ.rf c (by rw [f1]; exact x2) (by rw [f2]; exact x3)
  refine ⟨fun c => ⟨vp_in_nI (by omega) (by decide), ?_⟩, fun c => go 3 (by rw [if_neg c])⟩
  rw [tn_nI (n := t + 1) (by omega)]
  exact go _ (by rw [if_pos c])
