-- LEVEL 3, part 22: behind the last owner and the last ship a day writes nothing
def tlS (n k f i : Nat) : Prop := ((f = 107 ∨ f = 108 ∨ f = 109 ∨ f = 110 ∨ f = 111 ∨ f = 117 ∨ f = 118 ∨ (120 ≤ f ∧ f < 125)) ∧ n ≤ i) ∨ (((112 ≤ f ∧ f < 116) ∨ f = 125 ∨ f = 126) ∧ k ≤ i) ∨ (f = 116 ∧ 12 * k ≤ i)
def FZ (n k : Nat) (S S' : SS) : Prop := ∀ f i, tlS n k f i → S' f i = S f i
theorem FZ.rf {n k : Nat} {S : SS} : FZ n k S S := fun _ _ _ => rfl
theorem FZ.tr {n k : Nat} {S S' S'' : SS} (h1 : FZ n k S S') (h2 : FZ n k S' S'') : FZ n k S S'' := fun f i h => (h2 f i h).trans (h1 f i h)
theorem FZ.u {n k g j : Nat} {S S' : SS} {x : Int32} (h : FZ n k S S') (c : ¬ tlS n k g j) : FZ n k S (u2 S' g j x) := fun f i q => by
  rw [u2_def, if_neg (fun z => c (by rw [← z.1, ← z.2]; exact q))]; exact h f i q
theorem FZ_slG {n k b : Nat} {S : SS} {duty : Int32} : ∀ m, (∀ j, j < m → tn (S 116 (12 * b + j)) < n) → FZ n k S (slG S b duty m) := by
  intro m
  induction m with
  | zero => intro _; exact FZ.rf
  | succ m ih =>
    intro h
    unfold slG
    exact (ih (fun j hj => h j (by omega))).u (by have := h m (by omega); unfold tlS; omega)
theorem FZ_slF {n k b : Nat} {S : SS} {duty : Int32} (hb : b < k) (h : ∀ j, j < tn (S 113 b) → tn (S 116 (12 * b + j)) < n) : FZ n k S (slF S b duty) := by
  unfold slF
  exact (((FZ_slG _ h).u (by unfold tlS; omega)).u (by unfold tlS; omega)).u (by unfold tlS; omega)
theorem FZ_saF {n k b : Nat} {S : SS} {d w duty : Int32} (hb : b < k) (h : ∀ j, j < tn (S 113 b) → tn (S 116 (12 * b + j)) < n) : FZ n k S (saF S d w duty b) := by
  unfold saF
  split
  · exact (FZ.rf.u (by unfold tlS; omega)).u (by unfold tlS; omega)
  · split
    · split
      · exact FZ.rf.u (by unfold tlS; omega)
      · split
        · have F3 : FZ n k S (u2 (u2 (u2 S 114 b (S 114 b - 1)) 112 b 2) 115 b d) := ((FZ.rf.u (by unfold tlS; omega)).u (by unfold tlS; omega)).u (by unfold tlS; omega)
          refine F3.tr (FZ_slF hb (fun j hj => ?_))
          rw [u2_f (by decide), u2_f (by decide), u2_f (by decide)] at hj ⊢
          exact h j hj
        · exact ((FZ.rf.u (by unfold tlS; omega)).u (by unfold tlS; omega)).u (by unfold tlS; omega)
    · exact FZ.rf
theorem FZ_saG {T t n k : Nat} {S : SS} {d w duty : Int32} (hg : gdT T S) (hd : d = nI (t + 1)) (ht : t ≤ 720) (h1 : T ≤ t + 1) (hn : tn (S 28 0) = n) : ∀ m, m ≤ k → m ≤ 8 → FZ n k S (saG d w duty S m) := by
  intro m
  induction m with
  | zero => intro _ _; exact FZ.rf
  | succ m ih =>
    intro hm h8
    unfold saG
    refine (ih (by omega) (by omega)).tr (FZ_saF (by omega) (fun j hj => ?_))
    have g := gd_saG (w := w) (duty := duty) hg hd ht h1 (Nat.le_refl _) m (by omega)
    have := (g.2.2.2.2.2.2.2.2.2.2.1 m (by omega)).2.2.2.2.2.2 j hj
    rw [saG_f (f := 28) (by decide) (by decide) (by decide) (by decide) (by decide) (by decide) (by decide)] at this
    rw [← hn]; exact this.2
theorem FZ_ldG {T n k : Nat} {held : Bool} : ∀ m (S : SS), gdT T S → tn (S 28 0) = n → tn (S 34 0) = k → FZ n k S (ldG held m S) := by
  intro m
  induction m with
  | zero => intro S _ _ _; exact FZ.rf
  | succ m ih =>
    intro S hg e28 e34
    unfold ldG
    split
    · exact FZ.rf
    · rename_i hn
      have hg' := hg
      obtain ⟨-, n1, -, n2, -⟩ := hg'
      rcases pk_spec (S := S) (held := held) (tn (S 34 0)) (by omega) with ⟨q1, q2⟩ | ⟨b, hb, q1, q2, q3⟩
      · rw [q1] at hn; exact absurd (by decide) hn
      · rw [q1]
        rcases of_rng0 hg (held := held) (ls := S 126 b) with e | ⟨o, ho, e, hok⟩
        · have := q2.2.2; rw [e] at this; exact absurd (by decide) this
        · show FZ n k S (ldG held m (ldU S (nI b) (ofF S held (S 126 b))))
          rw [e]
          have sb := hg.2.2.2.2.2.2.2.2.2.2.1 b (by omega)
          have hr := q2.2.1
          have hc : 8 * tn (S 113 b) + 8 ≤ 96 := by
            unfold roF at hr
            have h2 : ¬ S 125 b < 8 * S 113 b + 8 := by simpa using hr
            rw [sb.1, sb.2.1, lit8n, pk_mul, nI_add, nI_lt' (by have := sb.2.2.2.1; omega) (by have := sb.2.2.1; have := sb.2.2.2.1; omega)] at h2
            have := sb.2.2.2.1
            omega
          have F : FZ n k S (ldU S (nI b) (nI o)) := by
            unfold ldU
            rw [tn_nI (n := b) (by omega), tn_nI (n := o) (by omega)]
            refine ((((FZ.rf.u ?_).u ?_).u ?_).u ?_).u ?_ <;> (unfold tlS; omega)
          exact F.tr (ih _ (gd_ldU hg (by omega) hr ho) (by rw [ldU_f (by decide) (by decide) (by decide) (by decide) (by decide)]; exact e28) (by rw [ldU_f (by decide) (by decide) (by decide) (by decide) (by decide)]; exact e34))
theorem FZ_dy {t n k : Nat} {S : SS} {held : Bool} {w duty : Int32} (hg : gdT t S) (h93 : S 93 0 = nI t) (ht : t < 720) (e28 : tn (S 28 0) = n) (e34 : tn (S 34 0) = k) : FZ n k S (dyF S held w duty) := by
  have F1 : FZ n k S (digF S) := fun f i q => by
    unfold digF
    exact if_neg (fun z => by unfold tlS at q; omega)
  have d : ∀ f i, f ≠ 107 → digF S f i = S f i := fun f i c => if_neg (fun q => c q.1)
  have g1 := gd_dig hg
  have F2 := FZ_ldG (n := n) (k := k) (held := held) (tn (S 94 0)) (digF S) g1 (by rw [d 28 0 (by decide)]; exact e28) (by rw [d 34 0 (by decide)]; exact e34)
  have g2 := gd_ldG (held := held) (tn (S 94 0)) _ g1
  have F3 := FZ_saG (t := t) (n := n) (k := k) (d := S 93 0 + 1) (w := w) (duty := duty) g2 (by rw [h93, nI_1]) (by omega) (by omega) (by rw [ldG_f (by decide) (by decide) (by decide) (by decide) (by decide), d 28 0 (by decide)]; exact e28) (tn (S 34 0)) (by omega) hg.2.2.2.1
  refine ((F1.tr F2).tr F3).tr ?_
  unfold dyF
  have u28 := us_p (S := S) (held := held) (w := w) (duty := duty) (f := 28) (i := 0) (Or.inl rfl)
  have u93 := us_p (S := S) (held := held) (w := w) (duty := duty) (f := 93) (i := 0) (by omega)
  generalize hU : saG (S 93 0 + 1) w duty (ldG held (tn (S 94 0)) (digF S)) (tn (S 34 0)) = U at *
  intro f i q
  rw [enF_at (t := t) (u93.trans h93) (by omega), u28, e28, if_neg (fun z => by unfold tlS at q; omega), if_neg (fun z => by unfold tlS at q; omega), if_neg (fun z => by unfold tlS at q; omega)]
  unfold usF
  rw [u2_def, if_neg (fun z => by unfold tlS at q; omega), u2_def, if_neg (fun z => by unfold tlS at q; omega), u2_def, if_neg (fun z => by unfold tlS at q; omega)]
def zrX (S : SS) : Prop := ∀ f i, tlS (tn (S 28 0)) (tn (S 34 0)) f i → S f i = 0
theorem zr_day {t : Nat} {wd iss : Int32} {X : WS} (h : okX t X) (hz : zrX X.1) (ht : t < 720) : zrX (dayF wd iss X).1 ∧ (dayF wd iss X).1 28 0 = X.1 28 0 ∧ (dayF wd iss X).1 34 0 = X.1 34 0 := by
  obtain ⟨S, v0, v, p, hd⟩ := X
  obtain ⟨h1, h2, h3⟩ := h
  have h1 : gdT t S := h1
  have h2 : S 93 0 = nI t := h2
  have hz : zrX S := hz
  have run : ∀ (S2 : SS) (held : Bool), gdT t S2 → S2 93 0 = nI t → S2 28 0 = S 28 0 → S2 34 0 = S 34 0 → zrX S2 → zrX (dyF S2 held wd v.2) ∧ dyF S2 held wd v.2 28 0 = S 28 0 ∧ dyF S2 held wd v.2 34 0 = S 34 0 := fun S2 held g e a b z => by
    have e1 : dyF S2 held wd v.2 28 0 = S2 28 0 := dy_f (Or.inl rfl)
    have e2 : dyF S2 held wd v.2 34 0 = S2 34 0 := dy_f (Or.inr rfl)
    refine ⟨fun f i q => ?_, e1.trans a, e2.trans b⟩
    rw [e1, e2] at q
    rw [FZ_dy g e ht rfl rfl f i q]
    exact z f i q
  unfold dayF
  by_cases q : jrem (S 93 0) 30 = 0
  · have ew : ∀ f i, f ≠ 109 → f ≠ 108 → f ≠ 100 → bgS S v.1 iss (bgP S v.1 (hdF p hd)) f i = S f i := fun f i c1 c2 c3 => bgS_f c1 c2 c3
    have w28 := ew 28 0 (by decide) (by decide) (by decide)
    have w34 := ew 34 0 (by decide) (by decide) (by decide)
    have r := run _ (bgP S v.1 (hdF p hd)).isSome (gd_X ew h1) ((ew 93 0 (by decide) (by decide) (by decide)).trans h2) w28 w34 (fun f i c => by
      rw [w28, w34] at c
      have c0 := hz f i c
      cases bgP S v.1 (hdF p hd) with
      | none =>
        show (if f = 109 then 0 else if f = 108 ∧ i < tn (S 28 0) then 0 else S f i) = 0
        split
        · rfl
        · split
          · rfl
          · exact c0
      | some P =>
        show (if f = 109 then (if i < tn (S 28 0) then alF S P v.1 (isF S P v.1 iss) i else 0) else if f = 108 ∧ i < tn (S 28 0) then 0 else if f = 100 ∧ i = 0 then isF S P v.1 iss else S f i) = 0
        by_cases a1 : f = 109
        · rw [if_pos a1, if_neg (fun z => by unfold tlS at c; omega)]
        · rw [if_neg a1, if_neg (c := f = 108 ∧ _) (fun z => by unfold tlS at c; omega), if_neg (c := f = 100 ∧ _) (fun z => by unfold tlS at c; omega)]; exact c0)
    simp only [if_pos q]
    exact r
  · have r := run S p.isSome h1 h2 rfl rfl hz
    simp only [if_neg q]
    exact r
