-- LEVEL 3, part 37: days
theorem lf_saF {S : SS} {d w duty : Int32} {k : Nat} (h : lfX S) (hk : k < 8) : lfX (saF S d w duty k) := by
  intro j hj
  have hj0 := h j hj
  have hk0 := h k hk
  unfold saF
  split
  · rename_i c
    by_cases e : j = k
    · subst e
      unfold lfK
      rw [u2_f (g := 112) (by decide), u2_s, u2_s]
      refine Or.inr ⟨?_, Or.inr (Or.inr rfl)⟩
      rcases c with c | c
      · rw [c.1]; exact Or.inl (by decide)
      · rw [c.1]; exact Or.inr (by decide)
    · unfold lfK
      rw [u2_i e, u2_i e, u2_i e, u2_i e]; exact hj0
  · split
    · rename_i c1 c
      have u : (S 112 k = 1 ∨ S 112 k = 3) ∧ (S 114 k = 1 ∨ S 114 k = 2 ∨ S 114 k = 3) := by
        rcases hk0 with q | q
        · exfalso
          rcases c with c | c
          · rcases q.1 with r | r
            · rw [r] at c; exact absurd c.1 (by decide)
            · rw [r] at c; exact absurd c.1 (by decide)
          · rcases q.1 with r | r
            · rw [r] at c; exact absurd c.1 (by decide)
            · rw [r] at c; exact absurd c.1 (by decide)
        · exact q
      split
      · rename_i c3
        by_cases e : j = k
        · subst e
          unfold lfK
          rw [u2_f (g := 112) (by decide), u2_s]
          refine Or.inr ⟨u.1, ?_⟩
          rcases u.2 with r | r | r
          · rw [r] at c3; exact absurd c3 (by decide)
          · rw [r]; exact Or.inl (by decide)
          · rw [r]; exact Or.inr (Or.inl (by decide))
        · unfold lfK
          rw [u2_i e, u2_i e]; exact hj0
      · rename_i c3
        have r0 : S 114 k - 1 = 0 := by
          rcases u.2 with r | r | r
          · rw [r]; decide
          · rw [r] at c3; exact absurd (by decide) c3
          · rw [r] at c3; exact absurd (by decide) c3
        split
        · by_cases e : j = k
          · subst e
            unfold lfK slF
            rw [u2_f (g := 112) (by decide), u2_f (g := 112) (by decide), u2_f (g := 112) (by decide), slG_f (f := 112) (by decide), u2_f (g := 112) (by decide), u2_s,
              u2_f (g := 114) (by decide), u2_f (g := 114) (by decide), u2_f (g := 114) (by decide), slG_f (f := 114) (by decide), u2_f (g := 114) (by decide), u2_f (g := 114) (by decide), u2_s]
            exact Or.inl ⟨Or.inr rfl, r0⟩
          · unfold lfK slF
            rw [u2_f (g := 112) (by decide), u2_f (g := 112) (by decide), u2_f (g := 112) (by decide), slG_f (f := 112) (by decide), u2_f (g := 112) (by decide), u2_i e, u2_i e,
              u2_f (g := 114) (by decide), u2_f (g := 114) (by decide), u2_f (g := 114) (by decide), slG_f (f := 114) (by decide), u2_f (g := 114) (by decide), u2_f (g := 114) (by decide), u2_i e]
            exact hj0
        · by_cases e : j = k
          · subst e
            unfold lfK
            rw [u2_f (g := 112) (by decide), u2_s, u2_f (g := 114) (by decide), u2_f (g := 114) (by decide), u2_s]
            exact Or.inl ⟨Or.inl rfl, r0⟩
          · unfold lfK
            rw [u2_i e, u2_i e, u2_i e, u2_i e, u2_i e, u2_i e]; exact hj0
    · exact hj0
theorem lf_cg {S S' : SS} (h : lfX S) (h1 : ∀ k, S' 112 k = S 112 k) (h2 : ∀ k, S' 114 k = S 114 k) : lfX S' := fun k hk => by
  unfold lfK; rw [h1, h2]; exact h k hk
theorem lf_saG {S : SS} {d w duty : Int32} (h : lfX S) : ∀ n, n ≤ 8 → lfX (saG d w duty S n) := by
  intro n
  induction n with
  | zero => intro _; exact h
  | succ n ih => intro hn; exact lf_saF (ih (by omega)) (by omega)
theorem lf_dy {S : SS} {held : Bool} {w duty : Int32} (h : lfX S) (hn : tn (S 34 0) ≤ 8) : lfX (dyF S held w duty) := by
  have h1 : lfX (ldG held (tn (S 94 0)) (digF S)) := by
    refine lf_cg h (fun k => ?_) (fun k => ?_) <;> rw [ldG_f (by decide) (by decide) (by decide) (by decide) (by decide)] <;> exact if_neg (fun q => absurd q.1 (by decide))
  have h2 := lf_saG (d := S 93 0 + 1) (w := w) (duty := duty) h1 (tn (S 34 0)) hn
  unfold dyF
  refine lf_cg h2 (fun k => ?_) (fun k => ?_) <;> rw [enF_f (by decide) (by decide) (by decide)] <;> (unfold usF; rw [u2_f (by decide), u2_f (by decide), u2_f (by decide)])
theorem lf_day {t : Nat} {wd iss : Int32} {X : WS} (h : okX t X) (hl : lfX X.1) : lfX (dayF wd iss X).1 := by
  obtain ⟨S, v0, v, p, hd⟩ := X
  obtain ⟨⟨-, -, -, h4, -⟩, -, -⟩ := h
  have h4 : tn (S 34 0) ≤ 8 := h4
  have hl : lfX S := hl
  unfold dayF
  by_cases q : jrem (S 93 0) 30 = 0
  · simp only [if_pos q]
    refine lf_dy (lf_cg hl (fun k => bgS_f (by decide) (by decide) (by decide)) (fun k => bgS_f (by decide) (by decide) (by decide))) ?_
    rw [bgS_f (by decide) (by decide) (by decide)]; exact h4
  · simp only [if_neg q]
    exact lf_dy hl h4
-- what a month's last day leaves
theorem dy_117 {S : SS} {t i : Nat} {held : Bool} {w duty : Int32} (h : S 93 0 = nI t) (ht : t < 720) (h30 : (t + 1) % 30 = 0) (hi : i < tn (S 28 0)) : dyF S held w duty 117 i = dyF S held w duty 108 i ∧ dyF S held w duty 118 i = dyF S held w duty 109 i := by
  unfold dyF
  have e := enF_at (S := usF (saG (S 93 0 + 1) w duty (ldG held (tn (S 94 0)) (digF S)) (tn (S 34 0))) w) (t := t) ((us_p (by omega)).trans h) (by omega)
  rw [e, e, e, e, if_neg (fun q => by omega), if_pos ⟨h30, rfl, by rw [us_p (by omega)]; exact hi⟩, if_neg (fun q => by omega), if_neg (fun q => by omega), if_neg (fun q => by omega), if_neg (fun q => by omega), if_neg (fun q => by omega),
    if_pos ⟨h30, rfl, by rw [us_p (by omega)]; exact hi⟩, if_neg (fun q => by omega), if_neg (fun q => by omega), if_neg (fun q => by omega)]
  exact ⟨rfl, rfl⟩
theorem day_117 {t i : Nat} {wd iss : Int32} {X : WS} (h : okX t X) (ht : t < 720) (h30 : (t + 1) % 30 = 0) (hi : i < tn (X.1 28 0)) : (dayF wd iss X).1 117 i = (dayF wd iss X).1 108 i ∧ (dayF wd iss X).1 118 i = (dayF wd iss X).1 109 i := by
  obtain ⟨S, v0, v, p, hd⟩ := X
  obtain ⟨-, h2, -⟩ := h
  have h2 : S 93 0 = nI t := h2
  have hi : i < tn (S 28 0) := hi
  unfold dayF
  by_cases q : jrem (S 93 0) 30 = 0
  · simp only [if_pos q]
    refine dy_117 (t := t) ?_ ht h30 ?_
    · rw [bgS_f (by decide) (by decide) (by decide)]; exact h2
    · rw [bgS_f (by decide) (by decide) (by decide)]; exact hi
  · simp only [if_neg q]
    exact dy_117 h2 ht h30 hi
-- the months as they are kept
def kvF (wd : Nat → Int32) (t : Nat) (X : WS) (f : Nat) (b : Nat → Int32) : Nat → Nat → Int32
  | 0, k => b k
  | i + 1, k => if (t + i + 1) % 30 = 0 ∧ 10 * ((t + i + 1) / 30 - 1) ≤ k ∧ k < 10 * ((t + i + 1) / 30 - 1) + tn (X.1 28 0) then (trI wd (-1) t X (i + 1)).1 f (k - 10 * ((t + i + 1) / 30 - 1)) else kvF wd t X f b i k
def pmF (wd : Nat → Int32) (t : Nat) (X : WS) (b : Nat → Option Pc) : Nat → Nat → Option Pc
  | 0, m => b m
  | i + 1, m => if (t + i + 1) % 30 = 0 ∧ m = (t + i + 1) / 30 - 1 then (trI wd (-1) t X (i + 1)).2.2.2.1 else pmF wd t X b i m
def mmR (M : Mem) (t : Nat) (pm : Nat → Option Pc) (m : Nat) : Prop := (mi M 128 m = -1 ∧ pm m = none) ∨ ∃ q P, mi M 128 m = nI q ∧ q ≤ m ∧ m < t / 30 ∧ pm m = some P ∧ pacM M q P
theorem tr_28 {wd : Nat → Int32} {iss : Int32} {t : Nat} {X : WS} (ho : okX t X) (hz : zrX X.1) (hi : iss = -1 ∨ ∃ k, k ≤ 9999 ∧ iss = nI k) : ∀ n, t + n ≤ 720 → zrX (trI wd iss t X n).1 ∧ (trI wd iss t X n).1 28 0 = X.1 28 0 ∧ (trI wd iss t X n).1 34 0 = X.1 34 0 := by
  intro n
  induction n with
  | zero => intro _; exact ⟨hz, rfl, rfl⟩
  | succ n ih =>
    intro hn
    obtain ⟨a, b, c⟩ := ih (by omega)
    unfold trI
    rw [if_pos (by omega)]
    have r := zr_day (t := t + n) (wd := wd (t + n + 1)) (iss := iss) (ok_tr ho hi n (by omega)) a (by omega)
    exact ⟨r.1, r.2.1.trans b, r.2.2.trans c⟩
theorem lf_tr {wd : Nat → Int32} {iss : Int32} {t : Nat} {X : WS} (ho : okX t X) (hl : lfX X.1) (hi : iss = -1 ∨ ∃ k, k ≤ 9999 ∧ iss = nI k) : ∀ n, t + n ≤ 720 → lfX (trI wd iss t X n).1 := by
  intro n
  induction n with
  | zero => intro _; exact hl
  | succ n ih =>
    intro hn
    unfold trI
    rw [if_pos (by omega)]
    exact lf_day (t := t + n) (ok_tr ho hi n (by omega)) (ih (by omega))
theorem pk_day {wd iss : Int32} {X : WS} (h : pkX X.2) : pkX (dayF wd iss X).2 := by
  obtain ⟨S, v0, v, p, hd⟩ := X
  obtain ⟨h1, h2⟩ := h
  have h1 : pOK p := h1
  have h2 : pOK hd := h2
  have h3 : pOK (hdF p hd) := by
    cases hd with
    | none => exact h1
    | some q => exact h2
  unfold dayF
  by_cases q : jrem (S 93 0) 30 = 0
  · simp only [if_pos q]
    refine ⟨?_, fun P e => by cases e⟩
    show pOK (bgP S v.1 (hdF p hd))
    generalize hdF p hd = r at h3
    cases r with
    | none => exact fun P e => by cases e
    | some P =>
      rw [bgP_s]
      split
      · exact fun P e => by cases e
      · exact h3
  · simp only [if_neg q]
    exact ⟨h1, h2⟩
theorem pk_tr {wd : Nat → Int32} {iss : Int32} {t : Nat} {X : WS} (h : pkX X.2) : ∀ n, pkX (trI wd iss t X n).2 := by
  intro n
  induction n with
  | zero => exact h
  | succ n ih =>
    unfold trI
    split
    · exact pk_day ih
    · exact ih
section DAY
variable {L : Lay} {M : Mem}
theorem c_days {t n : Nat} {X : WS} {pm : Nat → Option Pc} {Q : Int32 → Mem → Prop} (hX : wsC L 1 M X) (ho : okX t X) (hz : zrX X.1) (ht : t + n ≤ 720) (h14 : mi M 1 14 = -1) (hpm : ∀ m, m < 24 → optC L M (mp M 76 m) (pm m))
    (h : ∀ M', wsC L 1 M' (trI (wdC M) (-1) t X n) → mi M' 1 14 = -1 → (∀ k, k < 240 → mi M' 77 k = kvF (wdC M) t X 117 (mi M 77) n k ∧ mi M' 78 k = kvF (wdC M) t X 118 (mi M 78) n k) → (∀ m, m < 24 → optC L M' (mp M' 76 m) (pmF (wdC M) t X pm n m)) →
      (∀ a k, ¬ PG 1 a k → a ≠ 77 → a ≠ 78 → mi M' a k = mi M a k) → (∀ a k, ¬ (a = 1 ∧ (k = 9 ∨ k = 11 ∨ k = 12)) → a ≠ 76 → mp M' a k = mp M a k) → Q (nI (t + n)) M') :
    LP2 (fun K29 v2 M => w_X11_days_29 L (nI n) K29 v2 M Q) 0 M := by
  have hw : IsW 1 := Or.inl rfl
  refine LP2_c0 0 n (fun i M' => wsC L 1 M' (trI (wdC M) (-1) t X i) ∧ mi M' 1 14 = -1 ∧ (∀ k, k < 240 → mi M' 77 k = kvF (wdC M) t X 117 (mi M 77) i k ∧ mi M' 78 k = kvF (wdC M) t X 118 (mi M 78) i k) ∧ (∀ m, m < 24 → optC L M' (mp M' 76 m) (pmF (wdC M) t X pm i m)) ∧
      (∀ a k, ¬ PG 1 a k → a ≠ 77 → a ≠ 78 → mi M' a k = mi M a k) ∧ (∀ a k, ¬ (a = 1 ∧ (k = 9 ∨ k = 11 ∨ k = 12)) → a ≠ 76 → mp M' a k = mp M a k)) rfl (Nat.zero_le _) ⟨hX, h14, fun k _ => ⟨rfl, rfl⟩, hpm, fun _ _ _ _ _ => rfl, fun _ _ _ _ => rfl⟩ ?_
  intro i M1 hi _ ⟨x1, k1, v1, p1, f1, g1⟩ K hK
  have ok1 := ok_tr (wd := wdC M) ho (Or.inl rfl) i (by omega)
  have z1 := tr_28 (wd := wdC M) ho hz (Or.inl rfl) i (by omega)
  have e0 : mi M1 1 0 = nI (t + i) := by rw [rC_93 (w := 1), x1.1]; exact ok1.2.1
  unfold w_X11_days_29
  rw [nI_lt' (by omega) (by omega), e0, nI_1]
  refine ⟨fun hlt => ?_, fun hge => ?_⟩
  · have ew : wdC M1 = wdC M := by
      funext d
      unfold wdC
      rw [f1 0 7 (by unfold PG; omega) (by decide) (by decide), f1 90 _ (by unfold PG; omega) (by decide) (by decide)]
    refine c_wind (by omega) (by omega) (c_pass hw x1 ok1.1 (by omega) ok1.2.1 k1 (Or.inl rfl) (fun M2 x2 F2 k2 => ?_))
    rw [ew] at x2
    have et : trI (wdC M) (-1) t X (i + 1) = dayF (wdC M (t + i + 1)) (-1) (trI (wdC M) (-1) t X i) := by
      show (if t + i < 720 then _ else _) = _
      rw [if_pos (by omega)]
    rw [← et] at x2
    have ok2 := ok_tr (wd := wdC M) ho (Or.inl rfl) (i + 1) (by omega)
    have e2 : mi M2 1 0 = nI (t + i + 1) := by rw [rC_93 (w := 1), x2.1]; exact ok2.2.1
    have F2' : ∀ a k, ¬ PG 1 a k → a ≠ 77 → a ≠ 78 → mi M2 a k = mi M a k := fun a k c1 c2 c3 => by rw [F2.1 a k c1, f1 a k c1 c2 c3]
    have G2' : ∀ a k, ¬ (a = 1 ∧ (k = 9 ∨ k = 11 ∨ k = 12)) → a ≠ 76 → mp M2 a k = mp M a k := fun a k c1 c2 => by rw [F2.2.1 a k c1, g1 a k c1 c2]
    have P2 : ∀ m, m < 24 → optC L M2 (mp M2 76 m) (pmF (wdC M) t X pm i m) := fun m hm => by
      rw [F2.2.1 76 m (by omega)]; exact FC.opt hw F2 (p1 m hm)
    have V2 : ∀ k, mi M2 77 k = mi M1 77 k ∧ mi M2 78 k = mi M1 78 k := fun k => ⟨F2.1 77 k (by unfold PG; omega), F2.1 78 k (by unfold PG; omega)⟩
    have ej : (jrem (mi M2 1 0) 30 = 0) ↔ (t + i + 1) % 30 = 0 := by rw [e2, jrem30 (by omega)]
    refine ⟨fun c => ?_, fun c x hx => ?_⟩
    · have c30 := ej.mp c
      have n2 : mi M2 1 2 = nI (tn (X.1 28 0)) := by
        rw [rC_28 (w := 1), x2.1, (tr_28 (wd := wdC M) ho hz (Or.inl rfl) (i + 1) (by omega)).2.1]; exact ho.1.1
      have n10 : tn (X.1 28 0) ≤ 10 := ho.1.2.1
      refine c_keep (n := tn (X.1 28 0)) e2 (by omega) (by omega) n2 n10 (fun a ha => ?_) (fun M3 a3 b3 c3 d3 x hx => ?_)
      · rcases x2.2.2.2.1 with ⟨q, -⟩ | ⟨b, P, q, -, hP⟩
        · rw [q] at ha; cases ha
        · rw [q] at ha; cases ha; exact hP.1
      · rw [hx, nI_1]
        have i3 : ∀ a k, a ≠ 77 → a ≠ 78 → mi M3 a k = mi M2 a k := fun a k q1 q2 => b3 a k (by omega)
        have p3 : ∀ a k, a ≠ 76 → mp M3 a k = mp M2 a k := fun a k q => by rw [c3, if_neg (fun y => q y.1)]
        have x3 : wsC L 1 M3 (trI (wdC M) (-1) t X (i + 1)) := by
          refine wsC_to x2 rfl ?_ (fun a k q => i3 a k (by omega) (by omega)) (fun a k q => p3 a k (by omega)) (fun j q1 q2 => ?_)
          · rw [vwC_eq (fun a k q1 q2 => i3 a k (by omega) (by omega)) (p3 1 11 (by decide))]; exact x2.1
          · rw [i3 _ _ (by unfold oA; omega) (by unfold oA; omega)]; exact x2.2.2.2.2.2 j q1 q2
        refine hK hlt M3 ⟨x3, ?_, fun k hk => ?_, fun m hm => ?_, fun a k q1 q2 q3 => ?_, fun a k q1 q2 => ?_⟩
        · rw [i3 _ _ (by decide) (by decide)]; exact k2
        · unfold kvF
          by_cases q : 10 * ((t + i + 1) / 30 - 1) ≤ k ∧ k < 10 * ((t + i + 1) / 30 - 1) + tn (X.1 28 0)
          · rw [if_pos ⟨c30, q⟩, if_pos ⟨c30, q⟩]
            have ek : k = 10 * ((t + i + 1) / 30 - 1) + (k - 10 * ((t + i + 1) / 30 - 1)) := by omega
            generalize hj : k - 10 * ((t + i + 1) / 30 - 1) = j at *
            have hj2 : j < tn (X.1 28 0) := by omega
            have d17 := day_117 (wd := wdC M (t + i + 1)) (iss := -1) ok1 (by omega) c30 (i := j) (by rw [z1.2.1]; exact hj2)
            rw [← et] at d17
            have a3' := a3 j hj2
            rw [ek, a3'.1, a3'.2, d17.1, d17.2, ← x2.1, rC_108 (by omega)]
            refine ⟨rfl, ?_⟩
            rw [vwC_def, if_pos rfl]
            by_cases w : mp M2 1 11 = none
            · rw [if_pos w, if_neg (fun y => y.2 w)]
            · rw [if_neg w, if_pos ⟨by omega, w⟩]
          · rw [if_neg (fun y => q y.2), if_neg (fun y => q y.2), b3 77 k (by omega), b3 78 k (by omega), (V2 k).1, (V2 k).2]
            exact v1 k hk
        · have lift : ∀ o p, optC L M2 o p → optC L M3 o p := fun o p q => optC_cg (fun b hb _ => funext fun k => i3 b k (by omega) (by omega)) (fun b hb _ => funext fun k => p3 b k (by omega)) q
          unfold pmF
          rw [c3]
          by_cases q : m = (t + i + 1) / 30 - 1
          · rw [if_pos ⟨rfl, q⟩, if_pos ⟨c30, q⟩]
            exact lift _ _ x2.2.2.2.1
          · rw [if_neg (fun y => q y.2), if_neg (fun y => q y.2)]
            exact lift _ _ (P2 m hm)
        · rw [i3 a k q2 q3]; exact F2' a k q1 q2 q3
        · rw [p3 a k q2]; exact G2' a k q1 q2
    · rw [hx, nI_1]
      have c30 : ¬ (t + i + 1) % 30 = 0 := fun q => c (ej.mpr q)
      refine hK hlt M2 ⟨x2, k2, fun k hk => ?_, fun m hm => ?_, F2', G2'⟩
      · unfold kvF
        rw [if_neg (fun y => c30 y.1), if_neg (fun y => c30 y.1), (V2 k).1, (V2 k).2]; exact v1 k hk
      · unfold pmF
        rw [if_neg (fun y => c30 y.1)]; exact P2 m hm
  · have : i = n := by omega
    subst this
    exact h M1 x1 k1 v1 p1 f1 g1
-- the places of the reference that days write
def PZ (a k : Nat) : Prop := (93 ≤ a ∧ a < 117) ∨ ((a = 117 ∨ a = 118) ∧ k < 240) ∨ a = 119 ∨ a = 128 ∨ (130 ≤ a ∧ a < 136) ∨ (a = 92 ∧ (k = 68 ∨ k = 69)) ∨ (138 ≤ a ∧ a ≤ 148)
theorem PS_Z {t n a k : Nat} (h : PS 0 t n a k) : PZ a k := by
  unfold PS PB PE PD slM at h
  unfold PZ
  omega
theorem m_days {t n : Nat} {X : WS} {pm : Nat → Option Pc} {Q : Int32 → Mem → Prop} (hX : wsM 0 M X) (ho : okX t X) (hz : zrX X.1) (ht : t + n ≤ 720) (hb : HB M t) (hpm : ∀ m, m < 24 → mmR M t pm m)
    (h : ∀ M', wsM 0 M' (trI (fun d => mi M 127 d) (-1) t X n) → HB M' (t + n) → (∀ k, k < 240 → mi M' 117 k = kvF (fun d => mi M 127 d) t X 117 (mi M 117) n k ∧ jmax 0 (mi M' 118 k) = kvF (fun d => mi M 127 d) t X 118 (fun k => jmax 0 (mi M 118 k)) n k) →
      (∀ m, m < 24 → mmR M' (t + n) (pmF (fun d => mi M 127 d) t X pm n) m) → FJ PZ M M' → Q (nI (t + n)) M') :
    LP2 (fun K33 v2 M => w_X12_days_33 L (nI n) K33 v2 M Q) 0 M := by
  refine LP2_c0 0 n (fun i M' => wsM 0 M' (trI (fun d => mi M 127 d) (-1) t X i) ∧ HB M' (t + i) ∧ (∀ k, k < 240 → mi M' 117 k = kvF (fun d => mi M 127 d) t X 117 (mi M 117) i k ∧ jmax 0 (mi M' 118 k) = kvF (fun d => mi M 127 d) t X 118 (fun k => jmax 0 (mi M 118 k)) i k) ∧
      (∀ m, m < 24 → mmR M' (t + i) (pmF (fun d => mi M 127 d) t X pm i) m) ∧ FJ PZ M M') rfl (Nat.zero_le _) ⟨hX, hb, fun k _ => ⟨rfl, rfl⟩, hpm, FJ.rf⟩ ?_
  intro i M1 hi _ ⟨x1, b1, v1, p1, F1⟩ K hK
  have ok1 := ok_tr (wd := fun d => mi M 127 d) ho (Or.inl rfl) i (by omega)
  have z1 := tr_28 (wd := fun d => mi M 127 d) ho hz (Or.inl rfl) i (by omega)
  have e0 : mi M1 93 0 = nI (t + i) := by rw [rM_93 (s := 0), x1.1]; exact ok1.2.1
  unfold w_X12_days_33
  rw [nI_lt' (by omega) (by omega), e0]
  refine ⟨fun hlt => ?_, fun hge => ?_⟩
  · refine m_pass (s := 0) (p1 := 0) (by decide) x1 ok1.1 (by omega) ok1.2.1 ok1.2.2 (Or.inl rfl) (fun M2 x2 F2 a2 _ b2 c2 d2 g2 x hx => ?_)
    rw [if_pos rfl, F1.1 127 _ (by unfold PZ; omega)] at x2
    rw [hx, nI_1]
    have et : trI (fun d => mi M 127 d) (-1) t X (i + 1) = dayF (mi M 127 (t + i + 1)) (-1) (trI (fun d => mi M 127 d) (-1) t X i) := by
      show (if t + i < 720 then _ else _) = _
      rw [if_pos (by omega)]
    rw [← et] at x2
    have ok2 := ok_tr (wd := fun d => mi M 127 d) ho (Or.inl rfl) (i + 1) (by omega)
    have n28 : tn ((trI (fun d => mi M 127 d) (-1) t X i).1 28 0) = tn (X.1 28 0) := by rw [z1.2.1]
    have n10 : tn (X.1 28 0) ≤ 10 := ho.1.2.1
    rw [n28] at d2 g2
    have hB2 : HB M2 (t + (i + 1)) := by
      rcases a2 with q | q | ⟨-, q⟩
      · exact Or.inl q
      · rcases b1 with r | ⟨s, r1, r2⟩
        · exact Or.inl (q.trans r)
        · exact Or.inr ⟨s, q.trans r1, by omega⟩
      · rw [if_pos rfl] at q
        exact Or.inr ⟨_, q, by omega⟩
    refine hK hlt M2 ⟨x2, hB2, fun k hk => ?_, fun m hm => ?_, F1.tr (F2.mono (fun a k q => PS_Z q))⟩
    · unfold kvF
      have ek : k = 240 * 0 + 10 * (k / 10) + k % 10 := by omega
      by_cases q : (t + i + 1) % 30 = 0 ∧ 10 * ((t + i + 1) / 30 - 1) ≤ k ∧ k < 10 * ((t + i + 1) / 30 - 1) + tn (X.1 28 0)
      · rw [if_pos q, if_pos q]
        obtain ⟨c30, q1, q2⟩ := q
        have ek2 : k = 240 * 0 + 10 * ((t + i + 1) / 30 - 1) + (k - 10 * ((t + i + 1) / 30 - 1)) := by omega
        generalize hj : k - 10 * ((t + i + 1) / 30 - 1) = j at *
        have gg := g2 c30 j (by omega)
        have d17 := day_117 (wd := mi M 127 (t + i + 1)) (iss := -1) ok1 (by omega) c30 (i := j) (by rw [z1.2.1]; omega)
        rw [← et] at d17
        rw [ek2, gg.1, gg.2, x2.1]
        refine ⟨rfl, ?_⟩
        rw [d17.2]
        by_cases w : mi M2 99 0 < 0
        · rw [if_pos w, ← x2.1, vwM_def, if_pos rfl, if_neg (fun y => y.2 w)]; decide
        · rw [if_neg w]; exact jmax0 (ok2.2.2 j)
      · rw [if_neg q, if_neg q]
        have dd := d2 (k / 10) (k % 10) (by omega) (by omega) (by omega)
        rw [← ek] at dd
        rw [dd.1, dd.2]; exact v1 k hk
    · by_cases q : (t + i + 1) % 30 = 0 ∧ m = (t + i + 1) / 30 - 1
      · have ep : pmF (fun d => mi M 127 d) t X pm (i + 1) m = (trI (fun d => mi M 127 d) (-1) t X (i + 1)).2.2.2.1 := by unfold pmF; rw [if_pos q]
        have e128 : mi M2 128 m = mi M2 99 0 := by rw [q.2]; exact b2 rfl q.1
        rcases x2.2.2.2.2.2.2.1 with ⟨r1, r2⟩ | ⟨s, P, r1, r3, r2, r4⟩
        · exact Or.inl ⟨e128.trans r1, ep.trans r2⟩
        · refine Or.inr ⟨s, P, e128.trans r1, ?_, by omega, ep.trans r2, r4⟩
          rcases hB2 with y | ⟨s', y1, y2⟩
          · rw [r1] at y; exact absurd y (by rw [nI_m1 (by omega)]; exact id)
          · rw [r1] at y1
            have := (nI_eq (by omega) (by omega)).mp y1
            omega
      · have ep : pmF (fun d => mi M 127 d) t X pm (i + 1) m = pmF (fun d => mi M 127 d) t X pm i m := by
          show (if _ then _ else _) = _
          rw [if_neg q]
        have e128 : mi M2 128 m = mi M1 128 m := c2 m (by omega)
        rcases p1 m hm with ⟨r1, r2⟩ | ⟨s, P, r1, r3, r5, r2, r4⟩
        · exact Or.inl ⟨e128.trans r1, ep.trans r2⟩
        · refine Or.inr ⟨s, P, e128.trans r1, r3, by omega, ep.trans r2, pacM_cg (fun a j y => F2.1 a j (fun w => ?_)) r4⟩
          unfold PS PB PE PD slM at w
          unfold slM at y
          omega
  · have : i = n := by omega
    subst this
    exact h M1 x1 b1 v1 p1 F1
theorem j_days {p0 : Int32} (h : RR L M) : w_X11_days L p0 M (fun a M1 => w_X12_days L p0 M1 (fun b M2 => a = b ∧ RR L M2)) := by
  have h' := h
  obtain ⟨t, X, h⟩ := h
  obtain ⟨-, -, n93, m93, n720, -⟩ := RX_n h
  have no : ∀ M1 : Mem, M1 = si M 92 0 0 → RR L M1 := fun M1 e => by subst e; exact RR_th h'
  have bad : ∀ M1 : Mem, ¬ (wi p0 0 60 ∧ ∀ k, k ≤ 60 → p0 = nI k → t + k ≤ 720) → M1 = M → w_X12_days L p0 M1 (fun b M2 => -1 = b ∧ RR L M2) := fun M1 q e2 => by
    subst e2
    unfold w_X12_days
    intro M2 e
    refine m_wiB (fun _ => ⟨rfl, no M2 e⟩) (fun q1 => ?_)
    have q1' := q1
    obtain ⟨k, k1, k2, rfl⟩ := wi_nI (a := 0) (b := 60) (by decide) (by decide) q1
    rw [show mi M2 93 0 = nI t from by rw [e]; exact m93, nI_add, show (720 : Int32) = nI 720 from rfl, nI_lt' (by omega) (by omega)]
    refine ⟨fun _ => ⟨rfl, no M2 e⟩, fun z => absurd ⟨q1', fun j hj ej => ?_⟩ q⟩
    have := (nI_eq (by omega) (by omega)).mp ej
    omega
  unfold w_X11_days
  refine c_wiB (fun q => bad _ (fun z => q z.1) rfl) (fun q1 => ?_)
  have q1' := q1
  obtain ⟨n, -, n60, rfl⟩ := wi_nI (a := 0) (b := 60) (by decide) (by decide) q1
  rw [n93, nI_add, show (720 : Int32) = nI 720 from rfl, nI_lt' (by omega) (by omega)]
  refine ⟨fun z => bad _ (fun y => absurd (y.2 n n60 rfl) (by omega)) rfl, fun z => ?_⟩
  obtain ⟨⟨h1, h2, h3, h4, h5, h6, h7, h8, h9⟩, ⟨rw, rt, rm, rr, rs⟩⟩ := h
  have exi : ∀ m, ∃ p : Option Pc, m < 24 → optC L M (mp M 76 m) p ∧ ((mi M 128 m = -1 ∧ p = none) ∨ ∃ q P, mi M 128 m = nI q ∧ q ≤ m ∧ m < t / 30 ∧ p = some P ∧ pacM M q P) := fun m => by
    by_cases hm : m < 24
    · rcases rm.2 m hm with ⟨a, b⟩ | ⟨a, b, q, P, c1, c2, c3, c4, c5⟩
      · exact ⟨none, fun _ => ⟨Or.inl ⟨a, rfl⟩, Or.inl ⟨b, rfl⟩⟩⟩
      · exact ⟨some P, fun _ => ⟨Or.inr ⟨b, P, c1, rfl, c4⟩, Or.inr ⟨q, P, c2, c3, a, rfl, c5⟩⟩⟩
    · exact ⟨none, fun y => absurd y hm⟩
  obtain ⟨pm, hpm⟩ := Classical.axiomOfChoice exi
  refine c_days h2 h4 h5 (by omega) h7 (fun m hm => (hpm m hm).1) (fun M1 y1 y14 yv yp yi yq => ?_)
  have iM : ∀ a k, 92 ≤ a → mi M1 a k = mi M a k := fun a k q => yi a k (by unfold PG; omega) (by omega) (by omega)
  unfold w_X12_days
  intro M2 e2
  have i2 : ∀ a k, ¬ (a = 92 ∧ k = 0) → mi M2 a k = mi M1 a k := fun a k q => by rw [e2, mi_si, if_neg q]
  have iM2 : ∀ a k, 92 ≤ a → ¬ (a = 92 ∧ k = 0) → mi M2 a k = mi M a k := fun a k q1 q2 => by rw [i2 a k q2, iM a k q1]
  refine m_wiB (fun y => absurd q1' y) (fun _ => ?_)
  rw [show mi M2 93 0 = nI t from by rw [iM2 _ _ (by omega) (by omega)]; exact m93, nI_add, show (720 : Int32) = nI 720 from rfl, nI_lt' (by omega) (by omega)]
  refine ⟨fun y => absurd y z, fun _ => ?_⟩
  have w2 : wsM 0 M2 X := by
    refine wsM_to h3 rfl ?_ (fun a k q => iM2 a k (by omega) (by omega)) (by rw [iM2 92 28 (by decide) (by decide)]; exact Nat.le_refl _) (fun i a b => ?_)
    · rw [vwM_cg (fun a k q1 q2 q3 _ _ _ _ _ _ _ _ _ _ _ => iM2 a k q1 (by omega))]; exact h3.1
    · rw [iM2 _ _ (by omega) (by omega)]; exact h3.2.2.2.2.2.2.2.2.2.2 i a b
  refine m_days w2 h4 h5 (by omega) (by unfold HB; rw [iM2 _ _ (by omega) (by omega)]; exact h8) (pm := pm) (fun m hm => ?_) (fun M3 x3 b3 v3 p3 F3 => ?_)
  · unfold mmR
    rw [iM2 128 m (by omega) (by omega)]
    rcases (hpm m hm).2 with r | ⟨q, P, r1, r2, r3, r4, r5⟩
    · exact Or.inl r
    · exact Or.inr ⟨q, P, r1, r2, r3, r4, pacM_cg (fun a j y => iM2 a j (by unfold slM at y; omega) (by unfold slM at y; omega)) r5⟩
  · have e27 : (fun d => mi M2 127 d) = (fun d => mi M 127 d) := funext fun d => iM2 127 d (by omega) (by omega)
    have etr : ∀ i, trI (fun d => mi M 127 d) (-1) t X i = trI (wdC M) (-1) t X i := fun i => tr_cg (fun d d1 d2 => by
      obtain ⟨nw, a1, a2, a3, a4, a5⟩ := rw
      unfold wdC
      have el := nI_ltI (a := nw) (b := d) (by omega) (by omega)
      rw [a2]
      by_cases c : nw < d
      · rw [if_pos (el.mpr c)]; exact a5 d c d2
      · rw [if_neg (fun y => c (el.mp y))]
        have := a4 (d - 1) (by omega)
        rw [this, show d - 1 + 1 = d by omega]) i
    rw [e27] at x3 v3 p3
    have ekv : ∀ f (b b' : Nat → Int32) k, (b k = b' k) → ∀ i, kvF (fun d => mi M 127 d) t X f b i k = kvF (wdC M) t X f b' i k := fun f b b' k e i => by
      induction i with
      | zero => exact e
      | succ i ih => unfold kvF; rw [etr (i + 1), ih]
    have epm : ∀ i m, pmF (fun d => mi M 127 d) t X pm i m = pmF (wdC M) t X pm i m := fun i m => by
      induction i with
      | zero => rfl
      | succ i ih => unfold pmF; rw [etr (i + 1), ih]
    rw [etr n] at x3
    have i3 : ∀ a k, ¬ PZ a k → ¬ (a = 92 ∧ k = 0) → mi M3 a k = mi M1 a k := fun a k q1 q2 => by rw [F3.1 a k q1, i2 a k q2]
    have q3 : ∀ a k, mp M3 a k = mp M1 a k := fun a k => by rw [F3.mp, e2]; rfl
    have i3' : ∀ a k, ¬ PZ a k → ¬ (a = 92 ∧ k = 0) → ¬ PG 1 a k → a ≠ 77 → a ≠ 78 → mi M3 a k = mi M a k := fun a k c1 c2 c3 c4 c5 => by rw [i3 a k c1 c2, yi a k c3 c4 c5]
    have s28 := tr_28 (wd := wdC M) h4 h5 (Or.inl rfl) n (by omega)
    have w3 : wsC L 1 M3 (trI (wdC M) (-1) t X n) := by
      refine wsC_to y1 rfl ?_ (fun a k q => i3 a k (by unfold PZ; omega) (by omega)) (fun a k _ => q3 a k) (fun j a b => ?_)
      · rw [vwC_eq (fun a k q1 q2 => i3 a k (by unfold PZ; omega) (by omega)) (q3 1 11)]; exact y1.1
      · rw [i3 _ _ (by unfold PZ oA; omega) (by unfold oA; omega)]; exact y1.2.2.2.2.2 j a b
    refine ⟨rfl, t + n, trI (wdC M) (-1) t X n, ⟨by omega, w3, x3, ok_tr h4 (Or.inl rfl) n (by omega), s28.1, ?_, ?_, b3, lf_tr h4 h9.1 (Or.inl rfl) n (by omega), pk_tr h9.2 n⟩, WN_cg rw (fun a k q => ?_), TP_cg rt (fun a k q => ?_), ⟨fun k hk => ?_, fun m hm => ?_⟩, RE_cg rr (fun a k q => ?_), ?_⟩
    · rw [s28.2.1, s28.2.2]; exact z36_to h6 (Nat.le_refl _) (Nat.le_refl _) (fun a j a1 a2 => i3' a j (by unfold PZ; omega) (by omega) (by unfold PG; omega) (by omega) (by omega))
    · rw [i3 _ _ (by unfold PZ; omega) (by omega)]; exact y14
    · unfold PWn at q; exact i3' a k (by unfold PZ; omega) (by omega) (by unfold PG; omega) (by omega) (by omega)
    · unfold PTp at q; exact i3' a k (by unfold PZ; omega) (by omega) (by unfold PG; omega) (by omega) (by omega)
    · have r := rm.1 k hk
      have a := yv k hk
      have b := v3 k hk
      rw [i3 77 k (by unfold PZ; omega) (by omega), i3 78 k (by unfold PZ; omega) (by omega), i3' 79 k (by unfold PZ; omega) (by omega) (by unfold PG; omega) (by omega) (by omega), i3' 154 k (by unfold PZ; omega) (by omega) (by unfold PG; omega) (by omega) (by omega), a.1, a.2, b.1, b.2]
      refine ⟨(ekv _ _ _ _ ?_ n).symm, (ekv _ _ _ _ ?_ n).symm, r.2.2⟩
      · rw [iM2 117 k (by omega) (by omega)]; exact r.1.symm
      · show jmax 0 (mi M2 118 k) = _
        rw [iM2 118 k (by omega) (by omega)]; exact r.2.1.symm
    · have c := yp m hm
      have d := p3 m hm
      unfold mmR at d
      rw [epm n m] at d
      have lift : ∀ o p, optC L M1 o p → optC L M3 o p := fun o p q => optC_cg (fun b hb _ => funext fun k => i3 b k (by unfold PZ; omega) (by omega)) (fun b hb _ => funext fun k => q3 b k) q
      have c3 := lift _ _ c
      rw [← q3 76 m] at c3
      rcases d with ⟨d1, d2⟩ | ⟨q, P, d1, d2, d3, d4, d5⟩
      · rcases c3 with ⟨u1, u2⟩ | ⟨a, P, u1, u2, -⟩
        · exact Or.inl ⟨u1, d1⟩
        · rw [d2] at u2; cases u2
      · rcases c3 with ⟨u1, u2⟩ | ⟨a, P', u1, u2, u3⟩
        · rw [d4] at u2; cases u2
        · rw [d4] at u2; cases u2
          exact Or.inr ⟨d3, a, q, P, u1, d1, d2, u3, d5⟩
    · unfold PRe at q; exact i3' a k (by unfold PZ; omega) (by omega) (by unfold PG; omega) (by omega) (by omega)
    · show SA (tn ((trI (wdC M) (-1) t X n).1 28 0)) M3
      rw [s28.2.1]
      refine SA_cg rs (Nat.le_refl _) (fun a k q => ?_)
      unfold PSa at q; exact i3' a k (by unfold PZ; omega) (by omega) (by unfold PG; omega) (by omega) (by omega)
end DAY
