-- LEVEL 3, part 21: day after day, in a trial
def okX (t : Nat) (X : WS) : Prop := gdT t X.1 ∧ X.1 93 0 = nI t ∧ ∀ i, ¬ X.1 109 i < 0
theorem us_p {S : SS} {held : Bool} {w duty : Int32} {f i : Nat} (h : f = 28 ∨ f = 34 ∨ f = 93 ∨ f = 109) : usF (saG (S 93 0 + 1) w duty (ldG held (tn (S 94 0)) (digF S)) (tn (S 34 0))) w f i = S f i := by
  unfold usF
  rw [u2_f (by omega), u2_f (by omega), u2_f (by omega), saG_f (by omega) (by omega) (by omega) (by omega) (by omega) (by omega) (by omega), ldG_f (by omega) (by omega) (by omega) (by omega) (by omega)]
  exact if_neg (fun q => by omega)
theorem dy_93 {S : SS} {t : Nat} {held : Bool} {w duty : Int32} (h : S 93 0 = nI t) (ht : t < 720) : dyF S held w duty 93 0 = nI (t + 1) := by
  unfold dyF
  rw [enF_at (t := t) ((us_p (by omega)).trans h) (by omega), if_pos ⟨rfl, rfl⟩]
theorem dy_a {S : SS} {t i : Nat} {held : Bool} {w duty : Int32} (h : S 93 0 = nI t) (ht : t < 720) : dyF S held w duty 109 i = S 109 i := by
  unfold dyF
  rw [enF_at (t := t) ((us_p (by omega)).trans h) (by omega), if_neg (fun q => by omega), if_neg (fun q => by omega), if_neg (fun q => by omega)]
  exact dy_109
theorem ok_day {t : Nat} {wd iss : Int32} {X : WS} (h : okX t X) (ht : t < 720) (hi : iss = -1 ∨ ∃ k, k ≤ 9999 ∧ iss = nI k) : okX (t + 1) (dayF wd iss X) := by
  obtain ⟨S, v0, v, p, hd⟩ := X
  obtain ⟨h1, h2, h3⟩ := h
  have h1 : gdT t S := h1
  have h2 : S 93 0 = nI t := h2
  have h3 : ∀ i, ¬ S 109 i < 0 := h3
  have run : ∀ (S2 : SS) (held : Bool), gdT t S2 → S2 93 0 = nI t → (∀ i, ¬ S2 109 i < 0) → gdT (t + 1) (dyF S2 held wd v.2) ∧ dyF S2 held wd v.2 93 0 = nI (t + 1) ∧ ∀ i, ¬ dyF S2 held wd v.2 109 i < 0 := fun S2 held g e a =>
    ⟨gd_dy g (by rw [e, tn_nI (by omega)]) ht, dy_93 e ht, fun i => by rw [dy_a e ht]; exact a i⟩
  unfold okX dayF
  by_cases q : jrem (S 93 0) 30 = 0
  · have ew : ∀ f i, f ≠ 109 → f ≠ 108 → f ≠ 100 → bgS S v.1 iss (bgP S v.1 (hdF p hd)) f i = S f i := fun f i c1 c2 c3 => bgS_f c1 c2 c3
    have r := run _ (bgP S v.1 (hdF p hd)).isSome (gd_X ew h1) ((ew 93 0 (by decide) (by decide) (by decide)).trans h2) (bgS_109 h1 hi)
    simp only [if_pos q]
    exact r
  · have r := run S p.isSome h1 h2 h3
    simp only [if_neg q]
    exact r
def trI (wd : Nat → Int32) (iss : Int32) (t : Nat) (X : WS) : Nat → WS
  | 0 => X
  | n + 1 => if t + n < 720 then dayF (wd (t + n + 1)) iss (trI wd iss t X n) else trI wd iss t X n
theorem ok_tr {wd : Nat → Int32} {iss : Int32} {t : Nat} {X : WS} (h : okX t X) (hi : iss = -1 ∨ ∃ k, k ≤ 9999 ∧ iss = nI k) : ∀ n, t + n ≤ 720 → okX (t + n) (trI wd iss t X n) := by
  intro n
  induction n with
  | zero => intro _; exact h
  | succ n ih =>
    intro hn
    unfold trI
    rw [if_pos (by omega)]
    exact ok_day (t := t + n) (ih (by omega)) (by omega) hi
theorem tr_end {wd : Nat → Int32} {iss : Int32} {t k : Nat} {X : WS} (h : t + k = 720) : ∀ n, k ≤ n → trI wd iss t X n = trI wd iss t X k := by
  intro n
  induction n with
  | zero => intro hk; have : k = 0 := by omega
            subst this; rfl
  | succ n ih =>
    intro hk
    by_cases q : k = n + 1
    · rw [q]
    · unfold trI
      rw [if_neg (by omega)]
      have e := ih (by omega)
      cases k with
      | zero => exact e
      | succ k => exact e
theorem tr_cg {wd wd' : Nat → Int32} {iss : Int32} {t : Nat} {X : WS} (h : ∀ d, 1 ≤ d → d ≤ 720 → wd d = wd' d) : ∀ n, trI wd iss t X n = trI wd' iss t X n := by
  intro n
  induction n with
  | zero => rfl
  | succ n ih =>
    unfold trI
    rw [ih]
    by_cases q : t + n < 720
    · rw [if_pos q, if_pos q, h _ (by omega) (by omega)]
    · rw [if_neg q, if_neg q]
def wdC (M : Mem) (d : Nat) : Int32 := if mi M 0 7 < nI d then 0 else mi M 90 (d - 1)
theorem c_wind {L : Lay} {d : Nat} {M : Mem} {Q : Int32 → Mem → Prop} (h1 : 1 ≤ d) (h2 : d ≤ 720) (h : Q (wdC M d) M) : w_X11_windOf L (nI d) M Q := by
  unfold w_X11_windOf
  unfold wdC at h
  have e1 : ¬ nI d < 1 := by rw [show (1 : Int32) = nI 1 from rfl, nI_lt' (by omega) (by omega)]; omega
  refine ⟨fun q => absurd q e1, fun _ => ⟨fun q => ?_, fun q => ?_⟩⟩
  · rw [if_pos q] at h; exact h
  · rw [if_neg q] at h
    rw [show nI d - (1 : Int32) = nI (d - 1) from by rw [show (1 : Int32) = nI 1 from rfl, pk_sub h1], tn_nI (by omega)]
    exact ⟨vp_in_nI (by omega) (by decide), h⟩
theorem FC_wd {w : Nat} {M M' : Mem} (hw : IsW w) (h : FC w M M') : wdC M' = wdC M := by
  have hw2 := hw.lt
  funext d
  unfold wdC
  rw [h.1 0 7 (fun q => by unfold PG at q; unfold IsW at hw; omega), h.1 90 _ (fun q => by unfold PG at q; unfold IsW at hw; omega)]
-- a trial's days in the class
theorem c_run {L : Lay} {t n : Nat} {p0 p1 iss : Int32} {X : WS} {M : Mem} {Q : Mem → Prop} (hX : wsC L 36 M X) (ho : okX t X) (ht : t ≤ 720) (h14 : mi M 36 14 = iss) (hi : iss = -1 ∨ ∃ k, k ≤ 9999 ∧ iss = nI k) (hn : n < 2 ^ 30)
    (h : ∀ M', wsC L 36 M' (trI (wdC M) iss t X n) → FC 36 M M' → Q M') : LP2 (fun K30 v4 M => w_X11_runTrial_30 L p0 p1 (nI n) K30 v4 M Q) 0 M := by
  have hw : IsW 36 := Or.inr rfl
  refine LP2_c0 0 n (fun i M' => (i = 0 ∨ t + i ≤ 720) ∧ wsC L 36 M' (trI (wdC M) iss t X i) ∧ FC 36 M M' ∧ mi M' 36 14 = iss) rfl (Nat.zero_le _) ⟨Or.inl rfl, hX, FC.rf, h14⟩ ?_
  intro i M1 hi2 _ ⟨hb, hX1, F1, k14⟩ K hK
  have ok1 := ok_tr (wd := wdC M) ho hi i (by omega)
  unfold w_X11_runTrial_30
  rw [nI_lt' (by omega) (by omega)]
  have e0 : mi M1 36 0 = nI (t + i) := by rw [rC_93 (w := 36), hX1.1]; exact ok1.2.1
  refine ⟨fun hlt => ?_, fun hge => ?_⟩
  · rw [e0, show (720 : Int32) = nI 720 from rfl, nI_lt' (by omega) (by omega), nI_1]
    refine ⟨fun hd => ?_, fun hd => ?_⟩
    · refine c_wind (by omega) (by omega) (c_pass hw hX1 ok1.1 hd ok1.2.1 k14 hi (fun M2 hX2 F2 k2 x hx => ?_))
      rw [hx, nI_1]
      refine hK hlt M2 ⟨Or.inr (by omega), ?_, F1.tr F2, k2⟩
      rw [FC_wd hw F1] at hX2
      unfold trI
      rw [if_pos hd]; exact hX2
    · exact h M1 (by rw [tr_end (k := i) (by omega) n (by omega)]; exact hX1) F1
  · have : i = n := by omega
    subst this
    exact h M1 hX1 F1
-- a trial's days in the reference
def PT (a k : Nat) : Prop := (93 ≤ a ∧ a < 107 ∧ k = 1) ∨ (107 ≤ a ∧ a < 112 ∧ 10 ≤ k ∧ k < 20) ∨ (112 ≤ a ∧ a < 116 ∧ 8 ≤ k ∧ k < 16) ∨ (a = 116 ∧ 96 ≤ k ∧ k < 192) ∨ ((a = 117 ∨ a = 118) ∧ 240 ≤ k ∧ k < 480) ∨ (a = 119 ∧ 721 ≤ k ∧ k < 1442) ∨ (a = 92 ∧ (k = 68 ∨ k = 69)) ∨ (138 ≤ a ∧ a ≤ 148)
theorem PS_T {t n a k : Nat} (ht : t < 720) (hn : n ≤ 10) (h : PS 1 t n a k) : PT a k := by
  unfold PS PB PE PD at h
  unfold PT
  rcases h with (h | h | h | h | h | h) | ((h | h | h | h) | h | h | h) | h
  · exact Or.inl (by omega)
  · exact Or.inr (Or.inl (by omega))
  · exact Or.inr (Or.inl (by omega))
  · exact Or.inr (Or.inr (Or.inr (Or.inr (Or.inr (Or.inr (Or.inl (by omega)))))))
  · exact Or.inr (Or.inr (Or.inr (Or.inr (Or.inr (Or.inr (Or.inr (by omega)))))))
  · exact absurd h.1 (by decide)
  · exact Or.inl (by omega)
  · exact Or.inr (Or.inl (by omega))
  · exact Or.inr (Or.inr (Or.inl (by omega)))
  · exact Or.inr (Or.inr (Or.inr (Or.inl (by omega))))
  · exact Or.inr (Or.inr (Or.inr (Or.inr (Or.inl (by omega)))))
  · exact Or.inr (Or.inr (Or.inr (Or.inr (Or.inr (Or.inl (by omega))))))
  · omega
  · exact Or.inl (by omega)
theorem m_run {L : Lay} {t n : Nat} {p0 p2 iss : Int32} {X : WS} {M : Mem} {Q : Mem → Prop} (hX : wsM 1 M X) (ho : okX t X) (ht : t ≤ 720) (hi : iss = -1 ∨ ∃ k, k ≤ 9999 ∧ iss = nI k) (hn : n < 2 ^ 30)
    (h : ∀ M', wsM 1 M' (trI (fun d => if p2 = 0 then mi M 127 d else 3) iss t X n) → FJ PT M M' → Q M') : LP2 (fun K485 v5 M => w_X12_tries_485 L p0 (nI n) p2 iss K485 v5 M Q) 0 M := by
  refine LP2_c0 0 n (fun i M' => (i = 0 ∨ t + i ≤ 720) ∧ wsM 1 M' (trI (fun d => if p2 = 0 then mi M 127 d else 3) iss t X i) ∧ FJ PT M M') rfl (Nat.zero_le _) ⟨Or.inl rfl, hX, FJ.rf⟩ ?_
  intro i M1 hi2 _ ⟨hb, hX1, F1⟩ K hK
  have ok1 := ok_tr (wd := fun d => if p2 = 0 then mi M 127 d else 3) ho hi i (by omega)
  unfold w_X12_tries_485
  rw [nI_lt' (by omega) (by omega)]
  have e0 : mi M1 93 1 = nI (t + i) := by rw [rM_93 (s := 1), hX1.1]; exact ok1.2.1
  refine ⟨fun hlt => ?_, fun hge => ?_⟩
  · rw [e0, show (720 : Int32) = nI 720 from rfl, nI_lt' (by omega) (by omega)]
    refine ⟨fun hd => ?_, fun hd => ?_⟩
    · refine m_pass (s := 1) (by omega) hX1 ok1.1 hd ok1.2.1 ok1.2.2 hi (fun M2 hX2 F2 _ _ _ _ _ _ x hx => ?_)
      rw [hx, nI_1]
      refine hK hlt M2 ⟨Or.inr (by omega), ?_, F1.tr (F2.mono (fun a k q => PS_T hd ok1.1.2.1 q))⟩
      rw [F1.1 127 _ (by unfold PT; omega)] at hX2
      unfold trI
      rw [if_pos hd]; exact hX2
    · exact h M1 (by rw [tr_end (k := i) (by omega) n (by omega)]; exact hX1) F1
  · have : i = n := by omega
    subst this
    exact h M1 hX1 F1
