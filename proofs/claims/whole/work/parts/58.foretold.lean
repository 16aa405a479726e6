-- LEVEL 3, part 42: what is foretold
def foG (wd : Nat → Int32) (t : Nat) (X : WS) : Nat → Nat → Int32
  | 0, _ => -1
  | r + 1, i => if t + i < 720 then (if ((trI wd (-1) t X (i + 1)).1 119 0 &&& 1) = 1 then nI (t + i + 1) else foG wd t X r (i + 1)) else -1
theorem foG_s {wd : Nat → Int32} {t r i : Nat} {X : WS} : foG wd t X (r + 1) i = if t + i < 720 then (if ((trI wd (-1) t X (i + 1)).1 119 0 &&& 1) = 1 then nI (t + i + 1) else foG wd t X r (i + 1)) else -1 := rfl
theorem hb_last {g : Nat → Int32} {d : Nat} (h : ∀ j, 1 ≤ j → j ≤ d + 1 → BZ (g j)) : hbF g (d + 1) &&& 1 = g (d + 1) := by
  have hN : ∀ j, 1 ≤ j → j ≤ d → g j = nI (tn (g j)) ∧ tn (g j) < 2 := fun j h1 h2 => by
    rcases h j h1 (by omega) with q | q
    · rw [q]; exact ⟨rfl, by decide⟩
    · rw [q]; exact ⟨rfl, by decide⟩
  obtain ⟨b, hb, eb⟩ : ∃ b, b < 2 ∧ g (d + 1) = nI b := by
    rcases h (d + 1) (by omega) (Nat.le_refl _) with q | q
    · exact ⟨0, by omega, q⟩
    · exact ⟨1, by omega, q⟩
  show ((jshl (hbF g d) 1 ||| g (d + 1)) &&& 1073741823) &&& 1 = g (d + 1)
  rw [hbF_N (g := fun j => tn (g j)) d hN, hb_step (f := g) (hbN_lt d) hb eb, bit_low, eb]
  rw [show (2 * hbN (fun j => tn (g j)) d + b) % 2 ^ 30 % 2 = b by omega]
section FOR
variable {L : Lay} {M : Mem}
theorem m_runH {t n : Nat} {p0 p2 iss : Int32} {X : WS} {Q : Mem → Prop} (hX : wsM 1 M X) (ho : okX t X) (ht : t ≤ 720) (hi : iss = -1 ∨ ∃ k, k ≤ 9999 ∧ iss = nI k) (hn : n < 2 ^ 30)
    (h : ∀ M', wsM 1 M' (trI (fun d => if p2 = 0 then mi M 127 d else 3) iss t X n) → FJ PT M M' → (∀ j, j < n → t + j < 720 → mi M' 119 (721 + (t + j + 1)) = (trI (fun d => if p2 = 0 then mi M 127 d else 3) iss t X (j + 1)).1 119 0 &&& 1) → Q M') : LP2 (fun K485 v5 M => w_X12_tries_485 L p0 (nI n) p2 iss K485 v5 M Q) 0 M := by
  refine LP2_c0 0 n (fun i M' => (i = 0 ∨ t + i ≤ 720) ∧ wsM 1 M' (trI (fun d => if p2 = 0 then mi M 127 d else 3) iss t X i) ∧ FJ PT M M' ∧ (∀ j, j < i → t + j < 720 → mi M' 119 (721 + (t + j + 1)) = (trI (fun d => if p2 = 0 then mi M 127 d else 3) iss t X (j + 1)).1 119 0 &&& 1)) rfl (Nat.zero_le _) ⟨Or.inl rfl, hX, FJ.rf, fun j hj => absurd hj (by omega)⟩ ?_
  intro i M1 hi2 _ ⟨hb, hX1, F1, H1⟩ K hK
  have ok1 := ok_tr (wd := fun d => if p2 = 0 then mi M 127 d else 3) ho hi i (by omega)
  unfold w_X12_tries_485
  rw [nI_lt' (by omega) (by omega)]
  have e0 : mi M1 93 1 = nI (t + i) := by rw [rM_93 (s := 1), hX1.1]; exact ok1.2.1
  refine ⟨fun hlt => ?_, fun hge => ?_⟩
  · rw [e0, show (720 : Int32) = nI 720 from rfl, nI_lt' (by omega) (by omega)]
    refine ⟨fun hd => ?_, fun hd => ?_⟩
    · refine m_pass (s := 1) (by omega) hX1 ok1.1 hd ok1.2.1 ok1.2.2 hi (fun M2 hX2 F2 _ _ _ _ _ _ x hx => ?_)
      rw [hx, nI_1]
      rw [F1.1 127 _ (by unfold PT; omega)] at hX2
      have et : trI (fun d => if p2 = 0 then mi M 127 d else 3) iss t X (i + 1) = dayF (if p2 = 0 then mi M 127 (t + i + 1) else 3) iss (trI (fun d => if p2 = 0 then mi M 127 d else 3) iss t X i) := by
        show (if t + i < 720 then _ else _) = _
        rw [if_pos hd]
      rw [← et] at hX2
      refine hK hlt M2 ⟨Or.inr (by omega), hX2, F1.tr (F2.mono (fun a k q => PS_T hd ok1.1.2.1 q)), fun j hj hj2 => ?_⟩
      by_cases c : j = i
      · subst c
        have ok2 := ok_tr (wd := fun d => if p2 = 0 then mi M 127 d else 3) ho hi (j + 1) (by omega)
        have e1 : mi M2 93 1 = nI (t + j + 1) := by rw [rM_93 (s := 1), hX2.1]; exact ok2.2.1
        have hz := hX2.2.2.2.2.2.2.2.2.1
        rw [← hX2.1, vwM_def, if_neg (by decide), if_neg (by decide), if_neg (by decide), if_pos rfl, if_pos rfl, e1, tn_nI (by omega), hb_last (fun j' a b => hz j' (by omega))]
      · rw [F2.1 119 _ (by unfold PS PB PE PD; omega)]; exact H1 j (by omega) hj2
    · refine h M1 (by rw [tr_end (k := i) (by omega) n (by omega)]; exact hX1) F1 (fun j hj hj2 => H1 j (by omega) hj2)
  · have : i = n := by omega
    subst this
    exact h M1 hX1 F1 H1
theorem m_triesH {t n : Nat} {set p2 iss : Int32} {X : WS} {Q : Mem → Prop} (hX : wsM 0 M X) (ho : okX t X) (ht : t ≤ 720) (hi : iss = -1 ∨ ∃ k, k ≤ 9999 ∧ iss = nI k) (hn : n < 2 ^ 30)
    (h : ∀ M', wsM 1 M' (trI (fun d => if p2 = 0 then mi M 127 d else 3) iss t (bkX X set) n) → FJ PT M M' → (∀ j, j < n → t + j < 720 → mi M' 119 (721 + (t + j + 1)) = (trI (fun d => if p2 = 0 then mi M 127 d else 3) iss t (bkX X set) (j + 1)).1 119 0 &&& 1) → Q M') : w_X12_tries L set (nI n) p2 iss M Q := by
  unfold w_X12_tries
  intro M1 e1 M2 e2 M3 e3 M4 e4 M5 e5 M6 e6 M7 e7 M8 e8 M9 e9 Ma ea Mb eb Mc ec Md ed Me ee
  have z0 : c14 M M 93 := ⟨fun a h1 h2 => absurd h1 (by omega), FJ.rf⟩
  have z := c14_s (c14_s (c14_s (c14_s (c14_s (c14_s (c14_s (c14_s (c14_s (c14_s (c14_s (c14_s (c14_s (c14_s z0 (by omega) e1) (by omega) e2) (by omega) e3) (by omega) e4) (by omega) e5) (by omega) e6) (by omega) e7) (by omega) e8) (by omega) e9) (by omega) ea) (by omega) eb) (by omega) ec) (by omega) ed) (by omega) ee
  have z : c14 M Me 107 := z
  have Fe : FJ PT M Me := z.2.mono (fun a k q => by unfold PT; omega)
  have h93 : tn (mi M 93 0) = t := by rw [rM_93 (s := 0), hX.1, ho.2.1, tn_nI (by omega)]
  refine m_171 Fe (fun Mf F1 k1 r1 b1 => m_280 F1 (fun Mg F2 k2 r2 => m_364 F2 (fun Mh F3 k3 r3 => m_397 F3 (fun Mi F4 k4 r4 => m_450 hX.2.2.2.2.2.2.2.2.1 F4 (fun i hi => F4.1 119 i (by unfold PT; omega)) (fun Mj F5 k5 r5 => ?_)))))
  have cp : cpW M set Mj := by
    refine ⟨fun a h1 h2 => ?_, fun a i h1 h2 h3 => ?_, fun i h1 => ?_, fun a i h1 h2 h3 => ?_, fun i h1 => ?_, fun a i h1 h2 => ?_, r5⟩
    · rw [k5 a _ (by omega), k4 a _ (by omega) (by omega), k3 a _ (by omega), k2 a _ (by omega), k1 a _ (by omega)]; exact z.1 a h1 h2
    · rw [k5 a _ (by omega), k4 a _ (by omega) (by omega), k3 a _ (by omega), k2 a _ (by omega)]; exact r1 a i h1 h2 h3
    · rw [k5 111 _ (by omega), k4 111 _ (by omega) (by omega), k3 111 _ (by omega), k2 111 _ (by omega)]; exact b1 i h1
    · rw [k5 a _ (by omega), k4 a _ (by omega) (by omega), k3 a _ (by omega)]; exact r2 a i h1 h2 h3
    · rw [k5 116 _ (by omega), k4 116 _ (by omega) (by omega)]; exact r3 i h1
    · rw [k5 a _ (by omega)]; exact r4 a i h1 h2
  have hX1 := cpW_x cp F5 hX (by omega)
  have e127 : (fun d => if p2 = 0 then mi Mj 127 d else 3) = fun d => if p2 = 0 then mi M 127 d else 3 := funext fun d => by rw [F5.1 127 d (by unfold PT; omega)]
  refine m_runH hX1 (ok_bk ho) ht hi hn (fun M' a1 a2 a3 => h M' ?_ (F5.tr a2) ?_)
  · rw [e127] at a1
    exact a1
  · rw [e127] at a3
    exact a3
theorem bk_self {t : Nat} {X : WS} (ho : okX t X) (hz : zrX X.1) : bkX X (nI (bsN (brF X.1) (tn (X.1 28 0)))) = X := by
  have n10 := ho.1.2.1
  have b0 : bsN (brF X.1) (tn (X.1 28 0)) < 2 ^ tn (X.1 28 0) := bsN_lt _
  have p2 := p31 n10
  have : bkF X.1 (nI (bsN (brF X.1) (tn (X.1 28 0)))) = X.1 := by
    funext f i
    unfold bkF
    by_cases c : f = 111 ∧ i < 10
    · rw [if_pos c, bt_nI (by omega) (by omega), bsN_bit, c.1]
      by_cases d : i < tn (X.1 28 0)
      · rcases (ho.1.2.2.2.2.2.2.2.2.2.2.2 i c.2).2.2 with q | q
        · rw [q, if_neg]; unfold brF; simp [q]
        · rw [q, if_pos]; unfold brF; simp [q, d]
      · rw [if_neg (by simp [d]), hz 111 i (by unfold tlS; omega)]
    · rw [if_neg c]
  unfold bkX
  rw [this]
theorem j_foretold {p0 : Int32} (hp : BZ p0) (h : RR L M) : w_X11_foretold L p0 M (fun a M1 => w_X12_foretold L p0 M1 (fun b M2 => a = b ∧ RR L M2)) := by
  obtain ⟨t, X, h⟩ := h
  have V := RV_of h
  obtain ⟨⟨h1, h2, h3, h4, h5, h6, -⟩, -⟩ := h
  have hw : IsW 36 := Or.inr rfl
  have n10 := h4.1.2.1
  -- the reference
  have ref : ∀ (a : Int32) (M1 : Mem), RV L M1 t X (fun d => mi M 127 d) → a = foG (fun d => if p0 = 0 then mi M 127 d else 3) t X 60 0 → w_X12_foretold L p0 M1 (fun b M2 => a = b ∧ RR L M2) := fun a M1 r1 ea => by
    unfold w_X12_foretold
    intro M2 e2
    have r2 : RV L M2 t X (fun d => mi M 127 d) := RV_cg r1 (fun a k z => by rw [e2, mi_si, if_neg (fun w => z (by unfold PN; omega))]) (fun a k => by rw [e2]; rfl)
    refine m_brS (T := t) (by rw [r2.1.1.2.2.1.1]; exact h4.1) ?_
    rw [r2.1.1.2.2.1.1, show (60 : Int32) = nI 60 from rfl]
    refine m_triesH r2.1.1.2.2.1 h4 h1 (Or.inl rfl) (by decide) (fun M3 y1 F3 H3 x5 e5 => ?_)
    rw [bk_self h4 h5] at y1 H3
    have etr : ∀ i, trI (fun d => if p0 = 0 then mi M2 127 d else 3) (-1) t X i = trI (fun d => if p0 = 0 then mi M 127 d else 3) (-1) t X i := fun i => tr_cg (fun d d1 d2 => by rw [(r2.2 d d1 d2).2]) i
    rw [etr] at y1
    have r3 : RV L M3 t X (fun d => mi M 127 d) := RV_PT r2 F3
    have e93 : mi M3 93 1 = nI (t + min 60 (720 - t)) := by
      rw [rM_93 (s := 1), y1.1, tr_cap h1 60]
      exact (ok_tr h4 (Or.inl rfl) (min 60 (720 - t)) (by omega)).2.1
    have m93 := (RX_n r3.1).2.2.2.1
    rw [m93, nI_1] at e5
    refine LP2_c0 (t + 1) (t + 61) (fun d M' => M' = M3 ∧ foG (fun d => if p0 = 0 then mi M 127 d else 3) t X 60 0 = foG (fun d => if p0 = 0 then mi M 127 d else 3) t X (61 + t - d) (d - (t + 1))) e5 (by omega) ⟨rfl, by rw [show 61 + t - (t + 1) = 60 by omega, show t + 1 - (t + 1) = 0 by omega]⟩ ?_
    intro d M4 hd hd1 ⟨e4, hf⟩ K hK
    subst e4
    unfold w_X12_foretold_26
    rw [e93, nI_lt' (by omega) (by omega)]
    refine ⟨fun c => ⟨?_, t, X, r3.1⟩, fun c => ?_⟩
    · rw [ea, hf]
      by_cases q : 61 + t - d = 0
      · rw [q]; rfl
      · rw [show 61 + t - d = (60 + t - d) + 1 by omega, foG_s, if_neg (by omega)]
    · have hH := H3 (d - (t + 1)) (by omega) (by omega)
      rw [etr, show 721 + (t + (d - (t + 1)) + 1) = 721 + d by omega] at hH
      rw [show (721 : Int32) = nI 721 from rfl, nI_add, tn_nI (n := 721 + d) (by omega), hH]
      have hs : foG (fun d => if p0 = 0 then mi M 127 d else 3) t X (61 + t - d) (d - (t + 1)) = if ((trI (fun d => if p0 = 0 then mi M 127 d else 3) (-1) t X (d - (t + 1) + 1)).1 119 0 &&& 1) = 1 then nI d else foG (fun d => if p0 = 0 then mi M 127 d else 3) t X (61 + t - (d + 1)) (d + 1 - (t + 1)) := by
        rw [show 61 + t - d = (61 + t - (d + 1)) + 1 by omega, foG_s, if_pos (by omega), show t + (d - (t + 1)) + 1 = d by omega, show d - (t + 1) + 1 = d + 1 - (t + 1) by omega]
      have hz : BZ ((trI (fun d => if p0 = 0 then mi M 127 d else 3) (-1) t X (d - (t + 1) + 1)).1 119 0 &&& 1) := by
        rw [← hH]
        exact y1.2.2.2.2.2.2.2.2.1 d (by omega)
      refine ⟨vp_in_nI (by omega) (by decide), fun c2 x hx => ?_, fun c2 => ⟨?_, t, X, r3.1⟩⟩
      · rw [hx, nI_1]
        refine hK (by omega) _ ⟨rfl, ?_⟩
        rw [hf, hs, c2, if_neg (by decide)]
      · rw [ea, hf, hs, if_pos]
        rcases hz with q | q
        · exact absurd q c2
        · exact q
  -- the class
  unfold w_X11_foretold
  refine c_copy h2 h4 h5 h6 (fun M1 x1 x14 i1 q1 z1 => ?_)
  refine LP2_c0 0 60 (fun i M' => t + i ≤ 720 ∧ wsC L 36 M' (trI (fun d => if p0 = 0 then mi M 127 d else 3) (-1) t X i) ∧ mi M' 36 14 = -1 ∧ (∀ a k, ¬ (36 ≤ a ∧ a < 71 ∧ a ≠ 40) → mi M' a k = mi M a k) ∧ (∀ a k, ¬ (a = 36 ∧ 9 ≤ k ∧ k ≤ 12) → mp M' a k = mp M a k) ∧
    foG (fun d => if p0 = 0 then mi M 127 d else 3) t X 60 0 = foG (fun d => if p0 = 0 then mi M 127 d else 3) t X (60 - i) i) rfl (by decide) ⟨by omega, x1, x14, i1, q1, rfl⟩ ?_
  intro i M2 hi _ ⟨hti, x2, k2, i2, q2, hf⟩ K hK
  have ok2 := ok_tr (wd := fun d => if p0 = 0 then mi M 127 d else 3) h4 (Or.inl rfl) i hti
  have vv : ∀ (M' : Mem) (j : Nat), t + j ≤ 720 → wsC L 36 M' (trI (fun d => if p0 = 0 then mi M 127 d else 3) (-1) t X j) → (∀ a k, ¬ (36 ≤ a ∧ a < 71 ∧ a ≠ 40) → mi M' a k = mi M a k) → (∀ a k, ¬ (a = 36 ∧ 9 ≤ k ∧ k ≤ 12) → mp M' a k = mp M a k) → RV L M' t X (fun d => mi M 127 d) := fun M' j hj y1 y2 y3 => by
    have s28 := tr_28 (wd := fun d => if p0 = 0 then mi M 127 d else 3) h4 h5 (Or.inl rfl) j hj
    have z' := z36_ws y1 s28.1
    rw [s28.2.1, s28.2.2] at z'
    exact RV_36 V y2 y3 z'
  have e0 : mi M2 36 0 = nI (t + i) := by rw [rC_93 (w := 36), x2.1]; exact ok2.2.1
  unfold w_X11_foretold_13
  rw [show (60 : Int32) = nI 60 from rfl, nI_lt' (by omega) (by omega), e0, show (720 : Int32) = nI 720 from rfl, nI_lt' (by omega) (by omega), nI_1]
  refine ⟨fun hlt => ⟨fun hd => ?_, fun hd => ?_⟩, fun hge => ?_⟩
  · have go : ∀ w : Int32, w = (if p0 = 0 then mi M 127 (t + i + 1) else 3) → w_X11_foretold_57 L p0 K (nI i) w M2 (fun a M1 => w_X12_foretold L p0 M1 (fun b M2 => a = b ∧ RR L M2)) := fun w ew => by
      unfold w_X11_foretold_57
      refine c_pass hw x2 ok2.1 hd ok2.2.1 k2 (Or.inl rfl) (fun M3 x3 F3 k3 => ?_)
      have et : trI (fun d => if p0 = 0 then mi M 127 d else 3) (-1) t X (i + 1) = dayF (if p0 = 0 then mi M 127 (t + i + 1) else 3) (-1) (trI (fun d => if p0 = 0 then mi M 127 d else 3) (-1) t X i) := by
        show (if t + i < 720 then _ else _) = _
        rw [if_pos hd]
      rw [ew, ← et] at x3
      have ok3 := ok_tr (wd := fun d => if p0 = 0 then mi M 127 d else 3) h4 (Or.inl rfl) (i + 1) (by omega)
      have i3 : ∀ a k, ¬ (36 ≤ a ∧ a < 71 ∧ a ≠ 40) → mi M3 a k = mi M a k := fun a k z => by rw [F3.1 a k (fun y => by unfold PG at y; omega), i2 a k z]
      have q3 : ∀ a k, ¬ (a = 36 ∧ 9 ≤ k ∧ k ≤ 12) → mp M3 a k = mp M a k := fun a k z => by rw [F3.2.1 a k (fun y => by omega), q2 a k z]
      have r3 := vv M3 (i + 1) (by omega) x3 i3 q3
      have e3 : mi M3 36 0 = nI (t + i + 1) := by rw [rC_93 (w := 36), x3.1]; exact ok3.2.1
      have e19 : mi M3 39 4 = (trI (fun d => if p0 = 0 then mi M 127 d else 3) (-1) t X (i + 1)).1 119 0 := by rw [show (39 : Nat) = 36 + 3 from rfl, rC_119 (w := 36), x3.1]
      have hs : foG (fun d => if p0 = 0 then mi M 127 d else 3) t X (60 - i) i = if ((trI (fun d => if p0 = 0 then mi M 127 d else 3) (-1) t X (i + 1)).1 119 0 &&& 1) = 1 then nI (t + i + 1) else foG (fun d => if p0 = 0 then mi M 127 d else 3) t X (60 - (i + 1)) (i + 1) := by
        rw [show 60 - i = (60 - (i + 1)) + 1 by omega, foG_s, if_pos hd]
      unfold w_X0_wasHungry
      rw [e19]
      intro x ex
      by_cases c : ((trI (fun d => if p0 = 0 then mi M 127 d else 3) (-1) t X (i + 1)).1 119 0 &&& 1) = 1
      · rw [if_pos c] at ex
        subst ex
        refine ⟨fun z => absurd z (by decide), fun _ => ref _ M3 r3 ?_⟩
        rw [e3, hf, hs, if_pos c]
      · rw [if_neg c] at ex
        subst ex
        refine ⟨fun _ y ey => ?_, fun z => absurd rfl z⟩
        rw [ey, nI_1]
        refine hK hlt M3 ⟨by omega, x3, k3, i3, q3, ?_⟩
        rw [hf, hs, if_neg c]
    refine ⟨fun c => c_wind (by omega) (by omega) (go _ ?_), fun c => go _ ?_⟩
    · rw [if_pos c]
      have r2 := vv M2 i hti x2 i2 q2
      exact (r2.2 _ (by omega) (by omega)).1
    · rw [if_neg c]
  · refine ref _ M2 (vv M2 i hti x2 i2 q2) ?_
    rw [hf, show 60 - i = (60 - (i + 1)) + 1 by omega, foG_s, if_neg hd]
  · have : i = 60 := by omega
    subst this
    exact ref _ M2 (vv M2 60 hti x2 i2 q2) hf.symm
end FOR
