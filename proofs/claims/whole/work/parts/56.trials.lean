-- LEVEL 3, part 40: trials on both sides
theorem bit_and (a b : Nat) : nI a &&& nI b = nI (a &&& b) := by
  apply Int32.toBitVec_inj.1
  show BitVec.ofNat 32 a &&& BitVec.ofNat 32 b = BitVec.ofNat 32 (a &&& b)
  apply BitVec.eq_of_getLsbD_eq
  intro i hi
  simp [hi]
theorem bit_or (a b : Nat) : nI a ||| nI b = nI (a ||| b) := by
  apply Int32.toBitVec_inj.1
  show BitVec.ofNat 32 a ||| BitVec.ofNat 32 b = BitVec.ofNat 32 (a ||| b)
  apply BitVec.eq_of_getLsbD_eq
  intro i hi
  simp [hi]
theorem bit_xor (a b : Nat) : nI a ^^^ nI b = nI (a ^^^ b) := by
  apply Int32.toBitVec_inj.1
  show BitVec.ofNat 32 a ^^^ BitVec.ofNat 32 b = BitVec.ofNat 32 (a ^^^ b)
  apply BitVec.eq_of_getLsbD_eq
  intro i hi
  simp [hi]
theorem bit_low (n : Nat) : nI n &&& 1 = nI (n % 2) := by
  rw [show (1 : Int32) = nI 1 from rfl, bit_and, show (1 : Nat) = 2 ^ 1 - 1 from rfl, Nat.and_two_pow_sub_one_eq_mod]
theorem sh_bit {s i : Nat} (hs : s < 2 ^ 31) (hi : i < 31) : (jshr (nI s) (nI i) &&& 1) = if s.testBit i = true then 1 else 0 := by
  rw [jshr_nI hs hi, bit_low]
  have e : s.testBit i = decide (s / 2 ^ i % 2 = 1) := Nat.testBit_eq_decide_div_mod_eq
  rw [e]
  rcases Nat.mod_two_eq_zero_or_one (s / 2 ^ i) with q | q
  · rw [q]; rfl
  · rw [q]; rfl
theorem bt_nI {s i : Nat} (hs : s < 2 ^ 31) (hi : i < 31) : btF (nI s) i = if s.testBit i = true then 1 else 0 := by
  unfold btF
  rw [sh_bit hs hi]
  by_cases q : s.testBit i = true
  · rw [if_pos q, if_pos rfl]
  · rw [if_neg q, if_neg (by decide)]
theorem bt_out {s n i : Nat} (hs : s < 2 ^ n) (hn : n ≤ 10) (hi : n ≤ i) (h10 : i < 10) : btF (nI s) i = 0 := by
  have p2 := p31 hn
  rw [bt_nI (by omega) (by omega), if_neg]
  rw [Nat.testBit_lt_two_pow (Nat.lt_of_lt_of_le hs (Nat.pow_le_pow_right (by decide) hi))]; decide
def rmB (s o : Nat) : Nat := s &&& (2 ^ o ^^^ 4294967295)
theorem rm_eq {s o : Nat} (ho : o < 31) : nI s &&& (jshl 1 (nI o) ^^^ -1) = nI (rmB s o) := by
  rw [jshl_1 ho, show (-1 : Int32) = nI 4294967295 from by decide, bit_xor, bit_and]; rfl
theorem ad_eq {s o : Nat} (ho : o < 31) : nI s ||| jshl 1 (nI o) = nI (s ||| 2 ^ o) := by
  rw [jshl_1 ho, bit_or]
theorem rm_lt {s o n : Nat} (hs : s < 2 ^ n) : rmB s o < 2 ^ n := Nat.lt_of_le_of_lt Nat.and_le_left hs
theorem ad_lt {s o n : Nat} (hs : s < 2 ^ n) (ho : o < n) : s ||| 2 ^ o < 2 ^ n := Nat.or_lt_two_pow hs (Nat.pow_lt_pow_right (by decide) ho)
theorem rm_same {s o n : Nat} (hs : s < 2 ^ n) (hn : n ≤ 10) (h : s.testBit o = false) : rmB s o = s := by
  apply Nat.eq_of_testBit_eq
  intro i
  unfold rmB
  rw [Nat.testBit_and, Nat.testBit_xor, Nat.testBit_two_pow, show (4294967295 : Nat) = 2 ^ 32 - 1 from rfl, Nat.testBit_two_pow_sub_one]
  by_cases c : i < n
  · by_cases d : o = i
    · subst d; rw [h]; rfl
    · simp [d, show i < 32 by omega]
  · rw [Nat.testBit_lt_two_pow (Nat.lt_of_lt_of_le hs (Nat.pow_le_pow_right (by decide) (by omega)))]; rfl
-- both sides on the same winds
def RV (L : Lay) (M : Mem) (t : Nat) (X : WS) (wd : Nat → Int32) : Prop := RX L M t X ∧ ∀ d, 1 ≤ d → d ≤ 720 → wdC M d = wd d ∧ mi M 127 d = wd d
theorem RV_of {L : Lay} {M : Mem} {t : Nat} {X : WS} (h : RX L M t X) : RV L M t X (fun d => mi M 127 d) := by
  refine ⟨h, fun d d1 d2 => ⟨?_, rfl⟩⟩
  obtain ⟨nw, a1, a2, a3, a4, a5⟩ := h.2.1
  have el := nI_ltI (a := nw) (b := d) (by omega) (by omega)
  unfold wdC
  rw [a2]
  by_cases c : nw < d
  · rw [if_pos (el.mpr c)]; exact (a5 d c d2).symm
  · rw [if_neg (fun y => c (el.mp y)), a4 (d - 1) (by omega), show d - 1 + 1 = d by omega]
theorem RV_cg {L : Lay} {M M' : Mem} {t : Nat} {X : WS} {wd : Nat → Int32} (h : RV L M t X wd) (hi : ∀ a k, ¬ PN a k → mi M' a k = mi M a k) (hp : ∀ a k, mp M' a k = mp M a k) : RV L M' t X wd := by
  refine ⟨RX_cg h.1 hi hp, fun d d1 d2 => ?_⟩
  have := h.2 d d1 d2
  unfold wdC at *
  rw [hi 0 7 (by unfold PN; omega), hi 90 _ (by unfold PN; omega), hi 127 _ (by unfold PN; omega)]; exact this
theorem z36_ws {L : Lay} {M : Mem} {Y : WS} (h : wsC L 36 M Y) (hz : zrX Y.1) : z36 (tn (Y.1 28 0)) (tn (Y.1 34 0)) M := by
  intro f i h1 h2
  by_cases c : f = 109
  · subst c
    have : tn (Y.1 28 0) ≤ i := by unfold tlS at h1; omega
    exact h.2.2.2.2.2 i this h2
  · rw [← vwC_at (w := 36) c h2, h.1]; exact hz f i h1
theorem RX_36 {L : Lay} {M M' : Mem} {t : Nat} {X : WS} (h : RX L M t X) (hi : ∀ a k, ¬ (36 ≤ a ∧ a < 71 ∧ a ≠ 40) → mi M' a k = mi M a k) (hp : ∀ a k, ¬ (a = 36 ∧ 9 ≤ k ∧ k ≤ 12) → mp M' a k = mp M a k) (hz : z36 (tn (X.1 28 0)) (tn (X.1 34 0)) M') : RX L M' t X := by
  obtain ⟨⟨h1, h2, h3, h4, h5, h6, h7, h8, h9⟩, hR⟩ := h
  refine ⟨⟨h1, ?_, ?_, h4, h5, hz, ?_, ?_, h9⟩, RT_cg hR (Nat.le_refl _) (fun a k q => hi a k (by unfold PRt at q; omega)) (fun a k q => hp a k (by omega))⟩
  · refine wsC_to h2 rfl ?_ (fun a k q => hi a k (by omega)) (fun a k q => hp a k (by omega)) (fun j a b => ?_)
    · rw [vwC_eq (fun a k q1 q2 => hi a k (by omega)) (hp 1 11 (by omega))]; exact h2.1
    · rw [hi _ _ (by unfold oA; omega)]; exact h2.2.2.2.2.2 j a b
  · refine wsM_to h3 rfl ?_ (fun a k q => hi a k (by omega)) (by rw [hi 92 28 (by omega)]; exact Nat.le_refl _) (fun i a b => ?_)
    · rw [vwM_cg (fun a k q1 _ _ _ _ _ _ _ _ _ _ _ _ _ => hi a k (by omega))]; exact h3.1
    · rw [hi _ _ (by omega)]; exact h3.2.2.2.2.2.2.2.2.2.2 i a b
  · rw [hi _ _ (by omega)]; exact h7
  · unfold HB; rw [hi _ _ (by omega)]; exact h8
theorem RX_PT {L : Lay} {M M' : Mem} {t : Nat} {X : WS} (h : RX L M t X) (hF : FJ PT M M') : RX L M' t X := by
  obtain ⟨⟨h1, h2, h3, h4, h5, h6, h7, h8, h9⟩, hR⟩ := h
  refine ⟨⟨h1, ?_, ?_, h4, h5, ?_, ?_, ?_, h9⟩, RT_cg hR (Nat.le_refl _) (fun a k q => hF.1 a k (by unfold PRt at q; unfold PT; omega)) (fun a k q => hF.mp)⟩
  · refine wsC_to h2 rfl ?_ (fun a k q => hF.1 a k (by unfold PT; omega)) (fun a k q => hF.mp) (fun j a b => ?_)
    · rw [vwC_eq (fun a k q1 q2 => hF.1 a k (by unfold PT; omega)) hF.mp]; exact h2.1
    · rw [hF.1 _ _ (by unfold PT oA; omega)]; exact h2.2.2.2.2.2 j a b
  · obtain ⟨x1, x2, x3, x4, x5, x6, x7, x8, x9, xa, xb⟩ := h3
    refine ⟨?_, ?_, ?_, x4, x5, ?_, ?_, ?_, fun d hd => ?_, fun j i hj a b => ?_, fun i a b => ?_⟩
    · have ht : tn (mi M 93 0) ≤ 720 := by rw [rM_93 (s := 0), x1]; exact h4.1.2.2.2.2.2.1
      rw [vwM_cg (fun a k q1 q2 q3 q4 q5 q6 q7 q8 q9 qa qb qc qd qe => hF.1 a k (by unfold PT; omega))]; exact x1
    · rw [hF.1 103 _ (by unfold PT; omega)]; exact x2
    · rw [hF.1 104 _ (by unfold PT; omega)]; exact x3
    · rw [hF.1 102 _ (by unfold PT; omega), hF.1 92 40 (by unfold PT; omega), hF.1 92 41 (by unfold PT; omega)]; exact x6
    · rw [hF.1 99 _ (by unfold PT; omega)]; exact opM_cg (fun a k q1 q2 => hF.1 a k (by unfold PT; omega)) x7
    · exact hdM_cg (fun a k q1 q2 => hF.1 a k (by unfold PT; omega)) (hF.1 101 _ (by unfold PT; omega)) x8
    · rw [hF.1 119 _ (by unfold PT; omega)]; exact x9 d hd
    · rw [hF.1 117 _ (by unfold PT; omega), hF.1 118 _ (by unfold PT; omega)]
      rw [hF.1 92 28 (by unfold PT; omega)] at a
      exact xa j i hj a b
    · rw [hF.1 109 _ (by unfold PT; omega)]; exact xb i a b
  · exact z36_to h6 (Nat.le_refl _) (Nat.le_refl _) (fun a j q1 q2 => hF.1 a j (by unfold PT; omega))
  · rw [hF.1 _ _ (by unfold PT; omega)]; exact h7
  · unfold HB; rw [hF.1 _ _ (by unfold PT; omega)]; exact h8
theorem RV_36 {L : Lay} {M M' : Mem} {t : Nat} {X : WS} {wd : Nat → Int32} (h : RV L M t X wd) (hi : ∀ a k, ¬ (36 ≤ a ∧ a < 71 ∧ a ≠ 40) → mi M' a k = mi M a k) (hp : ∀ a k, ¬ (a = 36 ∧ 9 ≤ k ∧ k ≤ 12) → mp M' a k = mp M a k) (hz : z36 (tn (X.1 28 0)) (tn (X.1 34 0)) M') : RV L M' t X wd := by
  refine ⟨RX_36 h.1 hi hp hz, fun d d1 d2 => ?_⟩
  have := h.2 d d1 d2
  unfold wdC at *
  rw [hi 0 7 (by omega), hi 90 _ (by omega), hi 127 _ (by omega)]; exact this
theorem RV_PT {L : Lay} {M M' : Mem} {t : Nat} {X : WS} {wd : Nat → Int32} (h : RV L M t X wd) (hF : FJ PT M M') : RV L M' t X wd := by
  refine ⟨RX_PT h.1 hF, fun d d1 d2 => ?_⟩
  have := h.2 d d1 d2
  unfold wdC at *
  rw [hF.1 0 7 (by unfold PT; omega), hF.1 90 _ (by unfold PT; omega), hF.1 127 _ (by unfold PT; omega)]; exact this
theorem tr_cap {wd : Nat → Int32} {iss : Int32} {t : Nat} {X : WS} (ht : t ≤ 720) (n : Nat) : trI wd iss t X n = trI wd iss t X (min n (720 - t)) := by
  by_cases c : n ≤ 720 - t
  · rw [Nat.min_eq_left c]
  · rw [Nat.min_eq_right (by omega)]; exact tr_end (by omega) n (by omega)
theorem zr_bk {X : WS} {set : Int32} (hz : zrX X.1) (hb : ∀ i, tn (X.1 28 0) ≤ i → i < 10 → btF set i = 0) : zrX (bkX X set).1 := by
  intro f i q
  show bkF X.1 set f i = 0
  have q : tlS (tn (bkF X.1 set 28 0)) (tn (bkF X.1 set 34 0)) f i := q
  rw [bkF_f (f := 28) (by decide), bkF_f (f := 34) (by decide)] at q
  unfold bkF
  by_cases c : f = 111 ∧ i < 10
  · rw [if_pos c]; exact hb i (by unfold tlS at q; omega) c.2
  · rw [if_neg c]; exact hz f i q
section TRI
variable {L : Lay} {M : Mem}
theorem c_tri {t n : Nat} {X : WS} {wd : Nat → Int32} {set iss : Int32} {Q : Mem → Prop} (h : RV L M t X wd) (hb : ∀ i, tn (X.1 28 0) ≤ i → i < 10 → btF set i = 0) (hi : iss = -1 ∨ ∃ k, k ≤ 9999 ∧ iss = nI k) (hn : n < 2 ^ 30)
    (hQ : ∀ M', RV L M' t X wd → (∀ o, o < 10 → mi M' (oA 36 o) 9 = (trI wd iss t (bkX X set) n).1 110 o) → mi M' 36 2 = nI (tn (X.1 28 0)) → (∀ k, mi M' 91 k = mi M 91 k) → Q M') : w_X11_runTrial L set iss (nI n) M Q := by
  obtain ⟨⟨h1, h2, h3, h4, h5, h6, -⟩, -⟩ := h.1
  have ez := zr_bk h5 hb
  have etr : trI (wdC M) iss t (bkX X set) n = trI wd iss t (bkX X set) n := tr_cg (fun d d1 d2 => (h.2 d d1 d2).1) n
  refine c_trial h2 h4 h1 h5 h6 hb hi hn (fun M' y1 y2 y3 y4 => ?_)
  rw [etr] at y1
  have s28 := tr_28 (wd := wd) (ok_bk (set := set) h4) ez hi (min n (720 - t)) (by omega)
  rw [← tr_cap h1 n] at s28
  have b28 : (bkX X set).1 28 0 = X.1 28 0 := bkF_f (S := X.1) (set := set) (f := 28) (i := 0) (by decide)
  have b34 : (bkX X set).1 34 0 = X.1 34 0 := bkF_f (S := X.1) (set := set) (f := 34) (i := 0) (by decide)
  have z' := z36_ws y1 s28.1
  rw [s28.2.1, s28.2.2, b28, b34] at z'
  refine hQ M' (RV_36 h y2 y3 z') (fun o ho => ?_) ?_ (fun k => y2 91 k (by omega))
  · rw [rC_110 (w := 36) ho, y1.1]
  · rw [rC_28 (w := 36), y1.1, s28.2.1, b28]; exact h4.1.1
theorem m_tri {t n : Nat} {X : WS} {wd : Nat → Int32} {set iss : Int32} {Q : Mem → Prop} (h : RV L M t X wd) (hi : iss = -1 ∨ ∃ k, k ≤ 9999 ∧ iss = nI k) (hn : n < 2 ^ 30)
    (hQ : ∀ M', RV L M' t X wd → (∀ o, o < 10 → mi M' 110 (10 + o) = (trI wd iss t (bkX X set) n).1 110 o) → mi M' 92 0 = mi M 92 0 → Q M') : w_X12_tries L set (nI n) 0 iss M Q := by
  obtain ⟨⟨h1, h2, h3, h4, h5, h6, -⟩, -⟩ := h.1
  refine m_tries h3 h4 h1 hi hn (fun M' y1 F1 => ?_)
  have etr : trI (fun d => if (0 : Int32) = 0 then mi M 127 d else 3) iss t (bkX X set) n = trI wd iss t (bkX X set) n := tr_cg (fun d d1 d2 => by rw [if_pos rfl]; exact (h.2 d d1 d2).2) n
  rw [etr] at y1
  refine hQ M' (RV_PT h F1) (fun o ho => ?_) (F1.1 92 0 (by unfold PT; omega))
  rw [show 10 + o = 10 * 1 + o from rfl, rM_110 (s := 1) ho, y1.1]
-- what would be gained
def gnF (wd : Nat → Int32) (t : Nat) (X : WS) (n s o : Nat) : Int32 := (trI wd (-1) t (bkX X (nI s)) n).1 110 o
theorem RX_g {t o : Nat} {X : WS} (h : RX L M t X) (ho : o < 10) : mi M (oA 1 o) 9 = X.1 110 o ∧ mi M 110 o = X.1 110 o := by
  refine ⟨by rw [rC_110 ho, h.1.2.1.1], ?_⟩
  have := rM_110 (s := 0) (i := o) (M := M) ho
  rw [Nat.mul_zero, Nat.zero_add] at this
  rw [this, h.1.2.2.1.1]
theorem hb_of {t s : Nat} {X : WS} (h : RX L M t X) (hs : s < 2 ^ tn (X.1 28 0)) : ∀ i, tn (X.1 28 0) ≤ i → i < 10 → btF (nI s) i = 0 := fun i h1 h2 => bt_out hs h.1.2.2.2.1.1.2.1 h1 h2
theorem c_wi {t n s o : Nat} {X : WS} {wd : Nat → Int32} {Q : Int32 → Mem → Prop} (h : RV L M t X wd) (hs : s < 2 ^ tn (X.1 28 0)) (ho : o < tn (X.1 28 0)) (hn : n ≤ 60)
    (hQ : ∀ M', RV L M' t X wd → Q (gnF wd t X n s o - X.1 110 o) M') : w_X11_runTrial L (nI s) (-1) (nI n) M (fun M10 => vp_in (nI o) 10 ∧ Q (mi M10 (oA 36 (tn (nI o))) 9 - mi M10 (oA 1 (tn (nI o))) 9) M10) := by
  have n10 := h.1.1.2.2.2.1.1.2.1
  refine c_tri h (hb_of h.1 hs) (Or.inl rfl) (by omega) (fun M' r1 r2 _ _ => ⟨vp_in_nI (by omega) (by decide), ?_⟩)
  rw [tn_nI (n := o) (by omega), r2 o (by omega), (RX_g r1.1 (by omega)).1]
  exact hQ M' r1
theorem m_tp {t n s o : Nat} {X : WS} {wd : Nat → Int32} {Q : Int32 → Mem → Prop} (h : RV L M t X wd) (ho : o < tn (X.1 28 0)) (hn : n ≤ 60)
    (hQ : ∀ M', RV L M' t X wd → Q (if gnF wd t X n (rmB s o) o < gnF wd t X n (s ||| 2 ^ o) o then 1 else 0) M') : w_X12_isTempted L (nI s) (nI o) (nI n) M Q := by
  have n10 := h.1.1.2.2.2.1.1.2.1
  unfold w_X12_isTempted
  rw [rm_eq (by omega), ad_eq (by omega), show (10 : Int32) = nI 10 from rfl, nI_add, tn_nI (n := 10 + o) (by omega)]
  refine m_tri h (Or.inl rfl) (by omega) (fun M1 r1 r2 _ => ⟨vp_in_nI (by omega) (by decide), fun x3 e3 => m_tri r1 (Or.inl rfl) (by omega) (fun M2 r3 r4 _ x5 e5 => ?_)⟩)
  rw [r4 o (by omega), e3, r2 o (by omega)] at e5
  rw [e5]; exact hQ M2 r3
theorem j_tempted {p0 p1 p2 : Int32} (h : RR L M) : w_X11_tempted L p0 p1 p2 M (fun a M1 => w_X12_tempted L p0 p1 p2 M1 (fun b M2 => a = b ∧ RR L M2)) := by
  have h' := h
  obtain ⟨t, X, h⟩ := h
  obtain ⟨⟨n1, n2, n3⟩, -⟩ := RX_n h
  have no : ∀ M1 : Mem, M1 = si M 92 0 0 → RR L M1 := fun M1 e => by subst e; exact RR_th h'
  have bad : ∀ M1 : Mem, ¬ (isS (tn (X.1 28 0)) p0 ∧ isN (tn (X.1 28 0)) p1 ∧ wi p2 0 60) → M1 = M → w_X12_tempted L p0 p1 p2 M1 (fun b M2 => -1 = b ∧ RR L M2) := fun M1 q e2 => by
    subst e2
    unfold w_X12_tempted
    intro M2 e
    have n2' : mi M2 92 28 = nI (tn (X.1 28 0)) := by rw [e]; exact n2
    exact m_isSB n2' n3 (fun _ => ⟨rfl, no M2 e⟩) (fun r1 => m_ownB n2' n3 (fun _ => ⟨rfl, no M2 e⟩) (fun r2 => m_wiB (fun _ => ⟨rfl, no M2 e⟩) (fun r3 => absurd ⟨r1, r2, r3⟩ q)))
  unfold w_X11_tempted
  refine c_isSB n1 n3 (fun q => bad _ (fun z => q z.1) rfl) (fun q1 => c_ownB n1 n3 (fun q => bad _ (fun z => q z.2.1) rfl) (fun q2 => c_wiB (fun q => bad _ (fun z => q z.2.2) rfl) (fun q3 => ?_)))
  have q1' := q1
  have q2' := q2
  have q3' := q3
  obtain ⟨s, hs, rfl⟩ := q1
  obtain ⟨o, ho, rfl⟩ := q2
  obtain ⟨n, -, hn, rfl⟩ := wi_nI (a := 0) (b := 60) (by decide) (by decide) q3
  rw [rm_eq (by omega), ad_eq (by omega), tn_nI (n := o) (by omega)]
  have V := RV_of h
  refine c_tri V (hb_of h (rm_lt hs)) (Or.inl rfl) (by omega) (fun M1 r1 r2 _ _ => ⟨vp_in_nI (by omega) (by decide), fun x12 e12 => c_tri r1 (hb_of r1.1 (ad_lt hs ho)) (Or.inl rfl) (by omega) (fun M2 r3 r4 _ _ x14 e14 => ?_)⟩)
  rw [r4 o (by omega), e12, r2 o (by omega)] at e14
  unfold w_X12_tempted
  intro M3 e3
  have r5 : RV L M3 t X (fun d => mi M 127 d) := RV_cg r3 (fun a k z => by rw [e3, mi_si, if_neg (fun w => z (by unfold PN; omega))]) (fun a k => by rw [e3]; rfl)
  have n2' := (RX_n r5.1).1.2.1
  refine m_isSB n2' n3 (fun z => absurd q1' z) (fun _ => m_ownB n2' n3 (fun z => absurd q2' z) (fun _ => m_wiB (fun z => absurd q3' z) (fun _ => m_tp r5 ho hn (fun M4 r6 x13 e13 => ⟨?_, t, X, r6.1⟩))))
  rw [e14, e13]
  unfold gnF
  by_cases c : (trI (fun d => mi M 127 d) (-1) t (bkX X (nI (rmB s o))) n).1 110 o < (trI (fun d => mi M 127 d) (-1) t (bkX X (nI (s ||| 2 ^ o))) n).1 110 o
  · rw [if_pos c, if_neg (by decide)]
  · rw [if_neg c, if_pos rfl]
end TRI
