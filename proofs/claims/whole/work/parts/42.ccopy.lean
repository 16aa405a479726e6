-- LEVEL 3, part 26: the class's copies
def cO (x y : Nat) (M0 M : Mem) (n : Nat) : Prop := (∀ j, j < n → mi M x j = mi M0 y j) ∧ FJ (fun a k => a = x ∧ k < n) M0 M
theorem cO_s {x y n : Nat} {M0 M M' : Mem} (hne : x ≠ y) (h : cO x y M0 M n) (e : M' = si M x n (mi M y n)) : cO x y M0 M' (n + 1) := by
  refine ⟨fun j hj => ?_, ?_⟩
  · rw [e, mi_si]
    by_cases q : j = n
    · rw [if_pos ⟨rfl, q⟩, q]; exact h.2.1 y n (fun z => hne z.1.symm)
    · rw [if_neg (fun z => q z.2)]; exact h.1 j (by omega)
  · rw [e]
    exact (h.2.mono (fun a k q => ⟨q.1, by omega⟩)).si ⟨rfl, by omega⟩
theorem cO_0 {x y : Nat} {M : Mem} : cO x y M M 0 := ⟨fun j hj => absurd hj (by omega), FJ.rf⟩
theorem c_cpO {L : Lay} {x y : Nat} {M : Mem} {Q : Mem → Prop} (hne : x ≠ y) (hb : BZ (mi M y 5)) (h : ∀ M', cO x y M M' 12 → Q M') : w_X3_copyFrom L x y M Q := by
  unfold w_X3_copyFrom
  intro M1 e1 M2 e2 M3 e3 M4 e4 M5 e5
  have z5 : cO x y M M5 5 := cO_s hne (cO_s hne (cO_s hne (cO_s hne (cO_s hne cO_0 e1) e2) e3) e4) e5
  refine ⟨by rw [z5.2.1 y 5 (fun q => hne q.1.symm)]; exact hb, fun M6 e6 M7 e7 M8 e8 M9 e9 Ma ea Mb eb Mc ec => ?_⟩
  exact h Mc (cO_s hne (cO_s hne (cO_s hne (cO_s hne (cO_s hne (cO_s hne (cO_s hne z5 e6) e7) e8) e9) ea) eb) ec)
theorem c_cpC {L : Lay} {x y : Nat} {M : Mem} {Q : Mem → Prop} (hne : x ≠ y) (h : ∀ M', cO x y M M' 5 → Q M') : w_X0_copyFrom L x y M Q := by
  unfold w_X0_copyFrom
  intro M1 e1 M2 e2 M3 e3 M4 e4 M5 e5
  exact h M5 (cO_s hne (cO_s hne (cO_s hne (cO_s hne (cO_s hne cO_0 e1) e2) e3) e4) e5)
-- the breakers of a trial are set
theorem c_setB {L : Lay} {T w : Nat} {set : Int32} {M : Mem} {Q : Mem → Prop} (hg : gdT T (vwC w M)) (hz : ∀ i, tn (vwC w M 28 0) ≤ i → i < 10 → vwC w M 111 i = 0 ∧ btF set i = 0)
    (h : ∀ M', vwC w M' = bkF (vwC w M) set → FJ (PV w) M M' → Q M') : w_X10_setBreakers L w set M Q := by
  unfold w_X10_setBreakers
  have hg' := hg
  obtain ⟨n1, n2, -⟩ := hg'
  generalize hS : vwC w M = S at *
  refine LP2_c0 0 (tn (S 28 0)) (fun i M' => vwC w M' = (fun f j => if f = 111 ∧ j < i then btF set j else S f j) ∧ FJ (PV w) M M') rfl (Nat.zero_le _) ⟨by rw [hS]; funext f j; rw [if_neg (by omega)], FJ.rf⟩ ?_
  intro i M1 hi _ ⟨hv, hF⟩ K hK
  have eo : ∀ f j, f ≠ 111 → vwC w M1 f j = S f j := fun f j c => by rw [hv]; exact if_neg (fun q => c q.1)
  unfold w_X10_setBreakers_2
  rw [rC_28 (w := w), eo 28 0 (by decide)]
  refine ⟨fun hlt => ?_, fun hge => ?_⟩
  · rw [ltN n1 (by omega)] at hlt
    have hi10 : i < 10 := by omega
    rw [tn_nI (by omega)]
    refine ⟨vp_in_nI hi10 (by decide), fun x3 h3 M2 e2 x hx => ?_⟩
    have h3 : x3 = btF set i := h3
    rw [hx, nI_1]
    refine hK hlt M2 ⟨?_, by rw [e2]; exact hF.si (PV_o hi10)⟩
    rw [e2, h3, sC_111 hi10, hv]
    funext f j
    show (if f = 111 ∧ j = i then btF set i else if f = 111 ∧ j < i then btF set j else S f j) = _
    by_cases c : f = 111
    · by_cases d : j = i
      · rw [if_pos ⟨c, d⟩, if_pos ⟨c, by omega⟩, d]
      · rw [if_neg (fun q => d q.2)]
        by_cases g : j < i
        · rw [if_pos ⟨c, g⟩, if_pos ⟨c, by omega⟩]
        · rw [if_neg (fun q => g q.2), if_neg (by omega)]
    · rw [if_neg (fun q => c q.1), if_neg (fun q => c q.1), if_neg (fun q => c q.1)]
  · rw [ltN n1 (by omega)] at hge
    have ei : i = tn (S 28 0) := by omega
    subst ei
    refine h M1 ?_ hF
    rw [hv]
    funext f j
    show _ = if f = 111 ∧ j < 10 then btF set j else S f j
    by_cases c : f = 111 ∧ j < tn (S 28 0)
    · rw [if_pos c, if_pos ⟨c.1, by omega⟩]
    · rw [if_neg c]
      by_cases d : f = 111 ∧ j < 10
      · rw [if_pos d]
        have := hz j (by omega) d.2
        rw [this.2, d.1]; exact this.1
      · rw [if_neg d]
