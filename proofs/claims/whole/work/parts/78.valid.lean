-- LEVEL 3, part 62: whatIf, tried and look: what they answer where they may, and that the reference throws where they may not
section VAL
variable {L : Lay} {M : Mem}
theorem th_0 {t : Nat} {X : WS} (h : RX L M t X) {M1 : Mem} (e : M1 = si M 92 0 0) : RX L M1 t X ∧ mi M1 92 0 = 0 := ⟨by rw [e]; exact RX_si h (by unfold PN; omega), by rw [e, mi_si, if_pos ⟨rfl, rfl⟩]⟩
theorem th_1 {t : Nat} {X : WS} (h : RX L M t X) {M1 M2 : Mem} (e : M1 = si M 92 0 0) (e2 : M2 = si M1 92 0 1) : mi M2 92 0 = 1 ∧ RX L M2 t X := ⟨by rw [e2, mi_si, if_pos ⟨rfl, rfl⟩], by rw [e2]; exact RX_si (th_0 h e).1 (by unfold PN; omega)⟩
def vWi (X : WS) (p0 p1 p2 : Int32) : Prop := isS (tn (X.1 28 0)) p0 ∧ isN (tn (X.1 28 0)) p1 ∧ wi p2 0 60
def lkF (X : WS) (o : Nat) (p1 : Int32) : Int32 := if p1 = 0 then X.1 107 o else if p1 = 1 then X.1 108 o else if p1 = 2 then (if X.2.2.2.1 = none then -1 else X.1 109 o) else if p1 = 3 then X.1 110 o else if p1 = 4 then (if X.1 111 o = 0 then 0 else 1) else if p1 = 5 then X.1 120 o else if p1 = 6 then X.1 121 o else if p1 = 7 then X.1 122 o else if p1 = 8 then X.1 123 o else X.1 124 o
def vLk (X : WS) (p0 p1 : Int32) : Prop := isN (tn (X.1 28 0)) p0 ∧ wi p1 0 9
theorem n_whatIf {t : Nat} {X : WS} {p0 p1 p2 : Int32} {Q : Int32 → Mem → Prop} (h : RX L M t X) (v : ¬ vWi X p0 p1 p2) (hQ : ∀ M', mi M' 92 0 = 1 → RX L M' t X → Q 0 M') : w_X12_whatIf L p0 p1 p2 M Q := by
  obtain ⟨⟨n1, n2, n3⟩, -⟩ := RX_n h
  unfold w_X12_whatIf
  intro M1 e1
  have n2' : mi M1 92 28 = nI (tn (X.1 28 0)) := by rw [e1]; exact n2
  exact m_isSB n2' n3 (fun _ M2 e2 => hQ M2 (th_1 h e1 e2).1 (th_1 h e1 e2).2) (fun r1 => m_ownB n2' n3 (fun _ M2 e2 => hQ M2 (th_1 h e1 e2).1 (th_1 h e1 e2).2) (fun r2 => m_wiB (fun _ M2 e2 => hQ M2 (th_1 h e1 e2).1 (th_1 h e1 e2).2) (fun r3 => absurd ⟨r1, r2, r3⟩ v)))
theorem n_tried {t : Nat} {X : WS} {p0 : Int32} {Q : Int32 → Mem → Prop} (h : RX L M t X) (v : ¬ wi p0 0 9999) (hQ : ∀ M', mi M' 92 0 = 1 → RX L M' t X → Q 0 M') : w_X12_tried L p0 M Q := by
  unfold w_X12_tried
  intro M1 e1
  exact m_wiB (fun _ M2 e2 => hQ M2 (th_1 h e1 e2).1 (th_1 h e1 e2).2) (fun r3 => absurd r3 v)
theorem n_look {t : Nat} {X : WS} {p0 p1 : Int32} {Q : Int32 → Mem → Prop} (h : RX L M t X) (v : ¬ vLk X p0 p1) (hQ : ∀ M', mi M' 92 0 = 1 → RX L M' t X → Q 0 M') : w_X12_look L p0 p1 M Q := by
  obtain ⟨⟨n1, n2, n3⟩, -⟩ := RX_n h
  unfold w_X12_look
  intro M1 e1
  have n2' : mi M1 92 28 = nI (tn (X.1 28 0)) := by rw [e1]; exact n2
  exact m_ownB n2' n3 (fun _ M2 e2 => hQ M2 (th_1 h e1 e2).1 (th_1 h e1 e2).2) (fun r2 => m_wiB (fun _ M2 e2 => hQ M2 (th_1 h e1 e2).1 (th_1 h e1 e2).2) (fun r3 => absurd ⟨r2, r3⟩ v))
theorem j_whatIf {t : Nat} {X : WS} {p0 p1 p2 : Int32} (h : RX L M t X) (v : vWi X p0 p1 p2) : w_X11_whatIf L p0 p1 p2 M (fun a M1 => w_X12_whatIf L p0 p1 p2 M1 (fun b M2 => a = b ∧ mi M2 92 0 = 0 ∧ RR L M2)) := by
  obtain ⟨⟨n1, n2, n3⟩, -⟩ := RX_n h
  obtain ⟨v1, v2, v3⟩ := id v
  unfold w_X11_whatIf
  refine c_isSB n1 n3 (fun q => absurd v1 q) (fun q1 => c_ownB n1 n3 (fun q => absurd v2 q) (fun q2 => c_wiB (fun q => absurd v3 q) (fun q3 => ?_)))
  have q1' := q1
  have q2' := q2
  obtain ⟨s, hs, rfl⟩ := q1
  obtain ⟨o, ho, rfl⟩ := q2
  obtain ⟨n, -, hn, rfl⟩ := wi_nI (a := 0) (b := 60) (by decide) (by decide) q3
  refine c_wi (Q := fun a M1 => w_X12_whatIf L (nI s) (nI o) (nI n) M1 (fun b M2 => a = b ∧ mi M2 92 0 = 0 ∧ RR L M2)) (RV_of h) hs ho hn (fun M1 r1 => ?_)
  unfold w_X12_whatIf
  intro M3 e3
  have r5 : RV L M3 t X (fun d => mi M 127 d) := RV_cg r1 (fun a k z => by rw [e3, mi_si, if_neg (fun w => z (by unfold PN; omega))]) (fun a k => by rw [e3]; rfl)
  have n2' := (RX_n r5.1).1.2.1
  have z3 : mi M3 92 0 = 0 := by rw [e3, mi_si, if_pos ⟨rfl, rfl⟩]
  refine m_isSB n2' n3 (fun z => absurd q1' z) (fun _ => m_ownB n2' n3 (fun z => absurd q2' z) (fun _ => m_wiB (fun z => absurd q3 z) (fun _ => m_tri r5 (Or.inl rfl) (by omega) (fun M4 r6 g6 z6 => ?_))))
  rw [show (10 : Int32) = nI 10 from rfl, nI_add, tn_nI (n := 10 + o) (by omega), tn_nI (n := o) (by omega)]
  refine ⟨vp_in_nI (by omega) (by decide), vp_in_nI (by omega) (by decide), ?_, z6.trans z3, t, X, r6.1⟩
  rw [g6 o (by omega), (RX_g r6.1 (by omega)).2]; rfl
theorem j_tried {t : Nat} {X : WS} {p0 : Int32} (h : RX L M t X) (v : wi p0 0 9999) : w_X11_tried L p0 M (fun a M1 => w_X12_tried L p0 M1 (fun b M2 => a = b ∧ mi M2 92 0 = 0 ∧ RR L M2)) := by
  unfold w_X11_tried
  refine c_wiB (fun q => absurd v q) (fun q3 => ?_)
  obtain ⟨n, -, hn, rfl⟩ := wi_nI (a := 0) (b := 9999) (by decide) (by decide) q3
  refine c_gains (RV_of h) (Or.inr ⟨n, hn, rfl⟩) (fun M1 r1 => ?_)
  unfold w_X12_tried
  intro M3 e3
  have r5 : RV L M3 t X (fun d => mi M 127 d) := RV_cg r1 (fun a k z => by rw [e3, mi_si, if_neg (fun w => z (by unfold PN; omega))]) (fun a k => by rw [e3]; rfl)
  have z3 : mi M3 92 0 = 0 := by rw [e3, mi_si, if_pos ⟨rfl, rfl⟩]
  exact m_wiB (fun z => absurd q3 z) (fun _ => m_gains r5 (Or.inr ⟨n, hn, rfl⟩) (fun M4 r6 z6 => ⟨rfl, z6.trans z3, t, X, r6.1⟩))
theorem j_look {t : Nat} {X : WS} {p0 p1 : Int32} (h : RX L M t X) (v : vLk X p0 p1) : w_X11_look L p0 p1 M (fun a M1 => w_X12_look L p0 p1 M1 (fun b M2 => a = b ∧ mi M2 92 0 = 0 ∧ RR L M2)) := by
  obtain ⟨⟨n1, n2, n3⟩, -⟩ := RX_n h
  obtain ⟨v2, v3⟩ := id v
  obtain ⟨o, ho, rfl⟩ := id v2
  have o10 : o < 10 := by omega
  have pp := RX_p h
  have hx := h.1.2.1.1
  have hm := h.1.2.2.1.1
  have pos := h.1.2.2.2.1.2.2 o
  unfold w_X11_look
  refine c_ownB n1 n3 (fun q => absurd v2 q) (fun _ => c_wiB (fun q => absurd v3 q) (fun _ => ⟨vp_in_nI (by omega) (by decide), ?_⟩))
  rw [tn_nI (n := o) (by omega)]
  -- the reference's side, for each answer
  have C : ∀ k, k = 107 ∨ k = 108 ∨ k = 110 ∨ k = 111 ∨ k = 120 ∨ k = 121 ∨ k = 122 ∨ k = 123 ∨ k = 124 → mi M k o = X.1 k o := fun k q => by
    have z : ∀ f, mi M f (10 * 0 + o) = vwM 0 M f o → mi M f o = X.1 f o := fun f e => by
      rw [Nat.mul_zero, Nat.zero_add] at e; rw [e, hm]
    rcases q with rfl | rfl | rfl | rfl | rfl | rfl | rfl | rfl | rfl
    · exact z 107 (rM_107 o10)
    · exact z 108 (rM_108 o10)
    · exact z 110 (rM_110 o10)
    · exact z 111 (rM_111 o10)
    · rw [rM_120 (s := 0) o10, hm]
    · rw [rM_121 (s := 0) o10, hm]
    · rw [rM_122 (s := 0) o10, hm]
    · rw [rM_123 (s := 0) o10, hm]
    · rw [rM_124 (s := 0) o10, hm]
  have R : ∀ (a : Int32), a = lkF X o p1 → w_X12_look L (nI o) p1 M (fun b M2 => a = b ∧ mi M2 92 0 = 0 ∧ RR L M2) := fun a ha => by
    unfold w_X12_look
    intro M1 e1
    obtain ⟨rx, z0⟩ := th_0 h e1
    have i1 : ∀ b k, b ≠ 92 → mi M1 b k = mi M b k := fun b k z => by rw [e1, mi_si, if_neg (by omega)]
    have n2' : mi M1 92 28 = nI (tn (X.1 28 0)) := by rw [e1]; exact n2
    have rr : RR L M1 := ⟨t, X, rx⟩
    refine m_ownB n2' n3 (fun z => absurd v2 z) (fun _ => m_wiB (fun z => absurd v3 z) (fun _ => ?_))
    rw [tn_nI (n := o) (by omega), i1 107 o (by decide), i1 108 o (by decide), i1 109 o (by decide), i1 110 o (by decide), i1 111 o (by decide), i1 120 o (by decide), i1 121 o (by decide), i1 122 o (by decide), i1 123 o (by decide), i1 124 o (by decide), i1 99 0 (by decide), C 107 (by simp), C 108 (by simp), C 110 (by simp), C 111 (by simp), C 120 (by simp), C 121 (by simp), C 122 (by simp), C 123 (by simp), C 124 (by simp)]
    have v20 : vp_in (nI o) 20 := vp_in_nI (by omega) (by decide)
    have v10 : vp_in (nI o) 10 := vp_in_nI (by omega) (by decide)
    unfold lkF at ha
    refine ⟨fun c => ⟨v20, ?_, z0, rr⟩, fun c0 => ⟨fun c => ⟨v20, ?_, z0, rr⟩, fun c1 => ⟨fun c => ⟨fun w => ⟨?_, z0, rr⟩, fun w => ⟨v20, ?_, z0, rr⟩⟩, fun c2 => ⟨fun c => ⟨v20, ?_, z0, rr⟩, fun c3 => ⟨fun c => ⟨v20, fun x ex => ⟨?_, z0, rr⟩⟩, fun c4 => ⟨fun c => ⟨v10, ?_, z0, rr⟩, fun c5 => ⟨fun c => ⟨v10, ?_, z0, rr⟩, fun c6 => ⟨fun c => ⟨v10, ?_, z0, rr⟩, fun c7 => ⟨fun c => ⟨v10, ?_, z0, rr⟩, fun c8 => ⟨v10, ?_, z0, rr⟩⟩⟩⟩⟩⟩⟩⟩⟩⟩
    · rw [ha, if_pos c]
    · rw [ha, if_neg c0, if_pos c]
    · rw [ha, if_neg c0, if_neg c1, if_pos c, if_pos (pp.2.1.mp w)]
    · have e109 : mi M 109 o = X.1 109 o := by
        have := rM_109 (s := 0) (M := M) o10 w
        rw [Nat.mul_zero, Nat.zero_add] at this
        rw [this, hm]
      rw [ha, if_neg c0, if_neg c1, if_pos c, if_neg (fun z => w (pp.2.1.mpr z)), e109, jmax0 pos]
    · rw [ha, if_neg c0, if_neg c1, if_neg c2, if_pos c]
    · rw [ha, if_neg c0, if_neg c1, if_neg c2, if_neg c3, if_pos c, ex]
    · rw [ha, if_neg c0, if_neg c1, if_neg c2, if_neg c3, if_neg c4, if_pos c]
    · rw [ha, if_neg c0, if_neg c1, if_neg c2, if_neg c3, if_neg c4, if_neg c5, if_pos c]
    · rw [ha, if_neg c0, if_neg c1, if_neg c2, if_neg c3, if_neg c4, if_neg c5, if_neg c6, if_pos c]
    · rw [ha, if_neg c0, if_neg c1, if_neg c2, if_neg c3, if_neg c4, if_neg c5, if_neg c6, if_neg c7, if_pos c]
    · rw [ha, if_neg c0, if_neg c1, if_neg c2, if_neg c3, if_neg c4, if_neg c5, if_neg c6, if_neg c7, if_neg c8]
  rw [rC_107 o10, rC_108 o10, rC_110 o10, rC_111 o10, rC_120 o10, rC_121 o10, rC_122 o10, rC_123 o10, rC_124 o10, hx]
  refine ⟨fun c => R _ ?_, fun c0 => ⟨fun c => R _ ?_, fun c1 => ⟨fun c => ⟨fun w => R _ ?_, fun a w => R _ ?_⟩, fun c2 => ⟨fun c => R _ ?_, fun c3 => ⟨fun c x ex => R _ ?_, fun c4 => ⟨fun c => R _ ?_, fun c5 => ⟨fun c => R _ ?_, fun c6 => ⟨fun c => R _ ?_, fun c7 => ⟨fun c => R _ ?_, fun c8 => R _ ?_⟩⟩⟩⟩⟩⟩⟩⟩⟩
  · unfold lkF; rw [if_pos c]
  · unfold lkF; rw [if_neg c0, if_pos c]
  · unfold lkF; rw [if_neg c0, if_neg c1, if_pos c, if_pos (pp.1.mp w)]
  · unfold lkF
    rw [if_neg c0, if_neg c1, if_pos c, if_neg (fun z => by have := pp.1.mpr z; rw [this] at w; cases w), rC_109 w o10, hx]
  · unfold lkF; rw [if_neg c0, if_neg c1, if_neg c2, if_pos c]
  · unfold lkF; rw [if_neg c0, if_neg c1, if_neg c2, if_neg c3, if_pos c, ex]
  · unfold lkF; rw [if_neg c0, if_neg c1, if_neg c2, if_neg c3, if_neg c4, if_pos c]
  · unfold lkF; rw [if_neg c0, if_neg c1, if_neg c2, if_neg c3, if_neg c4, if_neg c5, if_pos c]
  · unfold lkF; rw [if_neg c0, if_neg c1, if_neg c2, if_neg c3, if_neg c4, if_neg c5, if_neg c6, if_pos c]
  · unfold lkF; rw [if_neg c0, if_neg c1, if_neg c2, if_neg c3, if_neg c4, if_neg c5, if_neg c6, if_neg c7, if_pos c]
  · unfold lkF; rw [if_neg c0, if_neg c1, if_neg c2, if_neg c3, if_neg c4, if_neg c5, if_neg c6, if_neg c7, if_neg c8]
end VAL
