-- LEVEL 3, part 5b: reading an expression, step by step: the class's codes and waiting row, the reference's codes
def clN (v : Ex) (D : Dc) : List (Bool × Dc) → Ex × Dc × List (Bool × Dc)
  | [] => (v, D, [])
  | q :: S => if q.1 = true then clN (nvE v) q.2 S else (v, D, q :: S)
def hdN (S : List (Bool × Dc)) : Prop := ∀ q T, S = q :: T → q.1 = false
theorem clN_hd : ∀ (S : List (Bool × Dc)) (v : Ex) (D : Dc), hdN (clN v D S).2.2 := by
  intro S
  induction S with
  | nil => intro v D q T h; exact absurd h (by unfold clN; intro z; cases z)
  | cons q S ih =>
    intro v D
    unfold clN
    by_cases c : q.1 = true
    · rw [if_pos c]; exact ih _ _
    · rw [if_neg c]; intro q' T h; cases h; simpa using c
theorem okS_rk {D : Dc} {S : List (Bool × Dc)} (h : okS D S) : rkD D := by
  cases S with
  | nil => exact h
  | cons q S => exact h.1
theorem clN_ok : ∀ (S : List (Bool × Dc)) (v : Ex) (D : Dc), okS D S → okS (clN v D S).2.1 (clN v D S).2.2 := by
  intro S
  induction S with
  | nil => intro v D h; exact h
  | cons q S ih =>
    intro v D h
    unfold clN
    by_cases c : q.1 = true
    · rw [if_pos c]; exact ih _ _ h.2.2
    · rw [if_neg c]; exact h
-- the reference's state: w it wants a part, else it has v
def meR (q : Nat × SS) (w : Bool) (v : Ex) (D : Dc) (S : List (Bool × Dc)) (r : Fx) : Prop := q.1 = S.length ∧ (if w = true then lwE q.2 q.1 D r else lnE q.2 q.1 D v r) ∧ lsE q.2 r S
theorem meT {n : Nat} {E : SS} {v : Ex} {D : Dc} {S : List (Bool × Dc)} {r : Fx} (h1 : n = S.length) (h2 : lwE E n D r) (h3 : lsE E r S) : meR (n, E) true v D S r := ⟨h1, h2, h3⟩
theorem meF {n : Nat} {E : SS} {v : Ex} {D : Dc} {S : List (Bool × Dc)} {r : Fx} (h1 : n = S.length) (h2 : lnE E n D v r) (h3 : lsE E r S) : meR (n, E) false v D S r := ⟨h1, h2, h3⟩
theorem me_close {r : Fx} : ∀ (S : List (Bool × Dc)) (E : SS) (D : Dc) (v : Ex), okS D S → lwE E S.length D r → lsE E r S → meR (enE E S.length (v r)) false (clN v D S).1 (clN v D S).2.1 (clN v D S).2.2 r := by
  intro S
  induction S with
  | nil =>
    intro E D v ho hl hs
    have e : enE E ([] : List (Bool × Dc)).length (v r) = (0, trE E 0 (v r)) := rfl
    rw [e]
    refine ⟨rfl, ?_, True.intro⟩
    show lnE (trE E 0 (v r)) 0 D v r
    refine ⟨lvE_cg (fun f h1 h2 => by unfold trE; exact u2_f (by omega)) hl.1, ?_⟩
    unfold trE; rw [u2_s]
    exact term_v (okS_rk ho) hl
  | cons q S ih =>
    intro E D v ho hl hs
    obtain ⟨h1, h2, h3⟩ := hs
    by_cases c : q.1 = true
    · have e1 : clE E (q :: S).length (v r) = clE E S.length (nvE v r) := by
        show clE E (S.length + 1) (v r) = _
        conv => lhs; unfold clE
        rw [if_pos (by rw [h1, if_pos c])]; rfl
      have e : enE E (q :: S).length (v r) = enE E S.length (nvE v r) := by unfold enE; rw [e1]
      rw [e]
      unfold clN
      rw [if_pos c]
      exact ih E q.2 (nvE v) ho.2.2 h2 h3
    · have e1 : clE E (q :: S).length (v r) = (S.length + 1, v r) := by
        show clE E (S.length + 1) (v r) = _
        conv => lhs; unfold clE
        rw [if_neg (by rw [h1, if_neg c]; decide)]
      have e : enE E (q :: S).length (v r) = (S.length + 1, trE E (S.length + 1) (v r)) := by unfold enE; rw [e1]
      rw [e]
      unfold clN
      rw [if_neg c]
      refine ⟨rfl, ?_, ?_⟩
      · show lnE (trE E (S.length + 1) (v r)) (S.length + 1) D v r
        refine ⟨lvE_cg (fun f h1 h2 => by unfold trE; exact u2_f (by omega)) hl.1, ?_⟩
        unfold trE; rw [u2_s]
        exact term_v (okS_rk ho) hl
      · show lsE (trE E (S.length + 1) (v r)) r (q :: S)
        exact lsE_cg (fun f i h4 h5 h6 => by unfold trE; exact u2_i (by simp only [List.length_cons] at h6; omega)) (fun i h4 h5 => by unfold trE; exact u2_f (by decide)) ⟨h1, h2, h3⟩
theorem me_opens {q : Nat × SS} {v : Ex} {D : Dc} {S : List (Bool × Dc)} {r : Fx} {b : Bool} (h : meR q true v D S r) : meR (evS r q (if b = true then 30 else 28)) true v noD ((b, D) :: S) r := by
  obtain ⟨h1, h2, h3⟩ := h
  have h2 : lwE q.2 q.1 D r := h2
  have e : evS r q (if b = true then 30 else 28) = (q.1 + 1, opnE (u2 q.2 146 (q.1 + 1) (if b = true then 1 else 0)) (q.1 + 1)) := by
    unfold evS
    cases b
    · rfl
    · rfl
  rw [e]
  have o : ∀ f i, i ≠ q.1 + 1 → opnE (u2 q.2 146 (q.1 + 1) (if b = true then 1 else 0)) (q.1 + 1) f i = q.2 f i := fun f i hi => by
    unfold opnE
    rw [u2_i hi, u2_i hi, u2_i hi, u2_i hi, u2_i hi, u2_i hi]
  have o146 : opnE (u2 q.2 146 (q.1 + 1) (if b = true then 1 else 0)) (q.1 + 1) 146 (q.1 + 1) = if b = true then 1 else 0 := by
    unfold opnE
    rw [u2_f (by decide), u2_f (by decide), u2_f (by decide), u2_f (by decide), u2_f (by decide), u2_s]
  have o139 : opnE (u2 q.2 146 (q.1 + 1) (if b = true then 1 else 0)) (q.1 + 1) 139 (q.1 + 1) = 0 := by unfold opnE; rw [u2_f (by decide), u2_f (by decide), u2_f (by decide), u2_f (by decide), u2_s]
  have o141 : opnE (u2 q.2 146 (q.1 + 1) (if b = true then 1 else 0)) (q.1 + 1) 141 (q.1 + 1) = 0 := by unfold opnE; rw [u2_f (by decide), u2_f (by decide), u2_f (by decide), u2_s]
  have o142 : opnE (u2 q.2 146 (q.1 + 1) (if b = true then 1 else 0)) (q.1 + 1) 142 (q.1 + 1) = 0 := by unfold opnE; rw [u2_f (by decide), u2_f (by decide), u2_s]
  have o143 : opnE (u2 q.2 146 (q.1 + 1) (if b = true then 1 else 0)) (q.1 + 1) 143 (q.1 + 1) = 20 := by unfold opnE; rw [u2_f (by decide), u2_s]
  have o145 : opnE (u2 q.2 146 (q.1 + 1) (if b = true then 1 else 0)) (q.1 + 1) 145 (q.1 + 1) = 0 := by unfold opnE; rw [u2_s]
  generalize opnE (u2 q.2 146 (q.1 + 1) (if b = true then 1 else 0)) (q.1 + 1) = E at *
  refine meT (by rw [h1]; rfl) ⟨⟨o139, o141, o143, o142⟩, o145⟩ ⟨by rw [← h1]; exact o146, ?_, ?_⟩
  · rw [← h1]; exact lwE_cg (fun f _ _ => o f _ (by omega)) h2
  · exact lsE_cg (fun f i _ _ hi => o f i (by omega)) (fun i _ hi => o 146 i (by omega)) h3
theorem me_part {q : Nat × SS} {v x : Ex} {D : Dc} {S : List (Bool × Dc)} {r : Fx} {c : Int32} (h : meR q true v D S r) (ho : okS D S) (he : evS r q c = enE q.2 q.1 (x r)) :
    meR (evS r q c) false (clN x D S).1 (clN x D S).2.1 (clN x D S).2.2 r := by
  obtain ⟨h1, h2, h3⟩ := h
  have h2 : lwE q.2 q.1 D r := h2
  rw [he, h1]
  rw [h1] at h2
  exact me_close S q.2 D x ho h2 h3
theorem opD_lt {D : Dc} {op : Int32} {v : Ex} {k : Nat} (h : k < rkO op) : opD D op v k = D k := if_pos h
theorem opD_eq {D : Dc} {op : Int32} {v : Ex} : opD D op v (rkO op) = some (op, cbR D v (rkO op)) := by unfold opD; rw [if_neg (by omega), if_pos rfl]
theorem opD_gt {D : Dc} {op : Int32} {v : Ex} {k : Nat} (h : rkO op < k) : opD D op v k = none := by unfold opD; rw [if_neg (by omega), if_neg (by omega)]
theorem me_op {q : Nat × SS} {v : Ex} {D : Dc} {S : List (Bool × Dc)} {r : Fx} {op : Int32} (h : meR q false v D S r) (ho : okS D S) (hk : rkO op ≠ 0) (h2n : rkO op = 2 → D 2 = none) :
    meR (evS r q (tmO op)) true v (opD D op v) S r := by
  obtain ⟨h1, h2, h3⟩ := h
  have h2 : lnE q.2 q.1 D v r := h2
  have hr := okS_rk ho
  rcases rk_cases (op := op) rfl hk with ⟨k, e⟩ | ⟨k, e⟩ | ⟨k, e⟩ | ⟨k, e⟩
  · have ec : tmO op = 26 ∨ tmO op = 27 := by rcases e with rfl | rfl <;> decide
    have ev : evS r q (tmO op) = (q.1, u2 (tstE q.2 q.1) 139 q.1 (tmO op)) := by
      unfold evS
      rcases e with rfl | rfl <;> rfl
    rw [ev]
    have d1 : opD D op v 1 = some (op, cbR D v 1) := by rw [← k]; exact opD_eq
    have d2 : opD D op v 2 = none := opD_gt (by omega)
    have d3 : opD D op v 3 = none := opD_gt (by omega)
    have d4 : opD D op v 4 = none := opD_gt (by omega)
    have tt : ∀ f, f = 141 ∨ f = 142 ∨ f = 145 → tstE q.2 q.1 f q.1 = 0 := fun f hf => by
      rcases hf with rfl | rfl | rfl
      · unfold tstE; rw [u2_f (by decide), u2_f (by decide), u2_s]
      · unfold tstE; rw [u2_f (by decide), u2_s]
      · unfold tstE; rw [u2_f (by decide), u2_f (by decide), u2_f (by decide), u2_f (by decide)]; unfold smsE; rw [u2_s]
    have a139 : u2 (tstE q.2 q.1) 139 q.1 (tmO op) 139 q.1 = tmO op := u2_s
    have a138 : u2 (tstE q.2 q.1) 139 q.1 (tmO op) 138 q.1 = cbR D v 1 r := by rw [u2_f (by decide)]; exact tst_138 hr h2
    have a141 : u2 (tstE q.2 q.1) 139 q.1 (tmO op) 141 q.1 = 0 := by rw [u2_f (by decide)]; exact tt 141 (by simp)
    have a142 : u2 (tstE q.2 q.1) 139 q.1 (tmO op) 142 q.1 = 0 := by rw [u2_f (by decide)]; exact tt 142 (by simp)
    have a143 : u2 (tstE q.2 q.1) 139 q.1 (tmO op) 143 q.1 = 20 := by rw [u2_f (by decide)]; unfold tstE; rw [u2_s]
    have a145 : u2 (tstE q.2 q.1) 139 q.1 (tmO op) 145 q.1 = 0 := by rw [u2_f (by decide)]; exact tt 145 (by simp)
    have ao : ∀ f i, 138 ≤ f → i < q.1 → u2 (tstE q.2 q.1) 139 q.1 (tmO op) f i = q.2 f i := fun f i _ hi => by rw [u2_i (by omega)]; exact tst_o (Or.inl (by omega))
    have a146 : ∀ i, u2 (tstE q.2 q.1) 139 q.1 (tmO op) 146 i = q.2 146 i := fun i => by rw [u2_f (by decide)]; exact tst_o (Or.inr (by decide))
    generalize u2 (tstE q.2 q.1) 139 q.1 (tmO op) = E at *
    refine meT h1 ⟨⟨?_, ?_, ?_⟩, ?_⟩ (lsE_cg (fun f i h5 _ hi => ao f i h5 (by omega)) (fun i _ _ => a146 i) h3)
    · rw [d1]; exact ⟨a139, a138⟩
    · rw [d2]; exact a141
    · rw [d3]; exact ⟨a143, a142⟩
    · rw [d4]; exact a145
  · have ev : evS r q (tmO op) = (q.1, u2 (u2 (u2 (u2 (smsE q.2 q.1) 140 q.1 (smsE q.2 q.1 142 q.1)) 141 q.1 (tmO op)) 142 q.1 0) 143 q.1 20) := by
      unfold evS
      rcases e with rfl | rfl <;> rfl
    rw [ev]
    have d1 : opD D op v 1 = D 1 := opD_lt (by omega)
    have d2 : opD D op v 2 = some (op, cbR D v 2) := by rw [← k]; exact opD_eq
    have d3 : opD D op v 3 = none := opD_gt (by omega)
    have d4 : opD D op v 4 = none := opD_gt (by omega)
    have n2 := h2n k
    have s142 := sms_142 hr h2
    have a139 : u2 (u2 (u2 (u2 (smsE q.2 q.1) 140 q.1 (smsE q.2 q.1 142 q.1)) 141 q.1 (tmO op)) 142 q.1 0) 143 q.1 20 139 q.1 = q.2 139 q.1 := by rw [u2_f (by decide), u2_f (by decide), u2_f (by decide), u2_f (by decide)]; exact sms_o (Or.inl (by decide)) (Or.inl (by decide))
    have a138 : u2 (u2 (u2 (u2 (smsE q.2 q.1) 140 q.1 (smsE q.2 q.1 142 q.1)) 141 q.1 (tmO op)) 142 q.1 0) 143 q.1 20 138 q.1 = q.2 138 q.1 := by rw [u2_f (by decide), u2_f (by decide), u2_f (by decide), u2_f (by decide)]; exact sms_o (Or.inl (by decide)) (Or.inl (by decide))
    have a140 : u2 (u2 (u2 (u2 (smsE q.2 q.1) 140 q.1 (smsE q.2 q.1 142 q.1)) 141 q.1 (tmO op)) 142 q.1 0) 143 q.1 20 140 q.1 = cbR D v 2 r := by
      rw [u2_f (by decide), u2_f (by decide), u2_f (by decide), u2_s, s142]
      show _ = cbO (D 2) (cbO (D 3) (cbO (D 4) v)) r
      rw [n2]; rfl
    have a141 : u2 (u2 (u2 (u2 (smsE q.2 q.1) 140 q.1 (smsE q.2 q.1 142 q.1)) 141 q.1 (tmO op)) 142 q.1 0) 143 q.1 20 141 q.1 = tmO op := by rw [u2_f (by decide), u2_f (by decide), u2_s]
    have a142 : u2 (u2 (u2 (u2 (smsE q.2 q.1) 140 q.1 (smsE q.2 q.1 142 q.1)) 141 q.1 (tmO op)) 142 q.1 0) 143 q.1 20 142 q.1 = 0 := by rw [u2_f (by decide), u2_s]
    have a143 : u2 (u2 (u2 (u2 (smsE q.2 q.1) 140 q.1 (smsE q.2 q.1 142 q.1)) 141 q.1 (tmO op)) 142 q.1 0) 143 q.1 20 143 q.1 = 20 := by rw [u2_s]
    have a145 : u2 (u2 (u2 (u2 (smsE q.2 q.1) 140 q.1 (smsE q.2 q.1 142 q.1)) 141 q.1 (tmO op)) 142 q.1 0) 143 q.1 20 145 q.1 = 0 := by rw [u2_f (by decide), u2_f (by decide), u2_f (by decide), u2_f (by decide)]; unfold smsE; rw [u2_s]
    have ao : ∀ f i, 138 ≤ f → i < q.1 → u2 (u2 (u2 (u2 (smsE q.2 q.1) 140 q.1 (smsE q.2 q.1 142 q.1)) 141 q.1 (tmO op)) 142 q.1 0) 143 q.1 20 f i = q.2 f i := fun f i _ hi => by rw [u2_i (by omega), u2_i (by omega), u2_i (by omega), u2_i (by omega)]; exact sms_o (Or.inr (by omega)) (Or.inr (by omega))
    have a146 : ∀ i, u2 (u2 (u2 (u2 (smsE q.2 q.1) 140 q.1 (smsE q.2 q.1 142 q.1)) 141 q.1 (tmO op)) 142 q.1 0) 143 q.1 20 146 i = q.2 146 i := fun i => by rw [u2_f (by decide), u2_f (by decide), u2_f (by decide), u2_f (by decide)]; exact sms_o (Or.inl (by decide)) (Or.inl (by decide))
    generalize u2 (u2 (u2 (u2 (smsE q.2 q.1) 140 q.1 (smsE q.2 q.1 142 q.1)) 141 q.1 (tmO op)) 142 q.1 0) 143 q.1 20 = E at *
    refine meT h1 ⟨⟨?_, ?_, ?_⟩, ?_⟩ (lsE_cg (fun f i h5 _ hi => ao f i h5 (by omega)) (fun i _ _ => a146 i) h3)
    · rw [d1, a139, a138]; exact h2.1.1
    · rw [d2]; exact ⟨a141, a140⟩
    · rw [d3]; exact ⟨a143, a142⟩
    · rw [d4]; exact a145
  · have ev : evS r q (tmO op) = (q.1, u2 (smsE q.2 q.1) 143 q.1 (tmO op)) := by
      unfold evS
      rcases e with rfl | rfl <;> rfl
    rw [ev]
    have d1 : opD D op v 1 = D 1 := opD_lt (by omega)
    have d2 : opD D op v 2 = D 2 := opD_lt (by omega)
    have d3 : opD D op v 3 = some (op, cbR D v 3) := by rw [← k]; exact opD_eq
    have d4 : opD D op v 4 = none := opD_gt (by omega)
    have s142 := sms_142 hr h2
    have lo : ∀ f, 138 ≤ f → f ≤ 141 → u2 (smsE q.2 q.1) 143 q.1 (tmO op) f q.1 = q.2 f q.1 := fun f h5 h6 => by
      rw [u2_f (by omega)]; exact sms_o (Or.inl (by omega)) (Or.inl (by omega))
    have a142 : u2 (smsE q.2 q.1) 143 q.1 (tmO op) 142 q.1 = cbR D v 3 r := by rw [u2_f (by decide)]; exact s142
    have a143 : u2 (smsE q.2 q.1) 143 q.1 (tmO op) 143 q.1 = tmO op := u2_s
    have a145 : u2 (smsE q.2 q.1) 143 q.1 (tmO op) 145 q.1 = 0 := by rw [u2_f (by decide)]; unfold smsE; rw [u2_s]
    have ao : ∀ f i, 138 ≤ f → i < q.1 → u2 (smsE q.2 q.1) 143 q.1 (tmO op) f i = q.2 f i := fun f i _ hi => by rw [u2_i (by omega)]; exact sms_o (Or.inr (by omega)) (Or.inr (by omega))
    have a146 : ∀ i, u2 (smsE q.2 q.1) 143 q.1 (tmO op) 146 i = q.2 146 i := fun i => by rw [u2_f (by decide)]; exact sms_o (Or.inl (by decide)) (Or.inl (by decide))
    generalize u2 (smsE q.2 q.1) 143 q.1 (tmO op) = E at *
    refine meT h1 ⟨⟨?_, ?_, ?_⟩, ?_⟩ (lsE_cg (fun f i h5 _ hi => ao f i h5 (by omega)) (fun i _ _ => a146 i) h3)
    · rw [d1, lo 139 (by omega) (by omega), lo 138 (by omega) (by omega)]; exact h2.1.1
    · rw [d2, lo 141 (by omega) (by omega), lo 140 (by omega) (by omega)]; exact h2.1.2.1
    · rw [d3]; exact ⟨a143, a142⟩
    · rw [d4]; exact a145
  · have ev : evS r q (tmO op) = (q.1, u2 q.2 145 q.1 (tmO op)) := by
      unfold evS
      rcases e with rfl | rfl <;> rfl
    rw [ev]
    have d1 : opD D op v 1 = D 1 := opD_lt (by omega)
    have d2 : opD D op v 2 = D 2 := opD_lt (by omega)
    have d3 : opD D op v 3 = D 3 := opD_lt (by omega)
    have d4 : opD D op v 4 = some (op, cbR D v 4) := by rw [← k]; exact opD_eq
    have ae : ∀ f, f ≠ 145 → u2 q.2 145 q.1 (tmO op) f q.1 = q.2 f q.1 := fun f hf => u2_f hf
    have a145 : u2 q.2 145 q.1 (tmO op) 145 q.1 = tmO op := u2_s
    have ao : ∀ f i, i < q.1 → u2 q.2 145 q.1 (tmO op) f i = q.2 f i := fun f i hi => u2_i (by omega)
    have a146 : ∀ i, u2 q.2 145 q.1 (tmO op) 146 i = q.2 146 i := fun i => u2_f (by decide)
    generalize u2 q.2 145 q.1 (tmO op) = E at *
    refine meT h1 ⟨⟨?_, ?_, ?_⟩, ?_⟩ (lsE_cg (fun f i h5 _ hi => ao f i (by omega)) (fun i _ _ => a146 i) h3)
    · rw [d1, ae 139 (by decide), ae 138 (by decide)]; exact h2.1.1
    · rw [d2, ae 141 (by decide), ae 140 (by decide)]; exact h2.1.2.1
    · rw [d3, ae 143 (by decide), ae 142 (by decide)]; exact h2.1.2.2
    · rw [d4, ae 144 (by decide)]; exact ⟨a145, h2.2⟩
theorem me_shut {q : Nat × SS} {v : Ex} {D D1 : Dc} {S : List (Bool × Dc)} {r : Fx} {b : Bool} (h : meR q false v D ((b, D1) :: S) r) (ho : okS D ((b, D1) :: S)) :
    meR (evS r q 29) false (clN (cbR D v 1) D1 S).1 (clN (cbR D v 1) D1 S).2.1 (clN (cbR D v 1) D1 S).2.2 r := by
  obtain ⟨h1, h2, h3⟩ := h
  have h2 : lnE q.2 q.1 D v r := h2
  obtain ⟨l1, l2, l3⟩ := h3
  have h1 : q.1 = S.length + 1 := h1
  have ev : evS r q 29 = enE (tstE q.2 q.1) (q.1 - 1) (tstE q.2 q.1 138 q.1) := rfl
  rw [ev, tst_138 (okS_rk ho) h2, h1, Nat.add_sub_cancel]
  refine me_close S (tstE q.2 (S.length + 1)) D1 (cbR D v 1) ho.2.2 ?_ ?_
  · exact lwE_cg (fun f _ _ => tst_o (Or.inl (by omega))) l2
  · exact lsE_cg (fun f i _ _ hi => tst_o (Or.inl (by omega))) (fun i _ hi => tst_o (Or.inl (by omega))) l3
theorem me_end {q : Nat × SS} {v : Ex} {D : Dc} {r : Fx} (h : meR q false v D [] r) (ho : okS D []) : tstE q.2 0 138 0 = cbR D v 1 r := by
  obtain ⟨h1, h2, h3⟩ := h
  have h2 : lnE q.2 q.1 D v r := h2
  have h1 : q.1 = 0 := h1
  rw [h1] at h2
  exact tst_138 (okS_rk ho) h2
theorem me_new {E : SS} {v : Ex} {r : Fx} : meR (0, opnE E 0) true v noD [] r := by
  refine ⟨rfl, ⟨⟨?_, ?_, ?_⟩, ?_⟩, True.intro⟩
  · show opnE E 0 139 0 = 0
    unfold opnE; rw [u2_f (by decide), u2_f (by decide), u2_f (by decide), u2_f (by decide), u2_s]
  · show opnE E 0 141 0 = 0
    unfold opnE; rw [u2_f (by decide), u2_f (by decide), u2_f (by decide), u2_s]
  · show opnE E 0 143 0 = 20 ∧ opnE E 0 142 0 = 0
    unfold opnE; rw [u2_f (by decide), u2_s, u2_f (by decide), u2_f (by decide), u2_s]; exact ⟨rfl, rfl⟩
  · show opnE E 0 145 0 = 0
    unfold opnE; rw [u2_s]
-- the class's codes c and waiting row W
def ceR (c W : List Int32) (w : Bool) (v : Ex) (D : Dc) (S : List (Bool × Dc)) : Prop := W = wtD D ++ wtS S ∧ (∀ r, rkL r c [] = (if w = true then [] else [v r]) ++ (vaD r D ++ vaS r S))
def clD (D : Dc) (j : Nat) : Dc := fun k => if k < j then D k else none
theorem clD_5 {D : Dc} : wtD (clD D 5) = wtD D ∧ ∀ r, vaD r (clD D 5) = vaD r D := ⟨rfl, fun _ => rfl⟩
theorem clD_none {D : Dc} {j : Nat} (h : D j = none) : clD D (j + 1) = clD D j := by
  funext k
  unfold clD
  by_cases c : k < j
  · rw [if_pos c, if_pos (by omega)]
  · rw [if_neg c]
    by_cases c2 : k < j + 1
    · rw [if_pos c2]
      have : k = j := by omega
      rw [this]; exact h
    · rw [if_neg c2]
theorem len_va {r : Fx} {D : Dc} : (vaD r D).length ≤ 4 := by
  have h : ∀ o : Option (Int32 × Ex), (vaL r o).length ≤ 1 := fun o => by cases o <;> simp [vaL]
  have h1 := h (D 1); have h2 := h (D 2); have h3 := h (D 3); have h4 := h (D 4)
  unfold vaD
  simp only [List.length_append]
  omega
theorem len_vaS {r : Fx} : ∀ S : List (Bool × Dc), (vaS r S).length ≤ 4 * S.length := by
  intro S
  induction S with
  | nil => exact Nat.le_refl _
  | cons q S ih =>
    have := len_va (r := r) (D := q.2)
    show (vaD r q.2 ++ vaS r S).length ≤ 4 * (S.length + 1)
    rw [List.length_append]; omega
theorem len_wt {D : Dc} : (wtD D).length ≤ 4 := by
  have h : ∀ o : Option (Int32 × Ex), (opL o).length ≤ 1 := fun o => by cases o <;> simp [opL]
  have h1 := h (D 1); have h2 := h (D 2); have h3 := h (D 3); have h4 := h (D 4)
  unfold wtD
  simp only [List.length_append]
  omega
theorem len_wtS : ∀ S : List (Bool × Dc), (wtS S).length ≤ 5 * S.length := by
  intro S
  induction S with
  | nil => exact Nat.le_refl _
  | cons q S ih =>
    have := len_wt (D := q.2)
    show ((if q.1 = true then (11 : Int32) else 40) :: (wtD q.2 ++ wtS S)).length ≤ 5 * (S.length + 1)
    rw [List.length_cons, List.length_append]; omega
theorem ce_part {c W : List Int32} {v x : Ex} {y : Int32} {D : Dc} {S : List (Bool × Dc)} (h : ceR c W true v D S) (hS : S.length ≤ 5) (hy : y < 20000) (hv : ∀ r, (if y < 10000 then y else fcF r (y - 10000)) = x r) : ceR (c ++ [y]) W false x D S := by
  refine ⟨h.1, fun r => ?_⟩
  rw [rkL_1, h.2 r]
  show stL r y ([] ++ (vaD r D ++ vaS r S)) = [x r] ++ (vaD r D ++ vaS r S)
  have h1 := len_va (r := r) (D := D)
  have h2 := len_vaS (r := r) S
  unfold stL
  rw [if_pos hy, if_pos (by rw [List.nil_append, List.length_append]; omega), hv r]
  rfl
theorem ce_not {c W : List Int32} {v : Ex} {D D1 : Dc} {S : List (Bool × Dc)} (h : ceR c (11 :: W) false v D ((true, D1) :: S)) (hD : D = noD) : ceR (c ++ [20011]) W false (nvE v) D1 S := by
  subst hD
  refine ⟨?_, fun r => ?_⟩
  · have := h.1
    have e : wtD noD ++ wtS ((true, D1) :: S) = 11 :: (wtD D1 ++ wtS S) := rfl
    rw [e] at this
    exact (List.cons.inj this).2
  · rw [rkL_1, h.2 r]; rfl
theorem ce_pop {c W : List Int32} {v : Ex} {D : Dc} {S : List (Bool × Dc)} {k : Nat} {q : Int32 × Ex} (hk : k = 1 ∨ k = 2 ∨ k = 3 ∨ k = 4) (hr : rkD D) (hq : D k = some q) (h : ceR c W false v (clD D (k + 1)) S) :
    ∃ W', W = q.1 :: W' ∧ ceR (c ++ [20000 + q.1]) W' false (cbO (D k) v) (clD D k) S := by
  have hop := rk_cases (hr k hk q hq) (by omega)
  have ne : ¬ (20000 + q.1 < 20000) ∧ ¬ (20000 + q.1 = 20011) ∧ 20000 + q.1 - 20000 = q.1 := by
    rcases hop with ⟨-, e | e⟩ | ⟨-, e | e⟩ | ⟨-, e | e⟩ | ⟨-, e | e⟩ <;> rw [e] <;> decide
  have hw : wtD (clD D (k + 1)) = q.1 :: wtD (clD D k) := by
    rcases hk with rfl | rfl | rfl | rfl <;> simp [wtD, clD, opL, hq]
  have hv : ∀ r, vaD r (clD D (k + 1)) = q.2 r :: vaD r (clD D k) := fun r => by
    rcases hk with rfl | rfl | rfl | rfl <;> simp [vaD, clD, vaL, hq]
  refine ⟨wtD (clD D k) ++ wtS S, by rw [h.1, hw]; rfl, rfl, fun r => ?_⟩
  rw [rkL_1, h.2 r, hv r, hq]
  show stL r (20000 + q.1) ([v r] ++ (q.2 r :: vaD r (clD D k) ++ vaS r S)) = _
  unfold stL
  rw [if_neg ne.1, if_neg ne.2.1]
  show cmF (20000 + q.1 - 20000) (q.2 r) (v r) :: (vaD r (clD D k) ++ vaS r S) = _
  rw [ne.2.2]; rfl
theorem ce_push {c W : List Int32} {v : Ex} {D : Dc} {S : List (Bool × Dc)} {op : Int32} (hk : rkO op ≠ 0) (h : ceR c W false (cbR D v (rkO op)) (clD D (rkO op)) S) : ceR c (op :: W) true v (opD D op v) S := by
  have hkk : rkO op = 1 ∨ rkO op = 2 ∨ rkO op = 3 ∨ rkO op = 4 := by
    rcases rk_cases (op := op) rfl hk with ⟨a, -⟩ | ⟨a, -⟩ | ⟨a, -⟩ | ⟨a, -⟩ <;> omega
  have hw : wtD (opD D op v) = op :: wtD (clD D (rkO op)) := by
    unfold opD
    generalize rkO op = k at *
    rcases hkk with rfl | rfl | rfl | rfl <;> simp [wtD, clD, opL]
  have hv : ∀ r, vaD r (opD D op v) = cbR D v (rkO op) r :: vaD r (clD D (rkO op)) := fun r => by
    unfold opD
    generalize rkO op = k at *
    rcases hkk with rfl | rfl | rfl | rfl <;> simp [vaD, clD, vaL]
  refine ⟨by rw [h.1, hw]; rfl, fun r => ?_⟩
  rw [h.2 r, hv r]; rfl
theorem ce_opens {c W : List Int32} {v : Ex} {D : Dc} {S : List (Bool × Dc)} {b : Bool} (h : ceR c W true v D S) : ceR c ((if b = true then 11 else 40) :: W) true v noD ((b, D) :: S) := by
  refine ⟨by rw [h.1]; rfl, fun r => ?_⟩
  rw [h.2 r]; rfl
theorem ce_shut {c W : List Int32} {v : Ex} {D1 : Dc} {S : List (Bool × Dc)} (h : ceR c W false v noD ((false, D1) :: S)) : ∃ W', W = 40 :: W' ∧ ceR c W' false v D1 S := by
  refine ⟨wtD D1 ++ wtS S, by rw [h.1]; rfl, rfl, fun r => ?_⟩
  rw [h.2 r]; rfl
theorem opD_ok {D : Dc} {op : Int32} {v : Ex} {S : List (Bool × Dc)} (ho : okS D S) (hk : rkO op ≠ 0) (hh : hdN S) : okS (opD D op v) S := by
  have hr : rkD (opD D op v) := fun k hk4 q hq => by
    by_cases c : k < rkO op
    · rw [opD_lt c] at hq; exact okS_rk ho k hk4 q hq
    · by_cases c2 : k = rkO op
      · rw [c2, opD_eq] at hq; cases hq; exact c2.symm
      · rw [opD_gt (by omega)] at hq; cases hq
  cases S with
  | nil => exact hr
  | cons q S => exact ⟨hr, fun z => absurd (hh q S rfl) (by rw [z]; decide), ho.2.2⟩
