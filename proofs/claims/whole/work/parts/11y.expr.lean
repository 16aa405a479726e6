-- LEVEL 3, part 5: what a line is worth: the class's codes (operators behind), the reference's (as read), and the reading itself between them
def cmF (op a b : Int32) : Int32 :=
  if op = 9 then (if a = 0 then 0 else if b = 0 then 0 else 1)
  else if op = 10 then (if a = 0 then (if b = 0 then 0 else 1) else 1)
  else if op = 42 then a * b else if op = 43 then a + b else if op = 45 then a - b
  else if op = 60 then (if a < b then 1 else 0) else if op = 61 then (if a = b then 1 else 0)
  else if b = 0 then 0 else a / b
def fcF (r : Fx) (f : Int32) : Int32 := if f < 13 then 0 else if 26 < f then 0 else r (tn (f - 13))
def ntF (x : Int32) : Int32 := if x = 0 then 1 else 0
def stL (r : Fx) (c : Int32) (V : List Int32) : List Int32 :=
  if c < 20000 then (if V.length < 64 then (if c < 10000 then c else fcF r (c - 10000)) :: V else V)
  else if c = 20011 then (match V with | [] => [] | v :: W => ntF v :: W)
  else (match V with | b :: a :: W => cmF (c - 20000) a b :: W | V => V)
def rkL (r : Fx) (c : List Int32) (V : List Int32) : List Int32 := c.foldl (fun V x => stL r x V) V
theorem rkL_1 {r : Fx} {c : List Int32} {x : Int32} {V : List Int32} : rkL r (c ++ [x]) V = stL r x (rkL r c V) := by
  unfold rkL; rw [List.foldl_append]; rfl
abbrev Dc : Type := Nat → Option (Int32 × Ex)
def noD : Dc := fun _ => none
def rkO (op : Int32) : Nat := if op = 9 ∨ op = 10 then 1 else if op = 60 ∨ op = 61 then 2 else if op = 43 ∨ op = 45 then 3 else if op = 42 ∨ op = 47 then 4 else 0
def opL (o : Option (Int32 × Ex)) : List Int32 := match o with | none => [] | some q => [q.1]
def vaL (r : Fx) (o : Option (Int32 × Ex)) : List Int32 := match o with | none => [] | some q => [q.2 r]
def wtD (D : Dc) : List Int32 := opL (D 4) ++ (opL (D 3) ++ (opL (D 2) ++ opL (D 1)))
def vaD (r : Fx) (D : Dc) : List Int32 := vaL r (D 4) ++ (vaL r (D 3) ++ (vaL r (D 2) ++ vaL r (D 1)))
def wtS : List (Bool × Dc) → List Int32
  | [] => []
  | q :: S => (if q.1 then 11 else 40) :: (wtD q.2 ++ wtS S)
def vaS (r : Fx) : List (Bool × Dc) → List Int32
  | [] => []
  | q :: S => vaD r q.2 ++ vaS r S
def rkD (D : Dc) : Prop := ∀ k, k = 1 ∨ k = 2 ∨ k = 3 ∨ k = 4 → ∀ q, D k = some q → rkO q.1 = k
def okS : Dc → List (Bool × Dc) → Prop
  | D, [] => rkD D
  | D, q :: S => rkD D ∧ (q.1 = true → D = noD) ∧ okS q.2 S
def cbO (o : Option (Int32 × Ex)) (v : Ex) : Ex := match o with | none => v | some q => fun r => cmF q.1 (q.2 r) (v r)
def cbR (D : Dc) (v : Ex) (k : Nat) : Ex :=
  if k = 4 then cbO (D 4) v else if k = 3 then cbO (D 3) (cbO (D 4) v) else if k = 2 then cbO (D 2) (cbO (D 3) (cbO (D 4) v)) else cbO (D 1) (cbO (D 2) (cbO (D 3) (cbO (D 4) v)))
def opD (D : Dc) (op : Int32) (v : Ex) : Dc := fun k => if k < rkO op then D k else if k = rkO op then some (op, cbR D v (rkO op)) else none
def nvE (v : Ex) : Ex := fun r => ntF (v r)
-- the reference's rows: 138 kept, 139 by which word, 140 first, 141 holds, 142 sum, 143 by which sign, 144 term, 145 by which sign, 146 by "not"
def tmO (op : Int32) : Int32 := if op = 43 then 20 else if op = 45 then 21 else if op = 42 then 22 else if op = 47 then 23 else if op = 60 then 24 else if op = 61 then 25 else if op = 9 then 26 else 27
def opnE (E : SS) (d : Nat) : SS := u2 (u2 (u2 (u2 (u2 E 139 d 0) 141 d 0) 142 d 0) 143 d 20) 145 d 0
def smsE (E : SS) (d : Nat) : SS := u2 (u2 E 142 d (if E 143 d = 21 then E 142 d - E 144 d else E 142 d + E 144 d)) 145 d 0
def t1E (E : SS) (d : Nat) : Int32 := if E 141 d = 24 then (if E 140 d < E 142 d then 1 else 0) else E 142 d
def t2E (E : SS) (d : Nat) : Int32 := if E 141 d = 25 then (if E 140 d = E 142 d then 1 else 0) else t1E E d
def t3E (E : SS) (d : Nat) : Int32 := if E 139 d = 26 then (if E 138 d = 0 then 0 else if t2E E d = 0 then 0 else 1) else t2E E d
def t4E (E : SS) (d : Nat) : Int32 := if E 139 d = 27 then (if E 138 d = 0 then (if t3E E d = 0 then 0 else 1) else 1) else t3E E d
def tstE (E : SS) (d : Nat) : SS := u2 (u2 (u2 (u2 (smsE E d) 138 d (t4E (smsE E d) d)) 141 d 0) 142 d 0) 143 d 20
def clE (E : SS) : Nat → Int32 → Nat × Int32
  | 0, v => (0, v)
  | d + 1, v => if E 146 (d + 1) = 1 then clE E d (ntF v) else (d + 1, v)
def trE (E : SS) (d : Nat) (v : Int32) : SS := u2 E 144 d (if E 145 d = 0 then v else if E 145 d = 22 then E 144 d * v else if v = 0 then 0 else E 144 d / v)
def enE (E : SS) (d : Nat) (v : Int32) : Nat × SS := ((clE E d v).1, trE E (clE E d v).1 (clE E d v).2)
def evS (r : Fx) (q : Nat × SS) (c : Int32) : Nat × SS :=
  if c = 28 ∨ c = 30 then (q.1 + 1, opnE (u2 q.2 146 (q.1 + 1) (if c = 30 then 1 else 0)) (q.1 + 1))
  else if c = 20 ∨ c = 21 then (q.1, u2 (smsE q.2 q.1) 143 q.1 c)
  else if c = 22 ∨ c = 23 then (q.1, u2 q.2 145 q.1 c)
  else if c = 24 ∨ c = 25 then (q.1, u2 (u2 (u2 (u2 (smsE q.2 q.1) 140 q.1 (smsE q.2 q.1 142 q.1)) 141 q.1 c) 142 q.1 0) 143 q.1 20)
  else if c = 26 ∨ c = 27 then (q.1, u2 (tstE q.2 q.1) 139 q.1 c)
  else if c = 29 then enE (tstE q.2 q.1) (q.1 - 1) (tstE q.2 q.1 138 q.1)
  else if c < 20 then enE q.2 q.1 (r (tn (c - 1)))
  else enE q.2 q.1 (if c < 100 then 0 else c - 100)
def evL (r : Fx) (c : List Int32) (q : Nat × SS) : Nat × SS := c.foldl (evS r) q
theorem evL_1 {r : Fx} {c : List Int32} {x : Int32} {q : Nat × SS} : evL r (c ++ [x]) q = evS r (evL r c q) x := by
  unfold evL; rw [List.foldl_append]; rfl
-- a level of the reference that wants a part (w), or has one: the value v
def lvE (E : SS) (i : Nat) (D : Dc) (r : Fx) : Prop :=
  (match D 1 with | none => E 139 i = 0 | some q => E 139 i = tmO q.1 ∧ E 138 i = q.2 r) ∧
  (match D 2 with | none => E 141 i = 0 | some q => E 141 i = tmO q.1 ∧ E 140 i = q.2 r) ∧
  (match D 3 with | none => E 143 i = 20 ∧ E 142 i = 0 | some q => E 143 i = tmO q.1 ∧ E 142 i = q.2 r)
def lwE (E : SS) (i : Nat) (D : Dc) (r : Fx) : Prop := lvE E i D r ∧ (match D 4 with | none => E 145 i = 0 | some q => E 145 i = tmO q.1 ∧ E 144 i = q.2 r)
def lsE (E : SS) (r : Fx) : List (Bool × Dc) → Prop
  | [] => True
  | q :: S => E 146 (S.length + 1) = (if q.1 then 1 else 0) ∧ lwE E S.length q.2 r ∧ lsE E r S
theorem lvE_cg {E E' : SS} {i : Nat} {D : Dc} {r : Fx} (h : ∀ f, 138 ≤ f → f ≤ 143 → E' f i = E f i) (hl : lvE E i D r) : lvE E' i D r := by
  unfold lvE at *
  rw [h 138 (by omega) (by omega), h 139 (by omega) (by omega), h 140 (by omega) (by omega), h 141 (by omega) (by omega), h 142 (by omega) (by omega), h 143 (by omega) (by omega)]
  exact hl
theorem lwE_cg {E E' : SS} {i : Nat} {D : Dc} {r : Fx} (h : ∀ f, 138 ≤ f → f ≤ 145 → E' f i = E f i) (hl : lwE E i D r) : lwE E' i D r := by
  refine ⟨lvE_cg (fun f h1 h2 => h f h1 (by omega)) hl.1, ?_⟩
  rw [h 144 (by omega) (by omega), h 145 (by omega) (by omega)]
  exact hl.2
theorem lsE_cg {E E' : SS} {r : Fx} : ∀ {S : List (Bool × Dc)}, (∀ f i, 138 ≤ f → f ≤ 145 → i < S.length → E' f i = E f i) → (∀ i, 1 ≤ i → i ≤ S.length → E' 146 i = E 146 i) → lsE E r S → lsE E' r S := by
  intro S
  induction S with
  | nil => intro _ _ _; exact True.intro
  | cons q S ih =>
    intro h h2 hl
    obtain ⟨a, b, c⟩ := hl
    simp only [List.length_cons] at h h2
    refine ⟨(h2 _ (by omega) (by omega)).trans a, lwE_cg (fun f h3 h4 => h f _ h3 h4 (by omega)) b, ih (fun f i h3 h4 h5 => h f i h3 h4 (by omega)) (fun i h3 h4 => h2 i h3 (by omega)) c⟩
-- the value of an operator: the reference's signs and the class's agree
theorem rk_cases {op : Int32} {k : Nat} (h : rkO op = k) (hk : k ≠ 0) : (k = 1 ∧ (op = 9 ∨ op = 10)) ∨ (k = 2 ∧ (op = 60 ∨ op = 61)) ∨ (k = 3 ∧ (op = 43 ∨ op = 45)) ∨ (k = 4 ∧ (op = 42 ∨ op = 47)) := by
  unfold rkO at h
  by_cases a : op = 9 ∨ op = 10
  · rw [if_pos a] at h; exact Or.inl ⟨h.symm, a⟩
  rw [if_neg a] at h
  by_cases b : op = 60 ∨ op = 61
  · rw [if_pos b] at h; exact Or.inr (Or.inl ⟨h.symm, b⟩)
  rw [if_neg b] at h
  by_cases c : op = 43 ∨ op = 45
  · rw [if_pos c] at h; exact Or.inr (Or.inr (Or.inl ⟨h.symm, c⟩))
  rw [if_neg c] at h
  by_cases d : op = 42 ∨ op = 47
  · rw [if_pos d] at h; exact Or.inr (Or.inr (Or.inr ⟨h.symm, d⟩))
  rw [if_neg d] at h
  exact absurd h.symm hk
theorem term_v {E : SS} {i : Nat} {D : Dc} {r : Fx} {v : Ex} (hr : rkD D) (h : lwE E i D r) : (if E 145 i = 0 then v r else if E 145 i = 22 then E 144 i * v r else if v r = 0 then 0 else E 144 i / v r) = cbO (D 4) v r := by
  have h4 := h.2
  cases hD : D 4 with
  | none =>
    rw [hD] at h4
    have h4 : E 145 i = 0 := h4
    rw [if_pos h4]; rfl
  | some q =>
    rw [hD] at h4
    obtain ⟨h5, h6⟩ := h4
    rw [h5, h6]
    rcases rk_cases (hr 4 (by simp) q hD) (by decide) with ⟨z, -⟩ | ⟨z, -⟩ | ⟨z, -⟩ | ⟨-, e | e⟩
    · exact absurd z (by decide)
    · exact absurd z (by decide)
    · exact absurd z (by decide)
    · show _ = cmF q.1 (q.2 r) (v r)
      rw [e]; rfl
    · show _ = cmF q.1 (q.2 r) (v r)
      rw [e]; rfl
theorem sum_v {E : SS} {i : Nat} {D : Dc} {r : Fx} {t : Int32} {v : Ex} (hr : rkD D) (h : lvE E i D r) (ht : t = v r) : (if E 143 i = 21 then E 142 i - t else E 142 i + t) = cbO (D 3) v r := by
  obtain ⟨-, -, h3⟩ := h
  rw [ht]
  cases hD : D 3 with
  | none =>
    rw [hD] at h3
    obtain ⟨h5, h6⟩ := h3
    rw [h5, h6, if_neg (by decide), Int32.zero_add]; rfl
  | some q =>
    rw [hD] at h3
    obtain ⟨h5, h6⟩ := h3
    rw [h5, h6]
    rcases rk_cases (hr 3 (by simp) q hD) (by decide) with ⟨z, -⟩ | ⟨z, -⟩ | ⟨-, e | e⟩ | ⟨z, -⟩
    · exact absurd z (by decide)
    · exact absurd z (by decide)
    · show _ = cmF q.1 (q.2 r) (v r)
      rw [e]; rfl
    · show _ = cmF q.1 (q.2 r) (v r)
      rw [e]; rfl
    · exact absurd z (by decide)
-- a level with a part in it: the reference's term is that part times what stands ahead
def lnE (E : SS) (i : Nat) (D : Dc) (v : Ex) (r : Fx) : Prop := lvE E i D r ∧ E 144 i = cbO (D 4) v r
theorem sms_142 {E : SS} {i : Nat} {D : Dc} {v : Ex} {r : Fx} (hr : rkD D) (h : lnE E i D v r) : smsE E i 142 i = cbO (D 3) (cbO (D 4) v) r := by
  unfold smsE
  rw [u2_f (by decide), u2_s]
  exact sum_v hr h.1 h.2
theorem sms_o {E : SS} {i f j : Nat} (h1 : f ≠ 142 ∨ j ≠ i) (h2 : f ≠ 145 ∨ j ≠ i) : smsE E i f j = E f j := by
  unfold smsE u2
  rw [if_neg (fun q => h2.elim (fun z => z q.1) (fun z => z q.2)), if_neg (fun q => h1.elim (fun z => z q.1) (fun z => z q.2))]
theorem tst_138 {E : SS} {i : Nat} {D : Dc} {v : Ex} {r : Fx} (hr : rkD D) (h : lnE E i D v r) : tstE E i 138 i = cbR D v 1 r := by
  unfold tstE
  rw [u2_f (by decide), u2_f (by decide), u2_f (by decide), u2_s]
  have e142 := sms_142 hr h
  have o139 : smsE E i 139 i = E 139 i := sms_o (Or.inl (by decide)) (Or.inl (by decide))
  have o138 : smsE E i 138 i = E 138 i := sms_o (Or.inl (by decide)) (Or.inl (by decide))
  have o140 : smsE E i 140 i = E 140 i := sms_o (Or.inl (by decide)) (Or.inl (by decide))
  have o141 : smsE E i 141 i = E 141 i := sms_o (Or.inl (by decide)) (Or.inl (by decide))
  have h2v : t2E (smsE E i) i = cbO (D 2) (cbO (D 3) (cbO (D 4) v)) r := by
    unfold t2E t1E
    rw [e142, o140, o141]
    obtain ⟨-, h2, -⟩ := h.1
    cases hD : D 2 with
    | none =>
      rw [hD] at h2
      have h2 : E 141 i = 0 := h2
      rw [h2, if_neg (by decide), if_neg (by decide)]; rfl
    | some q =>
      rw [hD] at h2
      obtain ⟨h5, h6⟩ := h2
      rw [h5, h6]
      rcases rk_cases (hr 2 (by simp) q hD) (by decide) with ⟨z, -⟩ | ⟨-, e | e⟩ | ⟨z, -⟩ | ⟨z, -⟩
      · exact absurd z (by decide)
      · show _ = cmF q.1 (q.2 r) _
        rw [e]; rfl
      · show _ = cmF q.1 (q.2 r) _
        rw [e]; rfl
      · exact absurd z (by decide)
      · exact absurd z (by decide)
  unfold t4E t3E
  rw [h2v, o138, o139]
  show _ = cbO (D 1) (cbO (D 2) (cbO (D 3) (cbO (D 4) v))) r
  obtain ⟨h1, -, -⟩ := h.1
  cases hD : D 1 with
  | none =>
    rw [hD] at h1
    have h1 : E 139 i = 0 := h1
    rw [h1, if_neg (by decide), if_neg (by decide)]; rfl
  | some q =>
    rw [hD] at h1
    obtain ⟨h5, h6⟩ := h1
    rw [h5, h6]
    rcases rk_cases (hr 1 (by simp) q hD) (by decide) with ⟨-, e | e⟩ | ⟨z, -⟩ | ⟨z, -⟩ | ⟨z, -⟩
    · show _ = cmF q.1 (q.2 r) _
      rw [e]; rfl
    · show _ = cmF q.1 (q.2 r) _
      rw [e]; rfl
    · exact absurd z (by decide)
    · exact absurd z (by decide)
    · exact absurd z (by decide)
theorem tst_o {E : SS} {i f j : Nat} (h : j ≠ i ∨ (f ≠ 138 ∧ f ≠ 141 ∧ f ≠ 142 ∧ f ≠ 143 ∧ f ≠ 145)) : tstE E i f j = E f j := by
  unfold tstE u2
  rw [if_neg (fun q => h.elim (fun z => z q.2) (fun z => z.2.2.2.1 q.1)), if_neg (fun q => h.elim (fun z => z q.2) (fun z => z.2.2.1 q.1)), if_neg (fun q => h.elim (fun z => z q.2) (fun z => z.2.1 q.1)), if_neg (fun q => h.elim (fun z => z q.2) (fun z => z.1 q.1))]
  exact sms_o (h.elim Or.inr (fun z => Or.inl z.2.2.1)) (h.elim Or.inr (fun z => Or.inl z.2.2.2.2))
