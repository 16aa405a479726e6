-- LEVEL 3, part 47: an expression as the class reads it: pieces
def ceQ (c W : List Int32) (w : Bool) (v : Ex) (D : Dc) (S : List (Bool × Dc)) : Prop := W = wtD D ++ wtS S ∧ ∀ (r : Fx) (V0 : List Int32), V0.length ≤ 1 → rkL r c V0 = (if w = true then [] else [v r]) ++ ((vaD r D ++ vaS r S) ++ V0)
theorem cq_new {v : Ex} : ceQ [] [] true v noD [] := ⟨rfl, fun _ _ _ => rfl⟩
theorem cq_part {c W : List Int32} {v x : Ex} {y : Int32} {D : Dc} {S : List (Bool × Dc)} (h : ceQ c W true v D S) (hS : S.length ≤ 5) (hy : y < 20000) (hv : ∀ r, (if y < 10000 then y else fcF r (y - 10000)) = x r) : ceQ (c ++ [y]) W false x D S := by
  refine ⟨h.1, fun r V0 hV => ?_⟩
  rw [rkL_1, h.2 r V0 hV]
  show stL r y ([] ++ ((vaD r D ++ vaS r S) ++ V0)) = [x r] ++ ((vaD r D ++ vaS r S) ++ V0)
  have h1 := len_va (r := r) (D := D)
  have h2 := len_vaS (r := r) S
  unfold stL
  rw [if_pos hy, if_pos (by rw [List.nil_append, List.length_append, List.length_append]; omega), hv r]
  rfl
theorem cq_not {c W : List Int32} {v : Ex} {D D1 : Dc} {S : List (Bool × Dc)} (h : ceQ c (11 :: W) false v D ((true, D1) :: S)) (hD : D = noD) : ceQ (c ++ [20011]) W false (nvE v) D1 S := by
  subst hD
  refine ⟨?_, fun r V0 hV => ?_⟩
  · have := h.1
    have e : wtD noD ++ wtS ((true, D1) :: S) = 11 :: (wtD D1 ++ wtS S) := rfl
    rw [e] at this
    exact (List.cons.inj this).2
  · rw [rkL_1, h.2 r V0 hV]; rfl
theorem cq_pop {c W : List Int32} {v : Ex} {D : Dc} {S : List (Bool × Dc)} {k : Nat} {q : Int32 × Ex} (hk : k = 1 ∨ k = 2 ∨ k = 3 ∨ k = 4) (hr : rkD D) (hq : D k = some q) (h : ceQ c W false v (clD D (k + 1)) S) :
    ∃ W', W = q.1 :: W' ∧ ceQ (c ++ [20000 + q.1]) W' false (cbO (D k) v) (clD D k) S := by
  have hop := rk_cases (hr k hk q hq) (by omega)
  have ne : ¬ (20000 + q.1 < 20000) ∧ ¬ (20000 + q.1 = 20011) ∧ 20000 + q.1 - 20000 = q.1 := by
    rcases hop with ⟨-, e | e⟩ | ⟨-, e | e⟩ | ⟨-, e | e⟩ | ⟨-, e | e⟩ <;> rw [e] <;> decide
  have hw : wtD (clD D (k + 1)) = q.1 :: wtD (clD D k) := by
    rcases hk with rfl | rfl | rfl | rfl <;> simp [wtD, clD, opL, hq]
  have hv : ∀ r, vaD r (clD D (k + 1)) = q.2 r :: vaD r (clD D k) := fun r => by
    rcases hk with rfl | rfl | rfl | rfl <;> simp [vaD, clD, vaL, hq]
  refine ⟨wtD (clD D k) ++ wtS S, by rw [h.1, hw]; rfl, rfl, fun r V0 hV => ?_⟩
  rw [rkL_1, h.2 r V0 hV, hv r, hq]
  show stL r (20000 + q.1) ([v r] ++ ((q.2 r :: vaD r (clD D k) ++ vaS r S) ++ V0)) = _
  unfold stL
  rw [if_neg ne.1, if_neg ne.2.1]
  show cmF (20000 + q.1 - 20000) (q.2 r) (v r) :: ((vaD r (clD D k) ++ vaS r S) ++ V0) = _
  rw [ne.2.2]; rfl
theorem cq_push {c W : List Int32} {v : Ex} {D : Dc} {S : List (Bool × Dc)} {op : Int32} (hk : rkO op ≠ 0) (h : ceQ c W false (cbR D v (rkO op)) (clD D (rkO op)) S) : ceQ c (op :: W) true v (opD D op v) S := by
  have hkk : rkO op = 1 ∨ rkO op = 2 ∨ rkO op = 3 ∨ rkO op = 4 := by
    rcases rk_cases (op := op) rfl hk with ⟨a, -⟩ | ⟨a, -⟩ | ⟨a, -⟩ | ⟨a, -⟩ <;> omega
  have hw : wtD (opD D op v) = op :: wtD (clD D (rkO op)) := by
    unfold opD
    generalize rkO op = k at *
    rcases hkk with rfl | rfl | rfl | rfl <;> simp [wtD, clD, opL]
  have hv : ∀ r, vaD r (opD D op v) = cbR D v (rkO op) r :: vaD r (clD D (rkO op)) := fun r => by
    unfold opD
    generalize rkO op = k at *
    rcases hkk with rfl | rfl | rfl | rfl <;> simp [vaD, clD, vaL]
  refine ⟨by rw [h.1, hw]; rfl, fun r V0 hV => ?_⟩
  rw [h.2 r V0 hV, hv r]; rfl
theorem cq_opens {c W : List Int32} {v : Ex} {D : Dc} {S : List (Bool × Dc)} {b : Bool} (h : ceQ c W true v D S) : ceQ c ((if b = true then 11 else 40) :: W) true v noD ((b, D) :: S) := by
  refine ⟨by rw [h.1]; rfl, fun r V0 hV => ?_⟩
  rw [h.2 r V0 hV]; rfl
theorem cq_shut {c W : List Int32} {v : Ex} {D1 : Dc} {S : List (Bool × Dc)} (h : ceQ c W false v noD ((false, D1) :: S)) : ∃ W', W = 40 :: W' ∧ ceQ c W' false v D1 S := by
  refine ⟨wtD D1 ++ wtS S, by rw [h.1]; rfl, rfl, fun r V0 hV => ?_⟩
  rw [h.2 r V0 hV]; rfl
-- what stands on top of the waiting row
theorem wt_hd {D : Dc} (hr : rkD D) : wtD D = [] ∨ ∃ o T, wtD D = o :: T ∧ rkO o ≠ 0 := by
  have one : ∀ k, k = 1 ∨ k = 2 ∨ k = 3 ∨ k = 4 → opL (D k) = [] ∨ ∃ o, opL (D k) = [o] ∧ rkO o ≠ 0 := fun k hk => by
    cases h : D k with
    | none => exact Or.inl rfl
    | some q => exact Or.inr ⟨q.1, rfl, by have := hr k hk q h; omega⟩
  unfold wtD
  rcases one 4 (by simp) with h4 | ⟨o, h4, r4⟩
  · rw [h4]
    rcases one 3 (by simp) with h3 | ⟨o, h3, r3⟩
    · rw [h3]
      rcases one 2 (by simp) with h2 | ⟨o, h2, r2⟩
      · rw [h2]
        rcases one 1 (by simp) with h1 | ⟨o, h1, r1⟩
        · rw [h1]; exact Or.inl rfl
        · rw [h1]; exact Or.inr ⟨o, _, rfl, r1⟩
      · rw [h2]; exact Or.inr ⟨o, _, rfl, r2⟩
    · rw [h3]; exact Or.inr ⟨o, _, rfl, r3⟩
  · rw [h4]; exact Or.inr ⟨o, _, rfl, r4⟩
theorem W_hd {c W : List Int32} {w : Bool} {v : Ex} {D : Dc} {S : List (Bool × Dc)} (h : ceQ c W w v D S) (ho : okS D S) (hh : hdN S) : W = [] ∨ ∃ o T, W = o :: T ∧ o ≠ 11 := by
  have h11 : rkO 11 = 0 := by decide
  rcases wt_hd (okS_rk ho) with q | ⟨o, T, q, r⟩
  · cases S with
    | nil => exact Or.inl (by rw [h.1, q]; rfl)
    | cons s S =>
      have := hh s S rfl
      refine Or.inr ⟨40, wtD s.2 ++ wtS S, ?_, by decide⟩
      rw [h.1, q]
      show [] ++ ((if s.1 = true then (11 : Int32) else 40) :: (wtD s.2 ++ wtS S)) = _
      rw [this]; rfl
  · exact Or.inr ⟨o, T ++ wtS S, by rw [h.1, q]; rfl, fun z => r (by rw [z]; exact h11)⟩
theorem S_hd {c W : List Int32} {w : Bool} {v : Ex} {D : Dc} {S : List (Bool × Dc)} (h : ceQ c W w v D S) : W = wtD D ++ wtS S := h.1
-- popping, rank by rank
def cvD (D : Dc) (v : Ex) (j : Nat) : Ex := if j = 5 then v else cbR D v j
theorem cv_step {D : Dc} {v : Ex} {k : Nat} (hk : k = 1 ∨ k = 2 ∨ k = 3 ∨ k = 4) : cvD D v k = cbO (D k) (cvD D v (k + 1)) := by
  rcases hk with rfl | rfl | rfl | rfl <;> rfl
theorem cb_none {v : Ex} : cbO none v = v := rfl
theorem cq_down {c W : List Int32} {v : Ex} {D : Dc} {S : List (Bool × Dc)} {i : Nat} : ∀ j, i ≤ j → 1 ≤ i → j ≤ 5 → (∀ k, i ≤ k → k < j → D k = none) → ceQ c W false (cvD D v j) (clD D j) S → ceQ c W false (cvD D v i) (clD D i) S := by
  intro j
  induction j with
  | zero => intro h1 h2; omega
  | succ j ih =>
    intro hij hi hj hn h
    by_cases c : i = j + 1
    · rw [c]; exact h
    · have e := hn j (by omega) (by omega)
      rw [clD_none e] at h
      refine ih (by omega) hi (by omega) (fun k a b => hn k a (by omega)) ?_
      rw [cv_step (by omega), e, cb_none]; exact h
theorem cq_0 {c W : List Int32} {v : Ex} {D : Dc} {S : List (Bool × Dc)} (h : ceQ c W false v (clD D 1) S) : ceQ c W false v noD S := h
theorem cq_find {D : Dc} : ∀ j, j ≤ 5 → (∀ k, 1 ≤ k → k < j → D k = none) ∨ ∃ k q, 1 ≤ k ∧ k < j ∧ D k = some q ∧ ∀ i, k < i → i < j → D i = none := by
  intro j
  induction j with
  | zero => intro _; exact Or.inl (fun k a b => by omega)
  | succ j ih =>
    intro hj
    by_cases c : j = 0
    · exact Or.inl (fun k a b => by omega)
    · cases h : D j with
      | some q => exact Or.inr ⟨j, q, by omega, by omega, h, fun i a b => by omega⟩
      | none =>
        rcases ih (by omega) with q | ⟨k, q, k1, k2, k3, k4⟩
        · refine Or.inl (fun k a b => ?_)
          by_cases d : k = j
          · rw [d]; exact h
          · exact q k a (by omega)
        · refine Or.inr ⟨k, q, k1, by omega, k3, fun i a b => ?_⟩
          by_cases d : i = j
          · rw [d]; exact h
          · exact k4 i a (by omega)
theorem cq_next {c W : List Int32} {v : Ex} {D : Dc} {S : List (Bool × Dc)} {j : Nat} (hj : 1 ≤ j) (hj5 : j ≤ 5) (hr : rkD D) (h : ceQ c W false (cvD D v j) (clD D j) S) :
    ((∀ k, 1 ≤ k → k < j → D k = none) ∧ W = wtS S ∧ ceQ c W false (cvD D v 1) noD S) ∨
    ∃ k q W', 1 ≤ k ∧ k < j ∧ D k = some q ∧ rkO q.1 = k ∧ (∀ i, k < i → i < j → D i = none) ∧ W = q.1 :: W' ∧ ceQ (c ++ [20000 + q.1]) W' false (cvD D v k) (clD D k) S := by
  rcases cq_find (D := D) j hj5 with q | ⟨k, q, k1, k2, k3, k4⟩
  · have a := cq_down j hj (Nat.le_refl _) hj5 q h
    exact Or.inl ⟨q, a.1, cq_0 a⟩
  · have a := cq_down (i := k + 1) j (by omega) (by omega) hj5 (fun i a b => k4 i (by omega) b) h
    obtain ⟨W', w1, w2⟩ := cq_pop (k := k) (by omega) hr k3 a
    rw [← cv_step (by omega)] at w2
    exact Or.inr ⟨k, q, W', k1, k2, k3, hr k (by omega) q k3, k4, w1, w2⟩
-- the class's codes and waiting row in its cells
def skL (M : Mem) : Nat → List Int32
  | 0 => []
  | m + 1 => mi M 74 m :: skL M m
theorem skL_cg {M M' : Mem} : ∀ m, (∀ j, j < m → mi M' 74 j = mi M 74 j) → skL M' m = skL M m := by
  intro m
  induction m with
  | zero => intro _; rfl
  | succ m ih => intro h; show mi M' 74 m :: skL M' m = mi M 74 m :: skL M m; rw [ih (fun j hj => h j (by omega)), h m (by omega)]
theorem cdN_cg {M M' : Mem} {a : Nat} (n : Nat) (h : ∀ j, j < n → mi M' a j = mi M a j) : cdL M' a n = cdL M a n := by
  unfold cdL
  apply List.map_congr_left
  intro j hj
  exact h j (List.mem_range.mp hj)
theorem cdL_s {M : Mem} {a n : Nat} : cdL M a (n + 1) = cdL M a n ++ [mi M a n] := by
  unfold cdL
  rw [List.range_succ, List.map_append]; rfl
theorem cdL_len {M : Mem} {a n : Nat} : (cdL M a n).length = n := by unfold cdL; rw [List.length_map, List.length_range]
def esC (M : Mem) (c W : List Int32) : Prop := mi M 71 8 = nI c.length ∧ cdL M 73 c.length = c ∧ mi M 71 10 = nI W.length ∧ skL M W.length = W
theorem es_cg {M M' : Mem} {c W : List Int32} (h : esC M c W) (h1 : mi M' 71 8 = mi M 71 8) (h2 : ∀ j, mi M' 73 j = mi M 73 j) (h3 : mi M' 71 10 = mi M 71 10) (h4 : ∀ j, mi M' 74 j = mi M 74 j) : esC M' c W :=
  ⟨h1.trans h.1, (cdN_cg _ (fun j _ => h2 j)).trans h.2.1, h3.trans h.2.2.1, (skL_cg _ (fun j _ => h4 j)).trans h.2.2.2⟩
theorem es_top {M : Mem} {c W : List Int32} {t : Int32} (h : esC M c (t :: W)) (hl : W.length < 64) : mi M 71 10 - 1 = nI W.length ∧ mi M 74 W.length = t := by
  obtain ⟨-, -, h3, h4⟩ := h
  refine ⟨?_, ?_⟩
  · rw [h3, List.length_cons, show (1 : Int32) = nI 1 from rfl, pk_sub (by omega), Nat.add_sub_cancel]
  · have : mi M 74 W.length :: skL M W.length = t :: W := h4
    exact (List.cons.inj this).1
theorem es_pop {M M' : Mem} {c W : List Int32} {t : Int32} (h : esC M c (t :: W)) (e : M' = si M 71 10 (mi M 71 10 - 1)) (hl : W.length < 64) : esC M' c W := by
  have tp := (es_top h hl).1
  obtain ⟨h1, h2, h3, h4⟩ := h
  refine ⟨by rw [e, mi_si, if_neg (by omega)]; exact h1, ?_, by rw [e, mi_si, if_pos ⟨rfl, rfl⟩]; exact tp, ?_⟩
  · rw [cdN_cg (M := M) _ (fun j _ => by rw [e, mi_si, if_neg (by omega)])]; exact h2
  · rw [skL_cg (M := M) _ (fun j _ => by rw [e, mi_si, if_neg (by omega)])]
    have : mi M 74 W.length :: skL M W.length = t :: W := h4
    exact (List.cons.inj this).2
def PEm (a k : Nat) : Prop := (a = 71 ∧ (k = 8 ∨ k = 10 ∨ k = 11 ∨ k = 12 ∨ k = 13)) ∨ a = 73 ∨ a = 74
section EXP
variable {L : Lay} {M : Mem}
theorem c_emit5 {c W : List Int32} {x : Int32} {Q : Mem → Prop} (h : esC M c W) (hc : c.length < 1000) (hQ : ∀ M', esC M' (c ++ [x]) W → FJ (fun a k => (a = 71 ∧ k = 8) ∨ a = 73) M M' → Q M') : w_X5_emit L x M Q := by
  obtain ⟨h1, h2, h3, h4⟩ := h
  unfold w_X5_emit
  rw [h1, nI_lt' (by omega) (by omega), tn_nI (n := c.length) (by omega)]
  refine ⟨fun _ => ⟨vp_in_nI (by omega) (by decide), fun M1 e1 M2 e2 => ?_⟩, fun z => absurd hc z⟩
  have k1 : mi M1 71 8 = nI c.length := by rw [e1, mi_si, if_neg (by omega)]; exact h1
  rw [k1, nI_1] at e2
  refine hQ M2 ⟨by rw [e2, mi_si, if_pos ⟨rfl, rfl⟩, List.length_append]; rfl, ?_, by rw [e2, mi_si, if_neg (by omega), e1, mi_si, if_neg (by omega)]; exact h3, ?_⟩ (by rw [e2, e1]; exact (FJ.rf.si (Or.inr rfl)).si (Or.inl ⟨rfl, rfl⟩))
  · rw [List.length_append, List.length_singleton, cdL_s]
    rw [cdN_cg (M := M) c.length (fun j hj => by rw [e2, mi_si, if_neg (by omega), e1, mi_si, if_neg (by omega)]), h2, e2, mi_si, if_neg (by omega), e1, mi_si, if_pos ⟨rfl, rfl⟩]
  · rw [skL_cg (M := M) _ (fun j hj => by rw [e2, mi_si, if_neg (by omega), e1, mi_si, if_neg (by omega)])]; exact h4
theorem c_push5 {c W : List Int32} {Q : Mem → Prop} (h : esC M c W) (hw : W.length < 64) (hQ : ∀ M', esC M' c (mi M 71 3 :: W) → FJ (fun a k => (a = 71 ∧ k = 10) ∨ a = 74) M M' → Q M') : w_X5_pushWaiting L M Q := by
  obtain ⟨h1, h2, h3, h4⟩ := h
  unfold w_X5_pushWaiting
  rw [h3, nI_lt' (by omega) (by omega), tn_nI (n := W.length) (by omega)]
  refine ⟨fun _ => ⟨vp_in_nI (by omega) (by decide), fun M1 e1 M2 e2 => ?_⟩, fun z => absurd hw z⟩
  have k1 : mi M1 71 10 = nI W.length := by rw [e1, mi_si, if_neg (by omega)]; exact h3
  rw [k1, nI_1] at e2
  refine hQ M2 ⟨by rw [e2, mi_si, if_neg (by omega), e1, mi_si, if_neg (by omega)]; exact h1, ?_, by rw [e2, mi_si, if_pos ⟨rfl, rfl⟩]; rfl, ?_⟩ (by rw [e2, e1]; exact (FJ.rf.si (Or.inr rfl)).si (Or.inl ⟨rfl, rfl⟩))
  · rw [cdN_cg (M := M) c.length (fun j hj => by rw [e2, mi_si, if_neg (by omega), e1, mi_si, if_neg (by omega)])]; exact h2
  · show mi M2 74 W.length :: skL M2 W.length = mi M 71 3 :: W
    rw [skL_cg (M := M) _ (fun j hj => by rw [e2, mi_si, if_neg (by omega), e1, mi_si, if_neg (by omega)]), h4, e2, mi_si, if_neg (by omega), e1, mi_si, if_pos ⟨rfl, rfl⟩]
theorem W_len {c W : List Int32} {w : Bool} {v : Ex} {D : Dc} {S : List (Bool × Dc)} (h : ceQ c W w v D S) (hS : S.length ≤ 5) : W.length < 32 := by
  have h1 := len_wt (D := D)
  have h2 := len_wtS S
  rw [h.1, List.length_append]; omega
theorem c_endP {c W : List Int32} {v : Ex} {D : Dc} {S : List (Bool × Dc)} {B : Nat} {Q : Mem → Prop} (h : esC M c W) (hq : ceQ c W false v D S) (ho : okS D S) (hS : S.length ≤ 5) (hB : c.length + W.length ≤ B) (hB2 : B ≤ 1000) (h13 : mi M 71 13 = nI S.length)
    (hQ : ∀ M' c' W', esC M' c' W' → ceQ c' W' false (clN v D S).1 (clN v D S).2.1 (clN v D S).2.2 → c'.length + W'.length ≤ B → mi M' 71 11 = 0 → mi M' 71 13 = nI (clN v D S).2.2.length → (clN v D S).2.2.length ≤ 5 → FJ (fun a k => (a = 71 ∧ (k = 8 ∨ k = 10 ∨ k = 11 ∨ k = 13)) ∨ a = 73) M M' → Q M') : w_X5_endPart L M Q := by
  unfold w_X5_endPart
  intro M0 e0
  refine LP1_m (fun m M' => ∃ c' W' v' D' S', esC M' c' W' ∧ ceQ c' W' false v' D' S' ∧ okS D' S' ∧ S'.length ≤ 5 ∧ clN v' D' S' = clN v D S ∧ c'.length + W'.length ≤ B ∧ mi M' 71 13 = nI S'.length ∧ mi M' 71 11 = 0 ∧ m = S'.length ∧ FJ (fun a k => (a = 71 ∧ (k = 8 ∨ k = 10 ∨ k = 11 ∨ k = 13)) ∨ a = 73) M M') S.length
    ⟨c, W, v, D, S, es_cg h (by rw [e0, mi_si, if_neg (by omega)]) (fun j => by rw [e0, mi_si, if_neg (by omega)]) (by rw [e0, mi_si, if_neg (by omega)]) (fun j => by rw [e0, mi_si, if_neg (by omega)]), hq, ho, hS, rfl, hB, by rw [e0, mi_si, if_neg (by omega)]; exact h13, by rw [e0, mi_si, if_pos ⟨rfl, rfl⟩], rfl, by rw [e0]; exact FJ.rf.si (by omega)⟩ ?_
  intro m M1 ⟨c', W', v', D', S', a1, a2, a3, a4, a5, a6, a7, a8, a9, F1⟩ K hK
  have wl := W_len a2 a4
  have fin : hdN S' → Q M1 := fun hh => by
    have e : clN v' D' S' = (v', D', S') := by
      cases S' with
      | nil => rfl
      | cons s S1 =>
        have := hh s S1 rfl
        show (if s.1 = true then _ else _) = _
        rw [this]; rfl
    rw [e] at a5
    have g := hQ M1 c' W' a1
    rw [← a5] at g
    exact g a2 a6 a8 a7 a4 F1
  unfold w_X5_endPart_5
  rw [a1.2.2.1, show (0 : Int32) = nI 0 from rfl, nI_lt' (by omega) (by omega)]
  refine ⟨fun hpos => ?_, fun hz => fin ?_⟩
  · cases hW : W' with
    | nil => rw [hW] at hpos; exact absurd hpos (by decide)
    | cons t T =>
      subst hW
      have tl : T.length < 64 := by rw [List.length_cons] at wl; omega
      obtain ⟨t1, t2⟩ := es_top a1 tl
      rw [← a1.2.2.1, t1, tn_nI (n := T.length) (by omega), t2]
      refine ⟨vp_in_nI tl (by decide), fun ct => ?_, fun ct => fin ?_⟩
      · subst ct
        have hS' : ∃ D1 S1, S' = (true, D1) :: S1 := by
          cases S' with
          | nil =>
            rcases W_hd a2 a3 (fun q T h => by cases h) with q | ⟨o, T', q, q2⟩
            · cases q
            · exact absurd (List.cons.inj q).1.symm q2
          | cons s S1 =>
            obtain ⟨sb, D1⟩ := s
            cases sb with
            | true => exact ⟨D1, S1, rfl⟩
            | false =>
              rcases W_hd a2 a3 (fun q T h => by cases h; rfl) with q | ⟨o, T', q, q2⟩
              · cases q
              · exact absurd (List.cons.inj q).1.symm q2
        obtain ⟨D1, S1, rfl⟩ := hS'
        have hD := a3.2.1 rfl
        have b2 := cq_not a2 hD
        rw [show (20000 : Int32) + 11 = 20011 from by decide]
        refine c_emit5 a1 (by rw [List.length_cons] at a6; omega) (fun M2 g2 F2 M3 e3 M4 e4 => ?_)
        have g3 : esC M3 (c' ++ [20011]) (11 :: T) := es_cg g2 (by rw [e3, mi_si, if_neg (by omega)]) (fun j => by rw [e3, mi_si, if_neg (by omega)]) (by rw [e3, mi_si, if_neg (by omega)]) (fun j => by rw [e3, mi_si, if_neg (by omega)])
        have g4 := es_pop g3 e4 tl
        have k13 : mi M2 71 13 = nI (S1.length + 1) := by rw [F2.1 _ _ (by omega)]; exact a7
        rw [k13, show (1 : Int32) = nI 1 from rfl, pk_sub (by omega), Nat.add_sub_cancel] at e3
        refine hK S1.length (by rw [a9]; show S1.length < S1.length + 1; omega) M4 ⟨c' ++ [20011], T, nvE v', D1, S1, g4, b2, a3.2.2, ?_, ?_, ?_, ?_, ?_, rfl, ?_⟩
        · have a4 : S1.length + 1 ≤ 5 := a4
          omega
        · rw [← a5]; rfl
        · rw [List.length_append]; rw [List.length_cons] at a6; show c'.length + 1 + T.length ≤ B; omega
        · rw [e4, mi_si, if_neg (by omega), e3, mi_si, if_pos ⟨rfl, rfl⟩]
        · rw [e4, mi_si, if_neg (by omega), e3, mi_si, if_neg (by omega), F2.1 _ _ (by omega)]; exact a8
        · rw [e4, e3]; exact ((F1.tr (F2.mono (fun a k q => by omega))).si (by omega)).si (by omega)
      · intro s S1 es
        subst es
        cases hs : s.1 with
        | false => rfl
        | true =>
          exfalso
          have hD := a3.2.1 hs
          have := a2.1
          rw [hD] at this
          have e : wtD noD ++ wtS (s :: S1) = 11 :: (wtD s.2 ++ wtS S1) := by
            show (if s.1 = true then (11 : Int32) else 40) :: (wtD s.2 ++ wtS S1) = _
            rw [hs]; rfl
          rw [e] at this
          exact ct (List.cons.inj this).1
  · intro s S1 es
    subst es
    have : W' = [] := List.eq_nil_of_length_eq_zero (by omega)
    have h1 := a2.1
    rw [this] at h1
    have : wtS (s :: S1) = [] := (List.append_eq_nil_iff.mp h1.symm).2
    exact absurd this (by show ¬ (_ :: _ = []); intro z; cases z)
theorem c_rank {p : Int32} {Q : Int32 → Mem → Prop} (h : Q (nI (rkO p)) M) : w_X5_rankOf L p M Q := by
  unfold w_X5_rankOf
  have d : ∀ x : Int32, p = x → rkO p = rkO x := fun x e => by rw [e]
  refine ⟨fun c => by rw [d _ c] at h; exact h, fun c1 => ⟨fun c => by rw [d _ c] at h; exact h, fun c2 => ⟨fun c => by rw [d _ c] at h; exact h, fun c3 => ⟨fun c => by rw [d _ c] at h; exact h, fun c4 => ⟨fun c => by rw [d _ c] at h; exact h, fun c5 => ⟨fun c => by rw [d _ c] at h; exact h, fun c6 => ⟨fun c => by rw [d _ c] at h; exact h, fun c7 => ⟨fun c => by rw [d _ c] at h; exact h, fun c8 => ?_⟩⟩⟩⟩⟩⟩⟩⟩
  have : rkO p = 0 := by
    unfold rkO
    rw [if_neg (fun q => q.elim c1 c2), if_neg (fun q => q.elim c7 c8), if_neg (fun q => q.elim c4 c5), if_neg (fun q => q.elim c3 c6)]
  rw [this] at h; exact h
theorem c_close5 {c W : List Int32} {v : Ex} {D D1 : Dc} {S : List (Bool × Dc)} {B o : Nat} {Q : Int32 → Mem → Prop} (h : esC M c W) (hq : ceQ c W false v D ((false, D1) :: S)) (ho : okS D ((false, D1) :: S)) (hS : S.length < 5) (hB : c.length + W.length ≤ B) (hB2 : B ≤ 1000) (h13 : mi M 71 13 = nI (S.length + 1)) (h12 : mi M 71 12 = nI (o + 1)) (ho5 : o < 6)
    (hQ : ∀ M' c' W', esC M' c' W' → ceQ c' W' false (clN (cbR D v 1) D1 S).1 (clN (cbR D v 1) D1 S).2.1 (clN (cbR D v 1) D1 S).2.2 → c'.length + W'.length ≤ B → mi M' 71 11 = 0 → mi M' 71 12 = nI o → mi M' 71 13 = nI (clN (cbR D v 1) D1 S).2.2.length → (clN (cbR D v 1) D1 S).2.2.length ≤ 5 → FJ PEm M M' → Q 1 M') : w_X5_closePart L M Q := by
  have hr := okS_rk ho
  unfold w_X5_closePart
  rw [h12, show (0 : Int32) = nI 0 from rfl, nI_eq' (by omega) (by omega)]
  refine ⟨fun z => absurd z (by omega), fun _ => ?_⟩
  refine LP1_m (fun m M' => ∃ c' W' j, 1 ≤ j ∧ j ≤ 5 ∧ m = j ∧ esC M' c' W' ∧ ceQ c' W' false (cvD D v j) (clD D j) ((false, D1) :: S) ∧ c'.length + W'.length ≤ B ∧ FJ (fun a k => (a = 71 ∧ (k = 8 ∨ k = 10)) ∨ a = 73) M M') 5
    ⟨c, W, 5, by omega, by omega, rfl, h, ⟨hq.1, hq.2⟩, hB, FJ.rf⟩ ?_
  intro m M1 ⟨c', W', j, j1, j5, hm, a1, a2, a3, F1⟩ K hK
  have wl : W'.length < 64 := by
    have h1 := len_wt (D := clD D j)
    have h2 := len_wtS ((false, D1) :: S)
    have e := a2.1
    rw [e, List.length_append]
    have : ((false, D1) :: S).length = S.length + 1 := rfl
    omega
  unfold w_X5_closePart_9
  rw [a1.2.2.1, show (0 : Int32) = nI 0 from rfl, nI_lt' (by omega) (by omega)]
  rcases cq_next j1 j5 hr a2 with ⟨-, q2, q3⟩ | ⟨k, q, W2, k1, k2, k3, k4, k5, k6, k7⟩
  · have eW : W' = 40 :: (wtD D1 ++ wtS S) := q2
    subst eW
    have tl : (wtD D1 ++ wtS S).length < 64 := by rw [List.length_cons] at wl; omega
    obtain ⟨t1, t2⟩ := es_top a1 tl
    refine ⟨fun _ => ?_, fun z => absurd (by rw [List.length_cons]; omega) z⟩
    rw [← a1.2.2.1, t1, tn_nI (n := (wtD D1 ++ wtS S).length) (by omega), t2]
    refine ⟨vp_in_nI tl (by decide), fun _ => ?_, fun z => absurd rfl z⟩
    unfold w_X5_closePart_64
    intro M2 e2 M3 e3 M4 e4
    rw [t1, jmax0 (nI_pos (by omega)), ← t1] at e2
    have g2 := es_pop a1 e2 tl
    have g4 : esC M4 c' (wtD D1 ++ wtS S) := es_cg g2 (by rw [e4, mi_si, if_neg (by omega), e3, mi_si, if_neg (by omega)]) (fun j => by rw [e4, mi_si, if_neg (by omega), e3, mi_si, if_neg (by omega)]) (by rw [e4, mi_si, if_neg (by omega), e3, mi_si, if_neg (by omega)]) (fun j => by rw [e4, mi_si, if_neg (by omega), e3, mi_si, if_neg (by omega)])
    have k12 : mi M2 71 12 = nI (o + 1) := by rw [e2, mi_si, if_neg (by omega), F1.1 _ _ (by omega)]; exact h12
    have k13 : mi M3 71 13 = nI (S.length + 1) := by rw [e3, mi_si, if_neg (by omega), e2, mi_si, if_neg (by omega), F1.1 _ _ (by omega)]; exact h13
    rw [k12, show (1 : Int32) = nI 1 from rfl, pk_sub (by omega), Nat.add_sub_cancel] at e3
    rw [k13, show (1 : Int32) = nI 1 from rfl, pk_sub (by omega), Nat.add_sub_cancel] at e4
    obtain ⟨W3, w1, w2⟩ := cq_shut q3
    have w3 : W3 = wtD D1 ++ wtS S := (List.cons.inj w1).2.symm
    subst w3
    have F4 : FJ PEm M M4 := by rw [e4, e3, e2]; exact (((F1.mono (fun a k q => by unfold PEm; omega)).si (by unfold PEm; omega)).si (by unfold PEm; omega)).si (by unfold PEm; omega)
    refine c_endP g4 w2 ho.2.2 (by omega) (B := B) (by rw [List.length_cons] at a3; omega) hB2 (by rw [e4, mi_si, if_pos ⟨rfl, rfl⟩]) (fun M5 c5 W5 b1 b2 b3 b4 b5 b6 F5 => ?_)
    refine hQ M5 c5 W5 b1 b2 b3 b4 ?_ b5 b6 (F4.tr (F5.mono (fun a k q => by unfold PEm; omega)))
    rw [F5.1 _ _ (by omega), e4, mi_si, if_neg (by omega), e3, mi_si, if_pos ⟨rfl, rfl⟩]
  · subst k6
    have tl : W2.length < 64 := by rw [List.length_cons] at wl; omega
    obtain ⟨t1, t2⟩ := es_top a1 tl
    refine ⟨fun _ => ?_, fun z => absurd (by rw [List.length_cons]; omega) z⟩
    rw [← a1.2.2.1, t1, tn_nI (n := W2.length) (by omega), t2]
    have n40 : ¬ q.1 = 40 := fun z => by rw [z] at k4; have : rkO 40 = 0 := by decide
                                         omega
    refine ⟨vp_in_nI tl (by decide), fun z => absurd z n40, fun _ => c_emit5 a1 (by rw [List.length_cons] at a3; omega) (fun M2 g2 F2 M3 e3 => ?_)⟩
    have g3 := es_pop g2 e3 tl
    refine hK k (by omega) M3 ⟨c' ++ [20000 + q.1], W2, k, k1, by omega, rfl, g3, k7, ?_, ?_⟩
    · rw [List.length_append]; rw [List.length_cons] at a3; show c'.length + 1 + W2.length ≤ B; omega
    · rw [e3]; exact (F1.tr (F2.mono (fun a k q => by omega))).si (by omega)
-- an operator: taken (1), or refused (0) where it compares a second time
theorem c_oper5 {c W : List Int32} {v : Ex} {D : Dc} {S : List (Bool × Dc)} {B : Nat} {Q : Int32 → Mem → Prop} (h : esC M c W) (hq : ceQ c W false v D S) (ho : okS D S) (hh : hdN S) (hS : S.length ≤ 5) (hB : c.length + W.length ≤ B) (hB2 : B ≤ 1000)
    (h00 : rkO (mi M 71 3) = 0 → Q 0 M) (h0 : rkO (mi M 71 3) = 2 → ¬ D 2 = none → ∀ M' c' W', esC M' c' W' → c'.length + W'.length ≤ B → W'.length < 64 → mi M' 71 11 = mi M 71 11 → FJ (fun a k => (a = 71 ∧ (k = 8 ∨ k = 10)) ∨ a = 73) M M' → Q 0 M')
    (h1 : rkO (mi M 71 3) ≠ 0 → (rkO (mi M 71 3) = 2 → D 2 = none) → ∀ M' c' W', esC M' c' W' → ceQ c' W' true v (opD D (mi M 71 3) v) S → c'.length + W'.length ≤ B + 1 → mi M' 71 11 = 1 → FJ (fun a k => (a = 71 ∧ (k = 8 ∨ k = 10 ∨ k = 11)) ∨ a = 73 ∨ a = 74) M M' → Q 1 M') : w_X5_takeOperator L M Q := by
  have hr := okS_rk ho
  generalize hop : mi M 71 3 = op at *
  unfold w_X5_takeOperator
  rw [hop]
  refine c_rank ?_
  have r5 : rkO op ≤ 4 := by
    by_cases z : rkO op = 0
    · omega
    · rcases rk_cases (op := op) rfl z with ⟨a, -⟩ | ⟨a, -⟩ | ⟨a, -⟩ | ⟨a, -⟩ <;> omega
  rw [show (0 : Int32) = nI 0 from rfl, nI_eq' (by omega) (by omega)]
  have wl0 := W_len hq hS
  refine ⟨fun z => h00 z, fun z => ?_⟩
  refine LP2_m (fun m v1 M' => ∃ c' W' j, rkO op ≤ j ∧ j ≤ 5 ∧ m = j ∧ v1 = nI (rkO op) ∧ (rkO op = 2 → 2 < j) ∧ esC M' c' W' ∧ ceQ c' W' false (cvD D v j) (clD D j) S ∧ c'.length + W'.length ≤ B ∧ FJ (fun a k => (a = 71 ∧ (k = 8 ∨ k = 10)) ∨ a = 73) M M') 5
    ⟨c, W, 5, by omega, by omega, rfl, rfl, fun _ => by omega, h, ⟨hq.1, hq.2⟩, hB, FJ.rf⟩ ?_
  intro m v1 M1 ⟨c', W', j, j1, j5, hm, ev, hj2, a1, a2, a3, F1⟩ K hK
  subst ev
  have wl : W'.length < 32 := by
    have h1 := len_wt (D := clD D j)
    have h2 := len_wtS S
    rw [a2.1, List.length_append]; omega
  have push : (rkO op = 2 → D 2 = none) → ceQ c' W' false (cvD D v (rkO op)) (clD D (rkO op)) S → w_X5_takeOperator_96 L M1 Q := fun hc b2 => by
    unfold w_X5_takeOperator_96
    refine c_push5 a1 (by omega) (fun M2 g2 F2 M3 e3 => ?_)
    rw [F1.1 71 3 (by omega), hop] at g2
    have b2' : ceQ c' W' false (cbR D v (rkO op)) (clD D (rkO op)) S := by
      have e : cvD D v (rkO op) = cbR D v (rkO op) := if_neg (by omega)
      rw [e] at b2; exact b2
    refine h1 z hc M3 c' (op :: W') (es_cg g2 (by rw [e3, mi_si, if_neg (by omega)]) (fun j => by rw [e3, mi_si, if_neg (by omega)]) (by rw [e3, mi_si, if_neg (by omega)]) (fun j => by rw [e3, mi_si, if_neg (by omega)])) (cq_push z b2') ?_ (by rw [e3, mi_si, if_pos ⟨rfl, rfl⟩]) ?_
    · rw [List.length_cons]; omega
    · rw [e3]; exact ((F1.mono (fun a k q => by omega)).tr (F2.mono (fun a k q => by omega))).si (by omega)
  have r40 : rkO 40 = 0 := by decide
  unfold w_X5_takeOperator_14 w_X5_takeOperator_64
  rw [a1.2.2.1, show (0 : Int32) = nI 0 from rfl, nI_lt' (by omega) (by omega)]
  rcases cq_next (by omega) j5 hr a2 with ⟨q1, q2, q3⟩ | ⟨k, q, W2, k1, k2, k3, k4, k5, k6, k7⟩
  · have done := push (fun e => q1 2 (by omega) (hj2 e)) (cq_down j j1 (by omega) j5 (fun i a b => q1 i (by omega) b) a2)
    cases S with
    | nil =>
      have eW : W' = [] := q2
      subst eW
      exact ⟨fun y => absurd y (by decide), fun _ => done⟩
    | cons s S1 =>
      have hs := hh s S1 rfl
      have eW : W' = 40 :: (wtD s.2 ++ wtS S1) := by
        rw [q2]
        show (if s.1 = true then (11 : Int32) else 40) :: (wtD s.2 ++ wtS S1) = _
        rw [hs]; rfl
      subst eW
      have tl : (wtD s.2 ++ wtS S1).length < 64 := by rw [List.length_cons] at wl; omega
      obtain ⟨t1, t2⟩ := es_top a1 tl
      refine ⟨fun _ => ?_, fun y => absurd (by rw [List.length_cons]; omega) y⟩
      rw [← a1.2.2.1, t1, tn_nI (n := (wtD s.2 ++ wtS S1).length) (by omega), t2]
      refine ⟨vp_in_nI tl (by decide), c_rank ?_⟩
      rw [r40, nI_lt' (by omega) (by omega)]
      exact ⟨fun _ => done, fun y => absurd (by omega) y⟩
  · subst k6
    have tl : W2.length < 64 := by rw [List.length_cons] at wl; omega
    obtain ⟨t1, t2⟩ := es_top a1 tl
    refine ⟨fun _ => ?_, fun y => absurd (by rw [List.length_cons]; omega) y⟩
    rw [← a1.2.2.1, t1, tn_nI (n := W2.length) (by omega), t2]
    have vp : vp_in (nI W2.length) 64 := vp_in_nI tl (by decide)
    refine ⟨vp, c_rank ?_⟩
    rw [k4, nI_lt' (by omega) (by omega)]
    have pop : ¬ k < rkO op → (rkO op = 2 → 2 < k) → vp_in (mi M1 71 10 - 1) 64 ∧ (w_X5_emit L ((20000 : Int32) + mi M1 74 (tn (mi M1 71 10 - 1))) M1 (fun M17 => ∀ M18 : Mem, M18 = si M17 71 10 (mi M17 71 10 - 1) → K (nI (rkO op)) M18)) := fun y1 y2 => by
      rw [t1, tn_nI (n := W2.length) (by omega), t2]
      refine ⟨vp, c_emit5 a1 (by rw [List.length_cons] at a3; omega) (fun M2 g2 F2 M3 e3 => ?_)⟩
      refine hK k (by omega) _ M3 ⟨c' ++ [20000 + q.1], W2, k, by omega, by omega, rfl, rfl, y2, es_pop g2 e3 tl, k7, ?_, ?_⟩
      · rw [List.length_append]; rw [List.length_cons] at a3; show c'.length + 1 + W2.length ≤ B; omega
      · rw [e3]; exact (F1.tr (F2.mono (fun a k q => by omega))).si (by omega)
    refine ⟨fun y => push (fun e => k5 2 (by omega) (hj2 e)) (cq_down j j1 (by omega) j5 (fun i a b => k5 i (by omega) b) a2), fun y => ⟨fun y2 => ⟨by rw [t1]; exact vp, c_rank ?_⟩, fun y2 => pop y (fun e => absurd (by rw [e]; rfl) y2)⟩⟩
    have e2 : rkO op = 2 := (nI_eq (by omega) (by omega)).mp (y2.trans (show (2 : Int32) = nI 2 from rfl))
    rw [show rkO (mi M1 74 (tn (mi M1 71 10 - 1))) = k from by rw [t1, tn_nI (n := W2.length) (by omega), t2]; exact k4, show (2 : Int32) = nI 2 from rfl, nI_eq' (by omega) (by omega)]
    refine ⟨fun y3 => h0 e2 ?_ M1 c' (q.1 :: W2) a1 a3 (by omega) (F1.1 _ _ (by omega)) F1, fun y3 => pop y (fun _ => by omega)⟩
    subst y3
    rw [k3]; intro z; cases z
end EXP
