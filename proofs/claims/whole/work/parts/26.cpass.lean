-- LEVEL 3, part 10: the issue is parted; the month's first day; a whole day of the class
theorem sm_nI {f : Nat → Int32} {g : Nat → Nat} : ∀ n, (∀ k, k < n → f k = nI (g k)) → smF f n = nI (smN g n) := by
  intro n
  induction n with
  | zero => intro _; rfl
  | succ n ih =>
    intro h
    unfold smF smN
    rw [ih (fun k hk => h k (by omega)), h n (by omega), nI_add]
theorem smN_le {g : Nat → Nat} {c : Nat} : ∀ n, (∀ k, k < n → g k ≤ c) → smN g n ≤ n * c := by
  intro n
  induction n with
  | zero => intro _; exact Nat.zero_le _
  | succ n ih =>
    intro h
    have h1 := ih (fun k hk => h k (by omega))
    have h2 := h n (by omega)
    unfold smN
    rw [Nat.succ_mul]; omega
-- parts of an issue I by weights W, of a sum s: what is left is less than the owners
theorem parts_sum {W : Nat → Nat} {I s : Nat} (hs : 0 < s) : ∀ n, smN (fun k => I * W k / s) n * s ≤ I * smN W n ∧ I * smN W n ≤ smN (fun k => I * W k / s) n * s + n * (s - 1) := by
  intro n
  induction n with
  | zero => exact ⟨by simp [smN], by simp [smN]⟩
  | succ n ih =>
    obtain ⟨h1, h2⟩ := ih
    have h3 := Nat.div_mul_le_self (I * W n) s
    have h4 := Nat.lt_div_mul_add (a := I * W n) hs
    unfold smN
    rw [Nat.add_mul, Nat.mul_add, Nat.succ_mul]
    constructor <;> omega
theorem parts_left {W : Nat → Nat} {I n : Nat} (hs : 0 < smN W n) : smN (fun k => I * W k / smN W n) n ≤ I ∧ I - smN (fun k => I * W k / smN W n) n ≤ n := by
  obtain ⟨h1, h2⟩ := parts_sum (I := I) (W := W) hs n
  have h3 : smN (fun k => I * W k / smN W n) n ≤ I := Nat.le_of_mul_le_mul_right h1 hs
  refine ⟨h3, ?_⟩
  apply Nat.le_of_not_lt
  intro hlt
  generalize smN (fun k => I * W k / smN W n) n = B at *
  generalize smN W n = s at *
  have h5 : I * s ≤ (B + n) * s := by
    rw [Nat.add_mul]
    have : n * (s - 1) ≤ n * s := Nat.mul_le_mul_left n (Nat.sub_le _ _)
    omega
  have h6 : I ≤ B + n := Nat.le_of_mul_le_mul_right h5 hs
  omega
theorem gv_cg {n : Nat} (hn : n < 2 ^ 31) : ∀ r (al al' cl cl' : Nat → Int32), (∀ i, i < n → al i = al' i) → (∀ i, i < n → cl i = cl' i) → ∀ i, i < n → gvG n r al cl i = gvG n r al' cl' i := by
  intro r
  induction r with
  | zero => intro al al' cl cl' h1 _ i hi; exact h1 i hi
  | succ r ih =>
    intro al al' cl cl' h1 h2 i hi
    have e := ag_cg (cl := cl) (cl' := cl') n h2
    unfold gvG
    rw [e]
    split
    · exact h1 i hi
    · rename_i hne
      rcases ag_rng (cl := cl') n with q | ⟨j, hj, q⟩
      · exact absurd q hne
      · rw [q, tn_nI (by omega)]
        refine ih _ _ _ _ (fun k hk => ?_) (fun k hk => ?_) i hi
        · unfold upd; rw [h1 j hj, h1 k hk]
        · unfold upd; rw [h2 k hk]
def alG (S : SS) (n : Nat) (wt : Nat → Int32) (issue r : Int32) : Nat → Int32 :=
  if smF wt n = 0 then fun _ => 0
  else gvG n (tn (issue - smF (fun o => issue * wt o / smF wt n) n)) (fun o => issue * wt o / smF wt n) (clF S r issue (smF wt n) wt)
theorem alF_G {S : SS} {P : Pc} {v issue : Int32} : alF S P v issue = alG S (tn (S 28 0)) (wtF S P v) issue (if vdF v 4 = true then -1 else P.2.2.1) := rfl
theorem c_claim {L : Lay} {ow : Nat} {r x : Int32} {M : Mem} {Q : Int32 → Mem → Prop} (h : Q (if r = 12 then 0 else if r = 13 then mi M ow 1 else if r = 14 then mi M ow 0 else x) M) : w_X10_claimOf L ow r x M Q := by
  unfold w_X10_claimOf
  refine ⟨fun c => ?_, fun c => ?_⟩
  · rw [if_pos c] at h; exact h
  rw [if_neg c] at h
  refine ⟨fun c => ?_, fun c => ?_⟩
  · rw [if_pos c] at h; exact h
  rw [if_neg c] at h
  refine ⟨fun c => ?_, fun c => ?_⟩
  · rw [if_pos c] at h; exact h
  · rw [if_neg c] at h; exact h
theorem c_divide {L : Lay} {T w a I : Nat} {v : Int32 × Int32} {P : Pc} {wt : Nat → Int32} {W : Nat → Nat} {M : Mem} {Q : Mem → Prop} (hg : gdT T (vwC w M)) (hp : mp M w 11 = some a) (hP : pacC L M a P) (hl : lawC L M (mp M w 9) v)
    (hI : vwC w M 100 0 = nI I) (hI2 : I ≤ 9999) (hw : ∀ o, o < tn (vwC w M 28 0) → mi M (oA w o) 12 = wt o) (hW : ∀ o, wt o = nI (W o) ∧ W o ≤ 9999)
    (h : ∀ M', vwC w M' = (fun f i => if f = 109 ∧ i < tn (vwC w M 28 0) then alG (vwC w M) (tn (vwC w M 28 0)) wt (nI I) (if vdF v.1 4 = true then -1 else P.2.2.1) i else vwC w M f i) → FJ (PG w) M M' → Q M') : w_X10_divideIssue L w (smF wt (tn (vwC w M 28 0))) M Q := by
  unfold w_X10_divideIssue
  have hg' := hg
  obtain ⟨n1, n2, -⟩ := hg'
  generalize hS : vwC w M = S at *
  have es : smF wt (tn (S 28 0)) = nI (smN W (tn (S 28 0))) := sm_nI _ (fun k _ => (hW k).1)
  have hs := smN_le (g := W) (c := 9999) (tn (S 28 0)) (fun k _ => (hW k).2)
  have hs2 : smN W (tn (S 28 0)) ≤ 99990 := by
    have : tn (S 28 0) * 9999 ≤ 10 * 9999 := Nat.mul_le_mul_right _ n2
    omega
  refine ⟨fun h0 => ?_, fun h0 => ?_⟩
  · -- nobody has a weight
    refine LP2_c0 0 (tn (S 28 0)) (fun i M' => vwC w M' = (fun f j => if f = 109 ∧ j < i then 0 else S f j) ∧ FJ (PG w) M M') rfl (Nat.zero_le _) ⟨by rw [hS]; funext f j; rw [if_neg (by omega)], FJ.rf⟩ ?_
    intro i M1 hi _ ⟨hv, hF⟩ K hK
    have eo : ∀ f j, f ≠ 109 → vwC w M1 f j = S f j := fun f j c => by rw [hv]; exact if_neg (fun q => c q.1)
    unfold w_X10_divideIssue_6
    rw [rC_28 (w := w), eo 28 0 (by decide), n1]
    refine ⟨fun hlt => ?_, fun hge => ?_⟩
    · rw [nI_lt' (by omega) (by omega)] at hlt
      have hi10 : i < 10 := by omega
      rw [tn_nI (by omega)]
      refine ⟨vp_in_nI hi10 (by decide), fun M2 e2 x hx => ?_⟩
      rw [hx, nI_1]
      refine hK hlt M2 ⟨?_, by rw [e2]; exact hF.si (PG_o hi10)⟩
      rw [e2, sC_109 (a := a) (by rw [hF.mp]; exact hp) hi10, hv]
      funext f j
      show (if f = 109 ∧ j = i then 0 else if f = 109 ∧ j < i then 0 else S f j) = _
      by_cases c : f = 109
      · by_cases d : j = i
        · rw [if_pos ⟨c, d⟩, if_pos ⟨c, by omega⟩]
        · rw [if_neg (fun q => d q.2)]
          by_cases g : j < i
          · rw [if_pos ⟨c, g⟩, if_pos ⟨c, by omega⟩]
          · rw [if_neg (fun q => g q.2), if_neg (by omega)]
      · rw [if_neg (fun q => c q.1), if_neg (fun q => c q.1), if_neg (fun q => c q.1)]
    · rw [nI_lt' (by omega) (by omega)] at hge
      have ei : i = tn (S 28 0) := by omega
      subst ei
      refine h M1 ?_ hF
      rw [hv]
      unfold alG
      rw [if_pos h0]
  · have hpos : 0 < smN W (tn (S 28 0)) := by
      apply Nat.pos_of_ne_zero
      intro q
      rw [es, q] at h0
      exact h0 rfl
    obtain ⟨pl1, pl2⟩ := parts_left (I := I) (W := W) (n := tn (S 28 0)) hpos
    obtain ⟨la, z1, z2, z3, z4, z5⟩ := hl
    refine ⟨la, z1, z2, ?_⟩
    have eb : ∀ o, nI I * wt o / smF wt (tn (S 28 0)) = nI (I * W o / smN W (tn (S 28 0))) := fun o => by
      have : I * W o ≤ 9999 * 9999 := Nat.mul_le_mul hI2 (hW o).2
      rw [(hW o).1, es, pk_mul, pk_div (by omega) hpos (by omega)]
    have run : ∀ r : Int32, r = (if vdF v.1 4 = true then -1 else P.2.2.1) → w_X10_divideIssue_53 L w (smF wt (tn (S 28 0))) r M Q := fun r hr => by
      unfold w_X10_divideIssue_53
      rw [rC_100 (w := w), hS, hI]
      intro x hx
      subst hx
      refine LP4_c2 0 (tn (S 28 0)) (fun i (v2 v3 : Int32) M' => v2 = r ∧ v3 = nI (I - smN (fun k => I * W k / smN W (tn (S 28 0))) i) ∧ smN (fun k => I * W k / smN W (tn (S 28 0))) i ≤ I ∧
          (∀ f j, f ≠ 109 → vwC w M' f j = S f j) ∧ (∀ j, i ≤ j → vwC w M' 109 j = S 109 j) ∧ (∀ j, j < i → vwC w M' 109 j = nI I * wt j / smF wt (tn (S 28 0))) ∧ FJ (PG w) M M' ∧
          (∀ o, o < tn (S 28 0) → mi M' (oA w o) 12 = wt o) ∧ (∀ o, o < i → mi M' (oA w o) 13 = clF S r (nI I) (smF wt (tn (S 28 0))) wt o)) rfl (Nat.zero_le _)
        ⟨rfl, by rw [show smN (fun k => I * W k / smN W (tn (S 28 0))) 0 = 0 from rfl, Nat.sub_zero], Nat.zero_le _, fun f j _ => by rw [hS], fun j _ => by rw [hS], fun j hj => absurd hj (by omega), FJ.rf, hw, fun o ho => absurd ho (by omega)⟩ ?_
      intro i v2 v3 M1 hi _ ⟨ev2, ev3, hle, vo, vhi, vlo, hF, hw1, hc1⟩ K hK
      subst ev2 ev3
      unfold w_X10_divideIssue_62
      rw [rC_28 (w := w), vo 28 0 (by decide)]
      refine ⟨fun hlt => ?_, fun hge => ?_⟩
      · rw [ltN n1 (by omega)] at hlt
        have hi10 : i < 10 := by omega
        rw [tn_nI (by omega), hw1 i hlt, rC_100 (w := w), vo 100 0 (by decide), hI]
        refine ⟨vp_in_nI hi10 (by decide), h0, fun M2 e2 => ?_⟩
        have hp2 : mp M1 w 11 = some a := by rw [hF.mp]; exact hp
        have u2v : vwC w M2 = u2 (vwC w M1) 109 i (nI I * wt i / smF wt (tn (S 28 0))) := by rw [e2]; exact sC_109 hp2 hi10
        have F2 : FJ (PG w) M M2 := by rw [e2]; exact hF.si (PG_o hi10)
        have hp3 : mp M2 w 11 = some a := by rw [F2.mp]; exact hp
        have w2 : ∀ o, o < tn (S 28 0) → mi M2 (oA w o) 12 = wt o := fun o ho => by
          rw [e2, mi_si, if_neg (fun q => by omega)]; exact hw1 o ho
        have c2 : ∀ o, o < i → mi M2 (oA w o) 13 = clF S v2 (nI I) (smF wt (tn (S 28 0))) wt o := fun o ho => by
          rw [e2, mi_si, if_neg (fun q => by omega)]; exact hc1 o ho
        have next : ∀ y : Int32, y = clF S v2 (nI I) (smF wt (tn (S 28 0))) wt i → w_X10_divideIssue_129 L w (smF wt (tn (S 28 0))) K v2 (nI (I - smN (fun k => I * W k / smN W (tn (S 28 0))) i)) (nI i) (oA w i) y (oA w i) M2 Q := fun y hy => by
          unfold w_X10_divideIssue_129
          intro M3 e3 x hx z hz
          have v3 : vwC w M3 = vwC w M2 := by rw [e3]; exact vwC_own (Or.inr rfl) hi10
          have hp4 : mp M3 w 11 = some a := by rw [e3]; exact hp3
          have e109 : mi M3 (oA w i) 8 = nI (I * W i / smN W (tn (S 28 0))) := by
            rw [rC_109 hp4 hi10, v3, u2v, u2_s, eb i]
          have hstep : smN (fun k => I * W k / smN W (tn (S 28 0))) (i + 1) = smN (fun k => I * W k / smN W (tn (S 28 0))) i + I * W i / smN W (tn (S 28 0)) := rfl
          have hmono : ∀ m, i + 1 ≤ m → smN (fun k => I * W k / smN W (tn (S 28 0))) (i + 1) ≤ smN (fun k => I * W k / smN W (tn (S 28 0))) m := by
            intro m hm
            induction m with
            | zero => exact absurd hm (by omega)
            | succ m ih =>
              by_cases q : i + 1 = m + 1
              · rw [q]; exact Nat.le_refl _
              · exact Nat.le_trans (ih (by omega)) (Nat.le_add_right _ _)
          have hle2 : smN (fun k => I * W k / smN W (tn (S 28 0))) (i + 1) ≤ I := Nat.le_trans (hmono (tn (S 28 0)) (by omega)) pl1
          rw [hz, nI_1]
          refine hK hlt _ _ M3 ⟨rfl, ?_, hle2, fun f j hf => by rw [v3, u2v, u2_f hf]; exact vo f j hf, fun j hj => by rw [v3, u2v, u2_i (by omega)]; exact vhi j (by omega), fun j hj => ?_, by rw [e3]; exact F2.si (PG_o hi10), fun o ho => ?_, fun o ho => ?_⟩
          · rw [hx, e109, pk_sub (by omega), hstep]
            exact congrArg nI (by omega)
          · rw [v3, u2v, u2_def]
            by_cases q : j = i
            · subst q; rw [if_pos ⟨rfl, rfl⟩]
            · rw [if_neg (fun z => q z.2)]; exact vlo j (by omega)
          · rw [e3, mi_si, if_neg (fun q => by omega)]; exact w2 o ho
          · rw [e3, mi_si]
            by_cases q : o = i
            · subst q; rw [if_pos ⟨rfl, rfl⟩]; exact hy
            · rw [if_neg (fun z => by have := z.1; unfold oA at this; omega)]; exact c2 o (by omega)
        rw [w2 i hlt, rC_100 (w := w), u2v, u2_f (by decide), vo 100 0 (by decide), hI]
        refine ⟨fun c => next (-1) (by unfold clF; rw [if_pos c]), fun c => ?_⟩
        refine c_claim ?_
        refine next _ ?_
        unfold clF
        rw [if_neg c, rC_121 hi10, rC_120 hi10, u2v, u2_f (g := 121) (by decide), u2_f (g := 120) (by decide), vo 121 i (by decide), vo 120 i (by decide)]
      · rw [ltN n1 (by omega)] at hge
        have ei : i = tn (S 28 0) := by omega
        subst ei
        have e28 : vwC w M1 28 0 = S 28 0 := vo 28 0 (by decide)
        have g1 : gdT T (vwC w M1) := gd_cong (Nat.le_refl _) e28 (vo 34 0 (by decide)) (vo 93 0 (by decide)) (vo 94 0 (by decide)) (vo 95 0 (by decide)) (fun o => vo 111 o (by decide)) (fun o => vo 113 o (by decide)) (fun o => vo 115 o (by decide)) (fun o => vo 116 o (by decide)) (fun o => vo 120 o (by decide)) (fun o => vo 121 o (by decide)) (fun o => vo 125 o (by decide)) hg
        refine c_give (a := a) g1 (by rw [hF.mp]; exact hp) (by rw [e28]; exact pl2) (fun M2 hv2 hF2 => h M2 ?_ (hF.tr hF2))
        rw [hv2, e28]
        funext f j
        by_cases c : f = 109 ∧ j < tn (S 28 0)
        · rw [if_pos c, if_pos c]
          unfold alG
          rw [if_neg h0]
          have el : tn (nI I - smF (fun o => nI I * wt o / smF wt (tn (S 28 0))) (tn (S 28 0))) = I - smN (fun k => I * W k / smN W (tn (S 28 0))) (tn (S 28 0)) := by
            rw [sm_nI (g := fun k => I * W k / smN W (tn (S 28 0))) _ (fun k _ => eb k), pk_sub pl1, tn_nI (by omega)]
          rw [el, ← hr]
          exact gv_cg (by omega) _ _ _ _ _ (fun k hk => vlo k hk) (fun k hk => hc1 k hk) j c.2
        · rw [if_neg c, if_neg c]
          by_cases d : f = 109
          · rw [d]; exact vhi j (by omega)
          · exact vo f j d
    refine c_void (k := 4) z4 ?_
    by_cases q : vdF v.1 4 = true
    · rw [if_pos q]
      exact ⟨fun z => absurd z (by decide), fun _ => run (-1) (by rw [if_pos q])⟩
    · rw [if_neg q]
      refine ⟨fun _ => ⟨a, hp, hP.1, ?_⟩, fun z => absurd rfl z⟩
      exact run _ (by rw [if_neg q]; exact hP.2.2.2.2.2.2.1)
