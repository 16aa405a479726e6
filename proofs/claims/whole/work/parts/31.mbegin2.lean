-- LEVEL 3, part 15: the reference parts the issue
-- what the beginning of a month writes
def PB (s t n a k : Nat) : Prop := ((a = 99 ∨ a = 100 ∨ a = 101) ∧ k = s) ∨ (a = 108 ∧ 10 * s ≤ k ∧ k < 10 * s + 10) ∨ (a = 109 ∧ 10 * s ≤ k ∧ k < 10 * s + n) ∨ (a = 92 ∧ (k = 68 ∨ k = 69)) ∨ (138 ≤ a ∧ a ≤ 148) ∨ (s = 0 ∧ slM (t / 30) a k)
theorem cl13 {S : SS} {issue sum : Int32} {wt : Nat → Int32} {o : Nat} (h : ¬ wt o = 0) : clF S 13 issue sum wt o = S 121 o := by unfold clF; rw [if_neg h]; rfl
theorem cl14 {S : SS} {issue sum : Int32} {wt : Nat → Int32} {o : Nat} (h : ¬ wt o = 0) : clF S 14 issue sum wt o = S 120 o := by unfold clF; rw [if_neg h]; rfl
theorem cl12 {S : SS} {issue sum : Int32} {wt : Nat → Int32} {o : Nat} (h : ¬ wt o = 0) : clF S 12 issue sum wt o = 0 := by unfold clF; rw [if_neg h]; rfl
theorem cl_1 {S : SS} {issue sum : Int32} {wt : Nat → Int32} {o : Nat} (h : ¬ wt o = 0) : clF S (-1) issue sum wt o = jrem (issue * wt o) sum := by unfold clF; rw [if_neg h]; rfl
theorem m_better {L : Lay} {S : SS} {s o b : Nat} {by0 r issue sum : Int32} {wt : Nat → Int32} {M : Mem} {Q : Int32 → Mem → Prop} (hs : s < 2) (ho : o < 10) (hb : b < 10) (hr : rsM by0 r)
    (e121 : ∀ i, i < 10 → mi M 121 i = S 121 i) (e120 : ∀ i, i < 10 → mi M 120 i = S 120 i) (e148 : mi M 148 o = jrem (issue * wt o) sum) (e148b : mi M 148 b = jrem (issue * wt b) sum) (wo : ¬ wt o = 0) (wb : ¬ wt b = 0)
    (h : Q (if clF S r issue sum wt b < clF S r issue sum wt o then 1 else 0) M) : w_X12_better L by0 (nI o) (nI b) M Q := by
  unfold w_X12_better
  rw [tn_nI (by omega), tn_nI (by omega)]
  have i1 := vp_in_nI ho (show 10 < 2 ^ 31 by decide)
  have i2 := vp_in_nI hb (show 10 < 2 ^ 31 by decide)
  rcases hr with ⟨rfl, rfl⟩ | ⟨rfl, rfl⟩ | ⟨rfl, rfl⟩ | ⟨rfl, rfl⟩
  · refine ⟨fun _ => ⟨i1, i2, fun x hx => ?_⟩, fun q => absurd rfl q⟩
    rw [cl13 wo, cl13 wb] at h
    rw [hx, e121 o ho, e121 b hb]; exact h
  · refine ⟨fun q => absurd q (by decide), fun _ => ⟨fun _ => ⟨i1, i2, fun x hx => ?_⟩, fun q => absurd rfl q⟩⟩
    rw [cl14 wo, cl14 wb] at h
    rw [hx, e120 o ho, e120 b hb]; exact h
  · refine ⟨fun q => absurd q (by decide), fun _ => ⟨fun q => absurd q (by decide), fun _ => ⟨fun q => absurd q (by decide), fun _ => ?_⟩⟩⟩
    rw [cl12 wo, cl12 wb, if_neg (by decide)] at h
    exact h
  · refine ⟨fun q => absurd q (by decide), fun _ => ⟨fun q => absurd q (by decide), fun _ => ⟨fun _ => ⟨i1, i2, fun x hx => ?_⟩, fun q => absurd (by decide) q⟩⟩⟩
    rw [cl_1 wo, cl_1 wb] at h
    rw [hx, e148, e148b]; exact h
-- the rests are given: the weights are taken as marks
theorem m_give {L : Lay} {T s t left : Nat} {S : SS} {r issue sum by0 p1 : Int32} {wt : Nat → Int32} {M0 M : Mem} {Q : Mem → Prop} (hs : s < 2) (hg : gdT T S) (hr : rsM by0 r)
    (vo : ∀ f i, f ≠ 109 → vwM s M f i = S f i) (hF : FJ (PB s t (tn (S 28 0))) M0 M) (h147 : ∀ o, o < tn (S 28 0) → mi M 147 o = wt o) (h148 : ∀ o, o < tn (S 28 0) → ¬ wt o = 0 → mi M 148 o = jrem (issue * wt o) sum)
    (hcl : ∀ o, o < tn (S 28 0) → ¬ wt o = 0 → ¬ clF S r issue sum wt o < 0) (hl : left ≤ cpF (clF S r issue sum wt) (tn (S 28 0)))
    (h : ∀ M', (∀ f i, f ≠ 109 → vwM s M' f i = S f i) → FJ (PB s t (tn (S 28 0))) M0 M' → mi M' 99 s = mi M 99 s → mi M' 101 s = mi M 101 s → (∀ a k, slM 0 a k ∨ 127 ≤ a ∧ a < 138 → mi M' a k = mi M a k) → (∀ i, i < tn (S 28 0) → mi M' 109 (10 * s + i) = gvG (tn (S 28 0)) left (fun o => mi M 109 (10 * s + o)) (clF S r issue sum wt) i) → w_X12_begins_534 L (nI s) p1 M' Q) : w_X12_begins_441 L (nI s) p1 (nI left) by0 M Q := by
  unfold w_X12_begins_441
  have hg' := hg
  obtain ⟨n1, n2, -⟩ := hg'
  refine LP3_m (fun z (v6 v7 : Int32) M' => v6 = nI z ∧ v7 = by0 ∧ (∀ f i, f ≠ 109 → vwM s M' f i = S f i) ∧ FJ (PB s t (tn (S 28 0))) M0 M' ∧ mi M' 99 s = mi M 99 s ∧ mi M' 101 s = mi M 101 s ∧ (∀ a k, slM 0 a k ∨ 127 ≤ a ∧ a < 138 → mi M' a k = mi M a k) ∧ (∀ o, mi M' 148 o = mi M 148 o) ∧
      ∃ al cl : Nat → Int32, z ≤ left ∧ z ≤ cpF cl (tn (S 28 0)) ∧ (∀ i, i < tn (S 28 0) → mi M' 109 (10 * s + i) = al i) ∧ (∀ o, o < tn (S 28 0) → (mi M' 147 o = 0 ∧ cl o = -1) ∨ (¬ mi M' 147 o = 0 ∧ ¬ wt o = 0 ∧ cl o = clF S r issue sum wt o)) ∧
      ∀ i, i < tn (S 28 0) → gvG (tn (S 28 0)) left (fun o => mi M 109 (10 * s + o)) (clF S r issue sum wt) i = gvG (tn (S 28 0)) z al cl i) left
    ⟨rfl, rfl, vo, hF, rfl, rfl, fun _ _ _ => rfl, fun _ => rfl, fun o => mi M 109 (10 * s + o), clF S r issue sum wt, Nat.le_refl _, hl, fun i _ => rfl, fun o ho => ?_, fun i _ => rfl⟩ ?_
  · by_cases q : wt o = 0
    · exact Or.inl ⟨by rw [h147 o ho]; exact q, by unfold clF; rw [if_pos q]⟩
    · exact Or.inr ⟨by rw [h147 o ho]; exact q, q, rfl⟩
  intro z v6 v7 M1 ⟨e6, e7, v1, F1, k99, k101, k135, k148, al, cl, hz, hcp, hal, hw, hgv⟩ K hK
  subst e6 e7
  have e28 : vwM s M1 28 0 = S 28 0 := v1 28 0 (by decide)
  have hzb : z ≤ 10 := by
    have : ∀ n, cpF cl n ≤ n := by
      intro n
      induction n with
      | zero => exact Nat.le_refl _
      | succ n ih => unfold cpF; split <;> omega
    have := this (tn (S 28 0)); omega
  unfold w_X12_begins_443
  refine ⟨fun hpos => ?_, fun hn => ?_⟩
  · rw [nI_0lt (by omega)] at hpos
    obtain ⟨y, rfl⟩ : ∃ y, z = y + 1 := ⟨z - 1, by omega⟩
    -- the best of those who still have a weight
    refine LP5_c3 0 (tn (S 28 0)) (fun i (u6 u7 u8 : Int32) M' => u6 = nI (y + 1) ∧ u7 = v7 ∧ u8 = agF cl i ∧ M' = M1) rfl (Nat.zero_le _) ⟨rfl, rfl, rfl, rfl⟩ ?_
    intro i u6 u7 u8 M2 hi _ ⟨a6, a7, a8, am⟩ K2 hK2
    subst a6 a7 a8 am
    unfold w_X12_begins_454
    rw [rM_28 (s := s), e28]
    refine ⟨fun hlt => ?_, fun hge => ?_⟩
    · rw [ltN n1 (by omega)] at hlt
      have hi10 : i < 10 := by omega
      rw [tn_nI (n := i) (by omega)]
      have skip : ¬ (¬ cl i < 0 ∧ (agF cl i = -1 ∨ cl (tn (agF cl i)) < cl i)) → ∀ x : Int32, x = nI i + 1 → K2 (nI (y + 1)) u7 (agF cl i) x M2 := fun hn x hx => by
        rw [hx, nI_1]
        refine hK2 hlt _ _ _ M2 ⟨rfl, rfl, ?_, rfl⟩
        conv => rhs; unfold agF
        rw [if_neg hn]
      have take : (¬ cl i < 0 ∧ (agF cl i = -1 ∨ cl (tn (agF cl i)) < cl i)) → w_X12_begins_494 L (nI s) p1 K K2 (nI (y + 1)) u7 (nI i) M2 Q := fun hy => by
        unfold w_X12_begins_494
        intro x hx
        rw [hx, nI_1]
        refine hK2 hlt _ _ _ M2 ⟨rfl, rfl, ?_, rfl⟩
        conv => rhs; unfold agF
        rw [if_pos hy]
      refine ⟨vp_in_nI hi10 (by decide), fun c => ?_, fun c => ?_⟩
      · rcases hw i hlt with ⟨q1, q2⟩ | ⟨q1, -, -⟩
        · exact skip (fun q => q.1 (by rw [q2]; decide))
        · exact absurd c q1
      · rcases hw i hlt with ⟨q1, -⟩ | ⟨q1, q2, q3⟩
        · exact absurd q1 c
        · have hci : ¬ cl i < 0 := by rw [q3]; exact hcl i hlt q2
          rcases ag_rng (cl := cl) i with q | ⟨j, hj, e⟩
          · rw [q] at skip take ⊢
            exact ⟨fun _ => take ⟨hci, Or.inl rfl⟩, fun z => absurd (by decide) z⟩
          · rw [e] at skip take ⊢
            rw [tn_nI (by omega)] at skip take
            refine ⟨fun z => absurd z (nI_pos (by omega)), fun _ => ?_⟩
            -- the one ahead has an open claim too
            have hopen : ¬ cl j < 0 := by
              have : ∀ m, m ≤ tn (S 28 0) → ∀ j, agF cl m = nI j → j < m → ¬ cl j < 0 := by
                intro m
                induction m with
                | zero => intro _ j _ hj; exact absurd hj (by omega)
                | succ m ihm =>
                  intro hm j ha hj
                  unfold agF at ha
                  split at ha
                  · rename_i hc
                    have : m = j := (nI_eq (by omega) (by omega)).mp ha
                    subst this; exact hc.1
                  · rcases ag_rng (cl := cl) m with b | ⟨j2, hj2, b⟩
                    · rw [b] at ha; exact absurd ha.symm (by rw [nI_m1 (by omega)]; exact id)
                    · rw [b] at ha
                      have : j2 = j := (nI_eq (by omega) (by omega)).mp ha
                      subst this
                      exact ihm (by omega) j2 b hj2
              exact this i (by omega) j e hj
            rcases hw j (by omega) with ⟨-, w2⟩ | ⟨w1, w2, w3⟩
            · rw [w2] at hopen; exact absurd (by decide) hopen
            · refine m_better (S := S) (issue := issue) (sum := sum) (wt := wt) hs hi10 (by omega) hr (fun k hk => by rw [rM_121 (s := s) hk]; exact v1 121 k (by decide)) (fun k hk => by rw [rM_120 (s := s) hk]; exact v1 120 k (by decide)) (by rw [k148]; exact h148 i hlt q2) (by rw [k148]; exact h148 j (by omega) w2) q2 w2 ?_
              rw [← q3, ← w3]
              by_cases d : cl j < cl i
              · rw [if_pos d]
                exact ⟨fun z => absurd z (by decide), fun _ => take ⟨hci, Or.inr d⟩⟩
              · rw [if_neg d]
                exact ⟨fun _ => skip (fun q => q.2.elim (fun y => by rw [nI_m1 (by omega)] at y; exact y) d), fun z => absurd rfl z⟩
    · rw [ltN n1 (by omega)] at hge
      have ei : i = tn (S 28 0) := by omega
      subst ei
      obtain ⟨j, hj, e, hc⟩ := ag_some (cl := cl) (tn (S 28 0)) (by omega) (by omega)
      have hj10 : j < 10 := by omega
      rw [e, ixm10, tn_nI (n := 10 * s + j) (by omega), tn_nI (n := j) (by omega)]
      refine ⟨vp_in_nI (by omega) (by decide), fun M6 e6 => ⟨vp_in_nI hj10 (by decide), fun M7 e7 x hx => ?_⟩⟩
      rw [hal j hj] at e6
      rw [hx, pk_m1]
      refine hK y (by omega) _ _ M7 ⟨rfl, rfl, fun f i hf => ?_, ?_, ?_, ?_, fun a k ha => ?_, fun o => ?_, upd al j (al j + 1), upd cl j (-1), by omega, ?_, fun i hi => ?_, fun o ho => ?_, fun i hi => ?_⟩
      · rw [← v1 f i hf]
        exact vwM_n hf (fun a k h1 h2 _ _ _ _ _ _ h9 => by rw [e7, mi_si, if_neg (fun q => by omega), e6, mi_si, if_neg (fun q => by omega)])
      · rw [e7, e6]; refine (F1.si ?_).si ?_ <;> unfold PB <;> omega
      · rw [e7, mi_si, if_neg (fun q => by omega), e6, mi_si, if_neg (fun q => by omega)]; exact k99
      · rw [e7, mi_si, if_neg (fun q => by omega), e6, mi_si, if_neg (fun q => by omega)]; exact k101
      · rw [e7, mi_si, if_neg (fun q => by unfold slM at ha; omega), e6, mi_si, if_neg (fun q => by unfold slM at ha; omega)]; exact k135 a k ha
      · rw [e7, mi_si, if_neg (fun q => by omega), e6, mi_si, if_neg (fun q => by omega)]; exact k148 o
      · have := (cpF_upd (cl := cl) (j := j) (tn (S 28 0))).1 hj
        rw [if_neg hc] at this
        omega
      · rw [e7, mi_si, if_neg (fun q => by omega), e6, mi_si]
        by_cases q : i = j
        · subst q; rw [if_pos ⟨rfl, rfl⟩]; exact pk_us.symm
        · rw [if_neg (fun z => by omega), hal i hi]; exact (pk_un q).symm
      · rw [e7, mi_si]
        by_cases q : o = j
        · subst q; rw [if_pos ⟨rfl, rfl⟩]; exact Or.inl ⟨rfl, pk_us⟩
        · rw [if_neg (fun z => q z.2), e6, mi_si, if_neg (fun z => by omega)]
          have e : upd cl j (-1) o = cl o := pk_un q
          rw [e]; exact hw o ho
      · rw [hgv i hi]
        conv => lhs; unfold gvG
        rw [e, if_neg (by rw [nI_m1 (by omega)]; exact id), tn_nI (by omega)]
  · rw [nI_0lt (by omega)] at hn
    have : z = 0 := by omega
    subst this
    exact h M1 v1 F1 k99 k101 k135 (fun i hi => by rw [hgv i hi]; exact hal i hi)
