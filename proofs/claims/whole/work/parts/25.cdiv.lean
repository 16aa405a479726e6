-- LEVEL 3, part 9: weights and allotments in the class
theorem IsW.lt {w : Nat} (h : IsW w) : w ≤ 36 := by unfold IsW at h; omega
def exV (e : Option Ex) (u : Int32) (r : Fx) : Int32 := match e with | none => u | some x => x r
theorem c_line {L : Lay} {w : Nat} {M : Mem} {u : Int32} {o : Option Nat} {e : Option Ex} {Q : Int32 → Mem → Prop} (hw : IsW w) (hl : lineC L M o e)
    (h : ∀ M', FJ (fun b _ => b = w + 7) M M' → Q (exV e u (fxM M (w + 5))) M') : w_X6_reckon L (w + 5) o u M Q := by
  have hw := hw.lt
  rcases hl with ⟨h1, h2⟩ | ⟨b, n, x, h1, h2, h3, h4, h5, h6⟩
  · subst h1 h2
    unfold w_X6_reckon
    exact ⟨fun _ => h M FJ.rf, fun a q => by cases q⟩
  · subst h1 h5
    refine c_reckonS h3 h4 (by omega) (fun M' hF => ?_)
    rw [h6]
    exact h M' (hF.mono (fun a _ q => by omega))
theorem c_void {L : Lay} {la k : Nat} {M : Mem} {Q : Int32 → Mem → Prop} {v : Int32} (hv : mi M la 0 = v) (h : Q (if vdF v k = true then 1 else 0) M) : w_X1_isVoid L la (nI k) M Q := by
  unfold w_X1_isVoid
  rw [hv]
  intro x hx
  unfold vdF at h
  have : x = if decide ((jshr v (nI k) &&& 1) = 1) = true then 1 else 0 := by
    rw [hx]
    by_cases q : (jshr v (nI k) &&& 1) = 1
    · rw [if_pos q, if_pos (decide_eq_true q)]
    · rw [if_neg q, if_neg (by simp [q])]
  rw [this]; exact h
theorem c_setOwner {L : Lay} {w o : Nat} {over : Int32} {M : Mem} {Q : Mem → Prop} (ho : o < 10) (hf : ∀ j, 6 ≤ j → fxM M (w + 5) j = owF (vwC w M) o over j)
    (h : ∀ M', vwC w M' = vwC w M → fxM M' (w + 5) = owF (vwC w M) o over → FJ (fun b _ => b = w + 6) M M' → Q M') : w_X6_setOwner L (w + 5) (oA w o) M Q := by
  unfold w_X6_setOwner
  generalize hS : vwC w M = S at *
  have step : ∀ (Mx : Mem) (j : Nat) (x : Int32), vwC w Mx = S → vwC w (si Mx (w + 5 + 1) j x) = S := fun Mx j x hx => by rw [vwC_far (by omega)]; exact hx
  rw [rC_121 ho, hS]
  refine c_setFact (j := 0) (by decide) (fun M1 e1 => ?_)
  have v1 : vwC w M1 = S := by rw [e1]; exact step _ _ _ hS
  rw [rC_120 ho, v1]
  refine c_setFact (j := 1) (by decide) (fun M2 e2 => ?_)
  have v2 : vwC w M2 = S := by rw [e2]; exact step _ _ _ v1
  rw [rC_122 ho, v2]
  refine c_setFact (j := 2) (by decide) (fun M3 e3 => ?_)
  have v3 : vwC w M3 = S := by rw [e3]; exact step _ _ _ v2
  rw [rC_107 ho, v3]
  refine c_setFact (j := 3) (by decide) (fun M4 e4 => ?_)
  have v4 : vwC w M4 = S := by rw [e4]; exact step _ _ _ v3
  rw [rC_117 ho, v4]
  refine c_setFact (j := 4) (by decide) (fun M5 e5 => ?_)
  have v5 : vwC w M5 = S := by rw [e5]; exact step _ _ _ v4
  rw [rC_118 ho, v5]
  refine c_setFact (j := 5) (by decide) (fun M6 e6 => ?_)
  have v6 : vwC w M6 = S := by rw [e6]; exact step _ _ _ v5
  refine h M6 v6 ?_ ?_
  · funext j
    show (if j < 14 then mi M6 (w + 5 + 1) j else 0) = owF S o over j
    by_cases h6 : 6 ≤ j
    · rw [← hf j h6]
      show _ = if j < 14 then mi M (w + 5 + 1) j else 0
      rw [e6, mi_si, e5, mi_si, e4, mi_si, e3, mi_si, e2, mi_si, e1, mi_si, if_neg (c := w + 5 + 1 = w + 5 + 1 ∧ j = 5) (by omega), if_neg (c := w + 5 + 1 = w + 5 + 1 ∧ j = 4) (by omega), if_neg (c := w + 5 + 1 = w + 5 + 1 ∧ j = 3) (by omega), if_neg (c := w + 5 + 1 = w + 5 + 1 ∧ j = 2) (by omega), if_neg (c := w + 5 + 1 = w + 5 + 1 ∧ j = 1) (by omega), if_neg (c := w + 5 + 1 = w + 5 + 1 ∧ j = 0) (by omega)]
    · rw [if_pos (show j < 14 by omega), e6, mi_si, e5, mi_si, e4, mi_si, e3, mi_si, e2, mi_si, e1, mi_si]
      rcases (show j = 0 ∨ j = 1 ∨ j = 2 ∨ j = 3 ∨ j = 4 ∨ j = 5 by omega) with q | q | q | q | q | q <;> subst q <;> simp <;> rfl
  · rw [e6, e5, e4, e3, e2, e1]
    exact ((((((FJ.rf (P := fun b _ => b = w + 6)).si (by omega)).si (by omega)).si (by omega)).si (by omega)).si (by omega)).si (by omega)
theorem vwC_cg7 {w : Nat} {M M' : Mem} (h : ∀ a, ¬ a = w + 7 → M'.1 a = M.1 a) (h2 : M'.2 = M.2) : vwC w M' = vwC w M := by
  have hp : ∀ a k, mp M' a k = mp M a k := fun a k => by unfold mp; rw [h2]
  funext f i
  rw [vwC_def, vwC_def, hp]
  by_cases c : f = 109
  · rw [if_pos c, if_pos c]
    by_cases q : i < 10 ∧ mp M w 11 ≠ none
    · rw [if_pos q, if_pos q]; exact congrFun (h _ (by unfold oA; omega)) 8
    · rw [if_neg q, if_neg q]
  · rw [if_neg c, if_neg c]
    by_cases q : i < rg f
    · rw [if_pos q, if_pos q]
      refine congrFun (h _ ?_) _
      have := cA_not (w := w) q
      omega
    · rw [if_neg q, if_neg q]
theorem c_lim {L : Lay} {x : Int32} {M : Mem} {Q : Int32 → Mem → Prop} (h : Q (liF x) M) : w_X10_limited L x M Q := by
  unfold w_X10_limited; exact h
theorem liF_rng (x : Int32) : ∃ n, n ≤ 9999 ∧ liF x = nI n := by
  unfold liF jmax jmin
  by_cases a : x < 9999
  · rw [if_pos a]
    by_cases b : 0 < x
    · rw [if_pos b]
      rw [Int32.lt_iff_toInt_lt] at a b
      have : ¬ x < 0 := by rw [Int32.lt_iff_toInt_lt]; have : (0 : Int32).toInt = 0 := rfl; omega
      obtain ⟨j, hj, e⟩ := nI_of this
      subst e
      rw [nI_toInt hj] at a
      have : (9999 : Int32).toInt = 9999 := rfl
      exact ⟨j, by omega, rfl⟩
    · rw [if_neg b]; exact ⟨0, by omega, rfl⟩
  · rw [if_neg a]
    exact ⟨9999, Nat.le_refl _, by rw [if_pos (by decide)]; rfl⟩
theorem wtF_rng {S : SS} {P : Pc} {v : Int32} {o : Nat} : ∃ n, n ≤ 9999 ∧ wtF S P v o = nI n := by
  unfold wtF
  cases lnF P v 0 with
  | none => exact ⟨1, by omega, rfl⟩
  | some e => exact liF_rng _
theorem c_weigh {L : Lay} {T w a : Nat} {v : Int32 × Int32} {P : Pc} {M : Mem} {Q : Int32 → Mem → Prop} (hw : IsW w) (hg : gdT T (vwC w M)) (hp : mp M w 11 = some a) (hP : pacC L M a P) (hl : lawC L M (mp M w 9) v)
    (hf : ∀ j, 6 ≤ j → fxM M (w + 5) j = gfF (vwC w M) j)
    (h : ∀ M', vwC w M' = vwC w M → FJ (PV w) M M' → (∀ o, o < tn (vwC w M 28 0) → mi M' (oA w o) 12 = wtF (vwC w M) P v.1 o) → Q (smF (wtF (vwC w M) P v.1) (tn (vwC w M 28 0))) M') : w_X10_weighOwners L w M Q := by
  have hw36 := hw.lt
  unfold w_X10_weighOwners
  obtain ⟨la, z1, z2, z3, z4, z5⟩ := hl
  refine ⟨la, z1, z2, ?_⟩
  have hg' := hg
  obtain ⟨n1, n2, -⟩ := hg'
  -- the owners one by one
  have run : ∀ o : Option Nat, lineC L M o (lnF P v.1 0) → w_X10_weighOwners_22 L w o M Q := fun o hlo => by
    unfold w_X10_weighOwners_22
    generalize hS : vwC w M = S at *
    refine LP4_c2 0 (tn (S 28 0)) (fun i (v1 : Option Nat) (v2 : Int32) M' => v1 = o ∧ v2 = smF (wtF S P v.1) i ∧ vwC w M' = S ∧ FJ (PV w) M M' ∧ (∀ j, 6 ≤ j → fxM M' (w + 5) j = gfF S j) ∧ (∀ k, k < i → mi M' (oA w k) 12 = wtF S P v.1 k)) rfl (Nat.zero_le _) ⟨rfl, rfl, hS, FJ.rf, hf, fun k hk => absurd hk (by omega)⟩ ?_
    intro i v1 v2 M1 hi _ ⟨ev1, ev2, hv, hF, hf1, hwt⟩ K hK
    subst ev1 ev2
    unfold w_X10_weighOwners_27
    rw [rC_28 (w := w), hv, n1]
    refine ⟨fun hlt => ?_, fun hge => ?_⟩
    · rw [nI_lt' (by omega) (by omega)] at hlt
      have hi10 : i < 10 := by omega
      rw [tn_nI (by omega)]
      refine ⟨vp_in_nI hi10 (by decide), ?_⟩
      refine c_setOwner (over := 0) hi10 (fun j hj => ?_) (fun M2 v2 x2 F2 => ?_)
      · rw [hv, hf1 j hj]
        match j, hj with
        | 6, _ => rfl
        | j + 7, _ => rfl
      have hF2 : FJ (PV w) M M2 := hF.tr (F2.mono (fun b _ q => by unfold PV; omega))
      refine c_line hw (lineC_cg (fun b hb _ => hF2.row (fun _ => by unfold PV; omega)) hlo) (fun M3 F3 => ?_)
      refine c_lim ?_
      intro M4 e4 x hx y hy
      rw [x2, hv] at e4
      have hF3 : FJ (PV w) M2 M3 := F3.mono (fun b _ q => by unfold PV; omega)
      have v3 : vwC w M3 = S := by
        rw [← hv, ← v2]
        exact vwC_cg7 (fun b hb => F3.row (fun _ => hb)) F3.2
      have v4 : vwC w M4 = S := by rw [e4, vwC_own (Or.inl rfl) hi10]; exact v3
      have ew : liF (exV (lnF P v.1 0) 1 (owF S i 0)) = wtF S P v.1 i := by
        unfold wtF exV
        cases lnF P v.1 0 with
        | none => show liF 1 = 1; decide
        | some e => rfl
      rw [ew] at e4
      rw [hy, nI_1]
      refine hK hlt _ x M4 ⟨rfl, ?_, v4, ?_, fun j hj => ?_, fun k hk => ?_⟩
      · rw [hx, e4, mi_si, if_pos ⟨rfl, rfl⟩]; rfl
      · rw [e4]; exact (hF2.tr hF3).si (PV_o hi10)
      · have e6 : fxM M4 (w + 5) j = fxM M2 (w + 5) j := by
          show (if j < 14 then mi M4 (w + 5 + 1) j else 0) = if j < 14 then mi M2 (w + 5 + 1) j else 0
          rw [e4, mi_si, if_neg (c := w + 5 + 1 = oA w i ∧ j = 12) (fun q => by have := q.1; unfold oA at this; omega), F3.gt (fun q => by omega)]
        rw [e6, x2, hv]
        match j, hj with
        | 6, _ => rfl
        | j + 7, _ => rfl
      · rw [e4, mi_si]
        by_cases q : k = i
        · subst q; rw [if_pos ⟨rfl, rfl⟩]
        · rw [if_neg (fun z => by have := z.1; unfold oA at this; omega), F3.gt (fun q => by unfold oA at q; omega), F2.gt (fun q => by unfold oA at q; omega)]
          exact hwt k (by omega)
    · rw [nI_lt' (by omega) (by omega)] at hge
      have ei : i = tn (S 28 0) := by omega
      subst ei
      exact h M1 hv hF hwt
  refine c_void (k := 0) z4 ?_
  by_cases q : vdF v.1 0 = true
  · rw [if_pos q]
    refine ⟨fun z => absurd z (by decide), fun _ => run none (Or.inl ⟨rfl, by unfold lnF; rw [if_pos q]⟩)⟩
  · rw [if_neg q]
    refine ⟨fun _ => ⟨a, hp, hP.1, run _ ?_⟩, fun z => absurd rfl z⟩
    have := hP.2.2.1
    unfold lnF; rw [if_neg q]; exact this
-- who gets what is left
theorem ag_rng {cl : Nat → Int32} : ∀ n, agF cl n = -1 ∨ ∃ j, j < n ∧ agF cl n = nI j := by
  intro n
  induction n with
  | zero => exact Or.inl rfl
  | succ n ih =>
    unfold agF
    split
    · exact Or.inr ⟨n, by omega, rfl⟩
    · rcases ih with q | ⟨j, hj, e⟩
      · exact Or.inl q
      · exact Or.inr ⟨j, by omega, e⟩
theorem ag_cg {cl cl' : Nat → Int32} : ∀ n, (∀ k, k < n → cl k = cl' k) → agF cl n = agF cl' n := by
  intro n
  induction n with
  | zero => intro _; rfl
  | succ n ih =>
    intro h
    have i := ih (fun k hk => h k (by omega))
    unfold agF
    rw [i, h n (by omega)]
    rcases ag_rng (cl := cl') n with q | ⟨j, hj, e⟩
    · simp only [q, true_or, and_true]
    · by_cases z : n < 2 ^ 31
      · rw [e, tn_nI (by omega), h j (by omega)]
      · have hh : tn (nI j) < n := by have := tn_b (nI j); omega
        rw [e, h _ (Nat.lt_succ_of_lt hh)]
def PG (w a k : Nat) : Prop := w ≤ a ∧ a < w + 35 ∧ a ≠ w + 4 ∧ ¬ (a = w ∧ k = 14)
theorem PG_o {w i k : Nat} (hi : i < 10) : PG w (oA w i) k := by unfold PG oA; omega
theorem c_give {L : Lay} {T w a left : Nat} {M : Mem} {Q : Mem → Prop} (hg : gdT T (vwC w M)) (hp : mp M w 11 = some a) (hl : left ≤ tn (vwC w M 28 0))
    (h : ∀ M', vwC w M' = (fun f i => if f = 109 ∧ i < tn (vwC w M 28 0) then gvG (tn (vwC w M 28 0)) left (vwC w M 109) (fun o => mi M (oA w o) 13) i else vwC w M f i) → FJ (PG w) M M' → Q M') : w_X10_giveRests L w (nI left) M Q := by
  unfold w_X10_giveRests
  have hg' := hg
  obtain ⟨n1, n2, -⟩ := hg'
  generalize hS : vwC w M = S at *
  refine LP2_c0 0 left (fun g M' => FJ (PG w) M M' ∧ (∀ f i, f ≠ 109 → vwC w M' f i = S f i) ∧ (∀ i, tn (S 28 0) ≤ i → vwC w M' 109 i = S 109 i) ∧
      ∃ al cl : Nat → Int32, (∀ i, i < tn (S 28 0) → vwC w M' 109 i = al i) ∧ (∀ i, i < tn (S 28 0) → mi M' (oA w i) 13 = cl i) ∧
      ∀ i, i < tn (S 28 0) → gvG (tn (S 28 0)) left (S 109) (fun o => mi M (oA w o) 13) i = gvG (tn (S 28 0)) (left - g) al cl i) rfl (Nat.zero_le _)
    ⟨FJ.rf, fun f i _ => by rw [hS], fun i _ => by rw [hS], S 109, fun o => mi M (oA w o) 13, fun i _ => by rw [hS], fun i _ => rfl, fun i _ => rfl⟩ ?_
  intro g M1 hgl _ ⟨hF, ho, hhi, al, cl, hal, hcl, hgv⟩ K hK
  have fin : (∀ i, i < tn (S 28 0) → gvG (tn (S 28 0)) (left - g) al cl i = al i) → Q M1 := fun hz => by
    refine h M1 ?_ hF
    funext f i
    by_cases c : f = 109 ∧ i < tn (S 28 0)
    · rw [if_pos c, hgv i c.2, hz i c.2, c.1, hal i c.2]
    · rw [if_neg c]
      by_cases d : f = 109
      · rw [d]; exact hhi i (by omega)
      · exact ho f i d
  have e28 : vwC w M1 28 0 = S 28 0 := ho 28 0 (by decide)
  unfold w_X10_giveRests_2
  rw [rC_28 (w := w), e28, n1]
  refine ⟨fun hlt => ⟨fun hlt2 => ?_, fun hge2 => ?_⟩, fun hge => ?_⟩
  · rw [nI_lt' (by omega) (by omega)] at hlt
    rw [show left - g = (left - (g + 1)) + 1 from by omega] at hgv fin
    refine LP4_c2 0 (tn (S 28 0)) (fun i (u w2 : Int32) M' => u = nI g ∧ w2 = agF cl i ∧ M' = M1) rfl (Nat.zero_le _) ⟨rfl, rfl, rfl⟩ ?_
    intro i u w2 M2 hi _ ⟨eu, ew, em⟩ K2 hK2
    subst eu ew em
    unfold w_X10_giveRests_20
    rw [rC_28 (w := w), e28, n1]
    refine ⟨fun hlt3 => ?_, fun hge3 => ?_⟩
    · rw [nI_lt' (by omega) (by omega)] at hlt3
      have hi10 : i < 10 := by omega
      rw [tn_nI (by omega), hcl i hlt3]
      have skip : ¬ (¬ cl i < 0 ∧ (agF cl i = -1 ∨ cl (tn (agF cl i)) < cl i)) → ∀ x : Int32, x = nI i + 1 → K2 (nI g) (agF cl i) x M2 := fun hn x hx => by
        rw [hx, nI_1]
        refine hK2 hlt3 _ _ M2 ⟨rfl, ?_, rfl⟩
        conv => rhs; unfold agF
        rw [if_neg hn]
      have take : (¬ cl i < 0 ∧ (agF cl i = -1 ∨ cl (tn (agF cl i)) < cl i)) → w_X10_giveRests_69 L w (nI left) K K2 (nI g) (nI i) M2 Q := fun hy => by
        unfold w_X10_giveRests_69
        intro x hx
        rw [hx, nI_1]
        refine hK2 hlt3 _ _ M2 ⟨rfl, ?_, rfl⟩
        conv => rhs; unfold agF
        rw [if_pos hy]
      refine ⟨vp_in_nI hi10 (by decide), fun c => skip (fun q => q.1 c), fun c => ⟨fun d => take ⟨c, Or.inl d⟩, fun d => ?_⟩⟩
      rcases ag_rng (cl := cl) i with q | ⟨j, hj, e⟩
      · exact absurd q d
      · rw [e, tn_nI (by omega), hcl j (by omega)]
        rw [e, tn_nI (by omega)] at skip take
        exact ⟨vp_in_nI (by omega) (by decide), fun z => take ⟨c, Or.inr z⟩, fun z => skip (fun q => q.2.elim (fun y => d (by rw [e]; exact y)) z)⟩
    · rw [nI_lt' (by omega) (by omega)] at hge3
      have ei : i = tn (S 28 0) := by omega
      subst ei
      refine ⟨fun c => fin (fun i _ => ?_), fun c => ?_⟩
      · conv => lhs; unfold gvG
        rw [if_pos c]
      · rcases ag_rng (cl := cl) (tn (S 28 0)) with q | ⟨j, hj, e⟩
        · exact absurd q c
        · have hj10 : j < 10 := by omega
          rw [e, tn_nI (by omega)]
          have hp2 : mp M2 w 11 = some a := by rw [hF.mp]; exact hp
          rw [rC_109 hp2 hj10, hal j hj]
          refine ⟨vp_in_nI hj10 (by decide), fun M6 e6 M7 e7 x hx => ?_⟩
          have v6 : vwC w M6 = u2 (vwC w M2) 109 j (al j + 1) := by rw [e6]; exact sC_109 hp2 hj10
          have v7 : vwC w M7 = vwC w M6 := by rw [e7]; exact vwC_own (Or.inr rfl) hj10
          rw [hx, nI_1]
          refine hK hlt M7 ⟨by rw [e7, e6]; exact (hF.si (PG_o hj10)).si (PG_o hj10), fun f i hf => by rw [v7, v6, u2_f hf]; exact ho f i hf, fun i hi => by rw [v7, v6, u2_i (by omega)]; exact hhi i hi,
            upd al j (al j + 1), upd cl j (-1), fun i hi => ?_, fun i hi => ?_, fun i hi => ?_⟩
          · rw [v7, v6, u2_def]
            unfold upd
            by_cases z : i = j
            · rw [if_pos ⟨rfl, z⟩, if_pos z]
            · rw [if_neg (fun y => z y.2), if_neg z]; exact hal i hi
          · rw [e7, mi_si]
            unfold upd
            by_cases z : i = j
            · subst z; rw [if_pos ⟨rfl, rfl⟩, if_pos rfl]
            · rw [if_neg (fun y => by have := y.1; unfold oA at this; omega), if_neg z, e6, mi_si, if_neg (fun y => by omega)]; exact hcl i hi
          · rw [hgv i hi]
            conv => lhs; unfold gvG
            rw [e, if_neg (by rw [nI_m1 (by omega)]; exact id), tn_nI (by omega)]
  · rw [nI_lt' (by omega) (by omega)] at hlt hge2
    exact absurd hlt (by omega)
  · rw [nI_lt' (by omega) (by omega)] at hge
    rw [show left - g = 0 from by omega] at fin
    exact fin (fun i _ => rfl)
