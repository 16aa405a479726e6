-- LEVEL 3, part 6: what a line is worth: the class's reckoner, the reference's worth
theorem c_combine {L : Lay} {op a b : Int32} {M : Mem} {Q : Int32 → Mem → Prop} (h : Q (cmF op a b) M) : w_X6_combine L op a b M Q := by
  unfold w_X6_combine
  unfold cmF at h
  refine ⟨fun c => ?_, fun c => ?_⟩
  · rw [if_pos c] at h; intro x hx; rw [hx]; exact h
  rw [if_neg c] at h
  refine ⟨fun c => ?_, fun c => ?_⟩
  · rw [if_pos c] at h; intro x hx; rw [hx]; exact h
  rw [if_neg c] at h
  refine ⟨fun c => ?_, fun c => ?_⟩
  · rw [if_pos c] at h; exact h
  rw [if_neg c] at h
  refine ⟨fun c => ?_, fun c => ?_⟩
  · rw [if_pos c] at h; exact h
  rw [if_neg c] at h
  refine ⟨fun c => ?_, fun c => ?_⟩
  · rw [if_pos c] at h; exact h
  rw [if_neg c] at h
  refine ⟨fun c => ?_, fun c => ?_⟩
  · rw [if_pos c] at h; intro x hx; rw [hx]; exact h
  rw [if_neg c] at h
  refine ⟨fun c => ?_, fun c => ?_⟩
  · rw [if_pos c] at h; intro x hx; rw [hx]; exact h
  rw [if_neg c] at h
  refine ⟨fun c => ?_, fun c => ?_⟩
  · rw [if_pos c] at h; exact h
  · rw [if_neg c] at h; exact ⟨c, h⟩
theorem i_sub {f : Int32} {c : Nat} (hc : c < 2 ^ 30) (h : ¬ f < nI c) : ∃ k : Nat, c ≤ k ∧ k < 2 ^ 31 ∧ f = nI k ∧ f - nI c = nI (k - c) := by
  have h0 : ¬ f < 0 := fun q => h (by rw [Int32.lt_iff_toInt_lt] at q ⊢; rw [nI_toInt (by omega)]; have : (0 : Int32).toInt = 0 := rfl; omega)
  obtain ⟨k, hk, e⟩ := nI_of h0
  rw [e, nI_lt' (by omega) (by omega)] at h
  exact ⟨k, by omega, hk, e, by rw [e, pk_sub (by omega)]⟩
def fxM (M : Mem) (re : Nat) : Fx := fun j => if j < 14 then mi M (re + 1) j else 0
theorem c_factOf {L : Lay} {re : Nat} {f : Int32} {M : Mem} {Q : Int32 → Mem → Prop} (h : Q (fcF (fxM M re) f) M) : w_X6_factOf L re f M Q := by
  unfold w_X6_factOf
  unfold fcF at h
  refine ⟨fun c => ?_, fun c => ?_⟩
  · rw [if_pos c] at h; exact h
  rw [if_neg c] at h
  refine ⟨fun d => ?_, fun d => ?_⟩
  · rw [if_pos d] at h; exact h
  rw [if_neg d] at h
  obtain ⟨k, k1, k2, e1, e2⟩ := i_sub (c := 13) (by omega) c
  have e3 : f - 13 = nI (k - 13) := e2
  rw [e1, show (26 : Int32) = nI 26 from rfl, nI_lt' (by omega) (by omega)] at d
  unfold fxM at h
  rw [e3, tn_nI (by omega), if_pos (by omega)] at h
  rw [e3, tn_nI (by omega)]
  exact ⟨vp_in_nI (by omega) (by decide), h⟩
def stR : List Int32 → (Nat → Int32) → Prop
  | [], _ => True
  | v :: W, st => st W.length = v ∧ stR W st
theorem stR_cg {st st' : Nat → Int32} : ∀ {V : List Int32}, (∀ j, j < V.length → st' j = st j) → stR V st → stR V st' := by
  intro V
  induction V with
  | nil => intro _ _; exact True.intro
  | cons v W ih =>
    intro h hs
    simp only [List.length_cons] at h
    exact ⟨(h _ (by omega)).trans hs.1, ih (fun j hj => h j (by omega)) hs.2⟩
def cdL (M : Mem) (a n : Nat) : List Int32 := (List.range n).map (fun i => mi M a i)
theorem cdL_1 {M : Mem} {a n : Nat} : cdL M a (n + 1) = cdL M a n ++ [mi M a n] := by
  unfold cdL; rw [List.range_succ, List.map_append]; rfl
theorem cdL_cg {M M' : Mem} {a : Nat} (h : M'.1 a = M.1 a) {n : Nat} : cdL M' a n = cdL M a n := by
  unfold cdL mi; rw [h]
def rcF (c : List Int32) (r : Fx) (u : Int32) : Int32 := match rkL r c [] with | [] => u | v :: _ => v
theorem len_stL {r : Fx} {c : Int32} {V : List Int32} (h : V.length ≤ 64) : (stL r c V).length ≤ 64 := by
  unfold stL
  split
  · split
    · simp only [List.length_cons]; omega
    · exact h
  · split
    · cases V with
      | nil => exact h
      | cons v W => exact h
    · match V, h with
      | [], h => exact h
      | [v], h => exact h
      | b :: a :: W, h => simp only [List.length_cons] at h ⊢; omega
theorem c_reckonS {L : Lay} {re a n : Nat} {u : Int32} {M : Mem} {Q : Int32 → Mem → Prop} (har : AR L a 0 n) (hn : n < 2 ^ 30) (hne : a ≠ re + 2)
    (h : ∀ M', FJ (fun b _ => b = re + 2) M M' → Q (rcF (cdL M a n) (fxM M re) u) M') : w_X6_reckon L re (some a) u M Q := by
  unfold w_X6_reckon
  refine ⟨fun q => absurd q (by intro z; cases z), fun a2 _ => ?_⟩
  refine LP3_c1 0 n (fun i (v3 : Int32) M' => FJ (fun b _ => b = re + 2) M M' ∧ ∃ V : List Int32, V = rkL (fxM M re) (cdL M a i) [] ∧ v3 = nI V.length ∧ V.length ≤ 64 ∧ stR V (fun j => mi M' (re + 2) j)) rfl (Nat.zero_le _) ⟨FJ.rf, [], rfl, rfl, by decide, True.intro⟩ ?_
  intro i v3 M1 hi _ ⟨hF, V, hV, ev, hl, hs⟩ K hK
  subst ev
  have ea : ∀ k, mi M1 a k = mi M a k := fun k => hF.gt (fun q => hne q)
  have ef : fxM M1 re = fxM M re := by
    funext j
    show (if j < 14 then mi M1 (re + 1) j else 0) = if j < 14 then mi M (re + 1) j else 0
    rw [hF.gt (fun q => by omega)]
  unfold w_X6_reckon_11
  refine ⟨a, n, rfl, har, fun hlt => ⟨a, n, rfl, har, ?_, fun x hx => ?_⟩, fun hge => ?_⟩
  · rw [nI_lt' (by omega) (by omega)] at hlt; exact vp_in_nI hlt (by omega)
  · rw [nI_lt' (by omega) (by omega)] at hlt
    rw [tn_nI (by omega), ea i] at hx
    have next : ∀ (W : List Int32) (M2 : Mem) (v y : Int32), W = stL (fxM M re) x V → FJ (fun b _ => b = re + 2) M M2 → v = nI W.length → stR W (fun j => mi M2 (re + 2) j) → y = nI i + 1 → K v y M2 := fun W M2 v y hW hF2 hv hs2 hy => by
      rw [hy, nI_1]
      refine hK hlt v M2 ⟨hF2, W, ?_, hv, by rw [hW]; exact len_stL hl, hs2⟩
      rw [cdL_1, rkL_1, ← hV, ← hx]; exact hW
    have push : ∀ y : Int32, V.length < 64 → stL (fxM M re) x V = y :: V → w_X6_reckon_69 L re (some a) u K (nI V.length) (nI i) y (nI V.length) M1 Q := fun y h64 hy => by
      unfold w_X6_reckon_69
      refine ⟨vp_in_nI h64 (by decide), fun M2 e2 z hz t ht => ?_⟩
      rw [tn_nI (by omega)] at e2
      refine next (y :: V) M2 z t hy.symm (by rw [e2]; exact hF.si rfl) (by rw [hz, nI_1]; rfl) ⟨?_, stR_cg (fun j hj => ?_) hs⟩ ht
      · show mi M2 (re + 2) V.length = y
        rw [e2, mi_si, if_pos ⟨rfl, rfl⟩]
      · show mi M2 (re + 2) j = mi M1 (re + 2) j
        rw [e2, mi_si, if_neg (fun q => by omega)]
    refine ⟨fun c1 => ⟨fun c2 => ⟨fun c3 => ?_, fun c3 => ?_⟩, fun c2 y hy => ?_⟩, fun c1 => ⟨fun c2 => ⟨fun c3 => ?_, fun c3 y hy => ?_⟩, fun c2 => ⟨fun c3 => ?_, fun c3 y hy => ?_⟩⟩⟩
    · rw [nI_lt' (by omega) (by omega)] at c2
      exact push x c2 (by unfold stL; rw [if_pos c1, if_pos c2, if_pos c3])
    · rw [nI_lt' (by omega) (by omega)] at c2
      refine c_factOf ?_
      rw [ef]
      exact push _ c2 (by unfold stL; rw [if_pos c1, if_pos c2, if_neg c3])
    · rw [nI_lt' (by omega) (by omega)] at c2
      exact next V M1 _ y (by unfold stL; rw [if_pos c1, if_neg c2]) hF rfl hs hy
    · rw [nI_0lt (by omega)] at c3
      cases hVV : V with
      | nil => rw [hVV] at c3; exact absurd c3 (by decide)
      | cons v W =>
        subst hVV
        have e1 : nI (v :: W).length - 1 = nI W.length := by rw [List.length_cons, nI_pred]
        rw [List.length_cons] at hl
        rw [e1, tn_nI (by omega)]
        refine ⟨vp_in_nI (by omega) (by decide), fun z hz M2 e2 y hy => ?_⟩
        refine next (ntF v :: W) M2 _ y (by unfold stL; rw [if_neg c1, if_pos c2]) (by rw [e2]; exact hF.si rfl) rfl ⟨?_, stR_cg (fun j hj => ?_) hs.2⟩ hy
        · show mi M2 (re + 2) W.length = ntF v
          rw [e2, mi_si, if_pos ⟨rfl, rfl⟩, hz]
          have : mi M1 (re + 2) W.length = v := hs.1
          rw [this]; rfl
        · show mi M2 (re + 2) j = mi M1 (re + 2) j
          rw [e2, mi_si, if_neg (fun q => by omega)]
    · rw [nI_0lt (by omega)] at c3
      cases hVV : V with
      | nil => exact next [] M1 _ y (by rw [hVV]; unfold stL; rw [if_neg c1, if_pos c2]) hF rfl True.intro hy
      | cons v W => rw [hVV] at c3; exact absurd (by simp) c3
    · rw [show (1 : Int32) = nI 1 from rfl, nI_lt' (by omega) (by omega)] at c3
      match hVV : V with
      | [] => exact absurd c3 (by decide)
      | [v] => exact absurd c3 (by simp)
      | b :: a2 :: W =>
        intro y hy
        have e0 : y = nI (a2 :: W).length := by rw [hy, List.length_cons, pk_m1]
        have e1 : y - 1 = nI W.length := by rw [e0, List.length_cons, nI_pred]
        simp only [List.length_cons] at hl
        have e0' : y = nI (W.length + 1) := e0
        rw [e1, e0', tn_nI (by omega), tn_nI (by omega)]
        refine ⟨vp_in_nI (by omega) (by decide), vp_in_nI (by omega) (by decide), ?_⟩
        refine c_combine ?_
        intro M2 e2 z hz
        have h1 : mi M1 (re + 2) (W.length + 1) = b := hs.1
        have h2 : mi M1 (re + 2) W.length = a2 := hs.2.1
        refine next (cmF (x - 20000) a2 b :: W) M2 _ z (by unfold stL; rw [if_neg c1, if_neg c2]) (by rw [e2]; exact hF.si rfl) rfl ⟨?_, stR_cg (fun j hj => ?_) hs.2.2⟩ hz
        · show mi M2 (re + 2) W.length = _
          rw [e2, mi_si, if_pos ⟨rfl, rfl⟩, h1, h2]
        · show mi M2 (re + 2) j = mi M1 (re + 2) j
          rw [e2, mi_si, if_neg (fun q => by omega)]
    · rw [show (1 : Int32) = nI 1 from rfl, nI_lt' (by omega) (by omega)] at c3
      match hVV : V with
      | [] => exact next [] M1 _ y (by unfold stL; rw [if_neg c1, if_neg c2]) hF rfl True.intro hy
      | [v] => exact next [v] M1 _ y (by unfold stL; rw [if_neg c1, if_neg c2]) hF rfl hs hy
      | b :: a2 :: W => exact absurd (by simp) c3
  · rw [nI_lt' (by omega) (by omega)] at hge
    have ei : i = n := by omega
    subst ei
    have fin := h M1 hF
    unfold rcF at fin
    rw [← hV] at fin
    refine ⟨fun c => ?_, fun c => ?_⟩
    · rw [nI_0lt (by omega)] at c
      cases hVV : V with
      | nil => rw [hVV] at c; exact absurd c (by decide)
      | cons v W =>
        rw [hVV] at fin hs hl
        simp only [List.length_cons] at hl
        rw [List.length_cons, nI_pred, tn_nI (by omega)]
        refine ⟨vp_in_nI (by omega) (by decide), ?_⟩
        have : mi M1 (re + 2) W.length = v := hs.1
        rw [this]; exact fin
    · rw [nI_0lt (by omega)] at c
      cases hVV : V with
      | nil => rw [hVV] at fin; exact fin
      | cons v W => rw [hVV] at c; exact absurd (by simp) c
-- the reference
def rwE (M : Mem) : SS := fun f i => mi M f i
theorem rwE_si {M : Mem} {a k : Nat} {x : Int32} : rwE (si M a k x) = u2 (rwE M) a k x := rfl
def PX (a k : Nat) : Prop := 138 ≤ a ∧ a ≤ 146
theorem m_opens {L : Lay} {d : Nat} {M : Mem} {Q : Mem → Prop} (hd : d < 6) (h : ∀ M', rwE M' = opnE (rwE M) d → FJ PX M M' → Q M') : w_X12_opens L (nI d) M Q := by
  unfold w_X12_opens
  rw [tn_nI (by omega)]
  refine ⟨vp_in_nI hd (by decide), fun M2 e2 M3 e3 M4 e4 M5 e5 M6 e6 => h M6 ?_ ?_⟩
  · rw [e6, rwE_si, e5, rwE_si, e4, rwE_si, e3, rwE_si, e2, rwE_si]; rfl
  · rw [e6, e5, e4, e3, e2]
    refine ((((FJ.rf.si ?_).si ?_).si ?_).si ?_).si ?_ <;> unfold PX <;> omega
theorem m_sums {L : Lay} {d : Nat} {M : Mem} {Q : Mem → Prop} (hd : d < 6) (h : ∀ M', rwE M' = smsE (rwE M) d → FJ PX M M' → Q M') : w_X12_sums L (nI d) M Q := by
  unfold w_X12_sums w_X12_sums_45
  rw [tn_nI (by omega)]
  have hin := vp_in_nI hd (show 6 < 2 ^ 31 by decide)
  refine ⟨hin, fun c => ⟨hin, fun M2 e2 => ⟨hin, fun M3 e3 => h M3 ?_ ?_⟩⟩, fun c => ⟨hin, fun M2 e2 => ⟨hin, fun M3 e3 => h M3 ?_ ?_⟩⟩⟩
  · rw [e3, rwE_si, e2, rwE_si]; unfold smsE; rw [if_pos (show rwE M 143 d = 21 from c)]; rfl
  · rw [e3, e2]; refine (FJ.rf.si ?_).si ?_ <;> unfold PX <;> omega
  · rw [e3, rwE_si, e2, rwE_si]; unfold smsE; rw [if_neg (show ¬ rwE M 143 d = 21 from c)]; rfl
  · rw [e3, e2]; refine (FJ.rf.si ?_).si ?_ <;> unfold PX <;> omega
theorem m_tests {L : Lay} {d : Nat} {M : Mem} {Q : Mem → Prop} (hd : d < 6) (h : ∀ M', rwE M' = tstE (rwE M) d → FJ PX M M' → Q M') : w_X12_tests L (nI d) M Q := by
  unfold w_X12_tests
  refine m_sums hd (fun M1 h1 hF1 => ?_)
  have hin := vp_in_nI hd (show 6 < 2 ^ 31 by decide)
  rw [tn_nI (by omega)]
  have g : ∀ f, mi M1 f d = smsE (rwE M) d f d := fun f => by rw [← h1]; rfl
  have last : ∀ v : Int32, v = t4E (smsE (rwE M) d) d → w_X12_tests_136 L (nI d) v M1 Q := fun v hv => by
    unfold w_X12_tests_136
    rw [tn_nI (by omega)]
    refine ⟨hin, fun M2 e2 M3 e3 M4 e4 M5 e5 => h M5 ?_ ?_⟩
    · rw [e5, rwE_si, e4, rwE_si, e3, rwE_si, e2, rwE_si, h1, hv]; rfl
    · rw [e5, e4, e3, e2]
      refine (((hF1.si ?_).si ?_).si ?_).si ?_ <;> unfold PX <;> omega
  have l106 : ∀ v : Int32, v = t3E (smsE (rwE M) d) d → w_X12_tests_106 L (nI d) v M1 Q := fun v hv => by
    unfold w_X12_tests_106
    rw [tn_nI (by omega), g, g]
    refine ⟨hin, fun c x hx => last x ?_, fun c => last v ?_⟩
    · unfold t4E; rw [if_pos c, hx, hv]
    · unfold t4E; rw [if_neg c, hv]
  have l76 : ∀ v : Int32, v = t2E (smsE (rwE M) d) d → w_X12_tests_76 L (nI d) v M1 Q := fun v hv => by
    unfold w_X12_tests_76
    rw [tn_nI (by omega), g, g]
    refine ⟨hin, fun c x hx => l106 x ?_, fun c => l106 v ?_⟩
    · unfold t3E; rw [if_pos c, hx, hv]
    · unfold t3E; rw [if_neg c, hv]
  have l44 : ∀ v : Int32, v = t1E (smsE (rwE M) d) d → w_X12_tests_44 L (nI d) v M1 Q := fun v hv => by
    unfold w_X12_tests_44
    rw [tn_nI (by omega), g, g, g]
    refine ⟨hin, fun c x hx => l76 x ?_, fun c => l76 v ?_⟩
    · unfold t2E; rw [if_pos c, hx]
    · unfold t2E; rw [if_neg c, hv]
  rw [g, g, g]
  refine ⟨hin, fun x hx => ⟨fun c y hy => l44 y ?_, fun c => l44 x ?_⟩⟩
  · unfold t1E; rw [if_pos c, hy]
  · unfold t1E; rw [if_neg c, hx]
-- a part is worth v: the "not"s ahead of it, then the term
theorem clE_le {E : SS} : ∀ d v, (clE E d v).1 ≤ d := by
  intro d
  induction d with
  | zero => intro v; exact Nat.le_refl _
  | succ d ih =>
    intro v
    unfold clE
    split
    · exact Nat.le_succ_of_le (ih _)
    · exact Nat.le_refl _
theorem m_part {L : Lay} {p0 p1 p2 : Int32} {d k : Nat} {v : Int32} {M : Mem} {K : Int32 → Int32 → Mem → Prop} {Q : Int32 → Mem → Prop} (hd : d < 6)
    (h : ∀ M', rwE M' = (enE (rwE M) d v).2 → FJ PX M M' → K (nI (enE (rwE M) d v).1) (nI (k + 1)) M') :
    LP4 (fun K306 v4 v5 v7 M => w_X12_worth_306 L p0 p1 p2 K K306 v4 v5 v7 M Q) (nI d) (nI k) v M := by
  refine LP4_m (fun z (v4 v5 v7 : Int32) M' => M' = M ∧ v5 = nI k ∧ v4 = nI z ∧ z ≤ d ∧ clE (rwE M) z v7 = clE (rwE M) d v) d ⟨rfl, rfl, rfl, Nat.le_refl _, rfl⟩ ?_
  intro z v4 v5 v7 M' ⟨e1, e2, e3, e4, e5⟩ K2 hK2
  subst e1 e2 e3
  have hin := vp_in_nI (show z < 6 by omega) (show 6 < 2 ^ 31 by decide)
  have stop : clE (rwE M') z v7 = (z, v7) → w_X12_worth_340 L p0 p1 p2 K (nI z) (nI k) v7 M' Q := fun hs => by
    rw [hs] at e5
    have r1 : (enE (rwE M') d v).1 = z := by unfold enE; rw [← e5]
    have r2 : (enE (rwE M') d v).2 = trE (rwE M') z v7 := by unfold enE; rw [← e5]
    rw [r1, r2] at h
    unfold w_X12_worth_340
    rw [tn_nI (by omega)]
    have fin : ∀ (M2 : Mem) (y x : Int32), M2 = si M' 144 z y → y = (if rwE M' 145 z = 0 then v7 else if rwE M' 145 z = 22 then rwE M' 144 z * v7 else if v7 = 0 then 0 else rwE M' 144 z / v7) → x = nI k + 1 → K (nI z) x M2 := fun M2 y x em ey ex => by
      rw [ex, nI_1]
      refine h M2 ?_ ?_
      · rw [em, rwE_si, ey]; rfl
      · rw [em]; refine FJ.rf.si ?_; unfold PX; omega
    refine ⟨hin, fun c M2 e2 x hx => fin M2 _ x e2 ?_ hx, fun c => ⟨fun c2 M2 e2 x hx => fin M2 _ x e2 ?_ hx, fun c2 => ⟨fun c3 M2 e2 x hx => fin M2 _ x e2 ?_ hx, fun c3 => ⟨c3, fun M2 e2 x hx => fin M2 _ x e2 ?_ hx⟩⟩⟩⟩
    · rw [if_pos (show rwE M' 145 z = 0 from c)]
    · rw [if_neg (show ¬ rwE M' 145 z = 0 from c), if_pos (show rwE M' 145 z = 22 from c2)]; rfl
    · rw [if_neg (show ¬ rwE M' 145 z = 0 from c), if_neg (show ¬ rwE M' 145 z = 22 from c2), if_pos c3]
    · rw [if_neg (show ¬ rwE M' 145 z = 0 from c), if_neg (show ¬ rwE M' 145 z = 22 from c2), if_neg c3]; rfl
  unfold w_X12_worth_306
  refine ⟨fun c => ?_, fun c => ?_⟩
  · rw [nI_0lt (by omega)] at c
    obtain ⟨y, rfl⟩ : ∃ y, z = y + 1 := ⟨z - 1, by omega⟩
    rw [tn_nI (by omega)]
    refine ⟨hin, fun c2 x hx w hw => ?_, fun c2 => stop ?_⟩
    · rw [hw, pk_m1]
      refine hK2 y (by omega) (nI y) (nI k) x M' ⟨rfl, rfl, rfl, by omega, ?_⟩
      rw [← e5]
      conv => rhs; unfold clE
      rw [if_pos (show rwE M' 146 (y + 1) = 1 from c2), hx]; rfl
    · conv => lhs; unfold clE
      rw [if_neg (show ¬ rwE M' 146 (y + 1) = 1 from c2)]
  · rw [nI_0lt (by omega)] at c
    have : z = 0 := by omega
    subst this
    exact stop rfl
-- codes that the reference may meet: depth, facts
def okC (r : Fx) (M : Mem) (a n : Nat) (q : Nat × SS) : Prop := ∀ i, i < n →
  (evL r ((List.range i).map (fun j => mi M 135 (a + j))) q).1 < 6 ∧
  (evL r ((List.range (i + 1)).map (fun j => mi M 135 (a + j))) q).1 < 6 ∧ (mi M 135 (a + i) = 29 → 0 < (evL r ((List.range i).map (fun j => mi M 135 (a + j))) q).1) ∧
  (mi M 135 (a + i) < 20 → ∃ f, 1 ≤ f ∧ f ≤ 14 ∧ mi M 135 (a + i) = nI f)
def cdM (M : Mem) (a n : Nat) : List Int32 := (List.range n).map (fun j => mi M 135 (a + j))
theorem cdM_1 {M : Mem} {a n : Nat} : cdM M a (n + 1) = cdM M a n ++ [mi M 135 (a + n)] := by
  unfold cdM; rw [List.range_succ, List.map_append]; rfl
theorem m_worth {L : Lay} {s p k a n : Nat} {r : Fx} {M : Mem} {Q : Int32 → Mem → Prop} (hp : 11 * p + k < 286) (h1 : mi M 130 (11 * p + k) = nI a) (h2 : mi M 131 (11 * p + k) = nI (a + n)) (hn : a + n ≤ 26000)
    (hf : ∀ (M' : Mem) (f : Nat) (Q : Int32 → Mem → Prop), FJ PX M M' → 1 ≤ f → f ≤ 14 → Q (r (f - 1)) M' → w_X12_fact L (nI s) (nI f) M' Q)
    (hok : okC r M a n (0, opnE (rwE M) 0))
    (h0 : (evL r (cdM M a n) (0, opnE (rwE M) 0)).1 = 0)
    (h : ∀ M', FJ PX M M' → Q (tstE (evL r (cdM M a n) (0, opnE (rwE M) 0)).2 0 138 0) M') : w_X12_worth L (nI s) (nI p) (nI k) M Q := by
  unfold w_X12_worth
  refine m_opens (d := 0) (by decide) (fun M1 r1 hF1 => ?_)
  rw [ixm11, tn_nI (by omega), hF1.1 130 _ (by unfold PX; omega), h1]
  refine ⟨vp_in_nI hp (by decide), fun x hx => ?_⟩
  subst hx
  have st : ∀ i, i ≤ n → (evL r (cdM M a i) (0, opnE (rwE M) 0)).1 < 6 := fun i hi => by
    by_cases q : i = n
    · subst q; rw [h0]; decide
    · exact (hok i (by omega)).1
  refine LP3_c1 a (a + n) (fun j (v4 : Int32) M' => FJ PX M M' ∧ v4 = nI (evL r (cdM M a (j - a)) (0, opnE (rwE M) 0)).1 ∧ rwE M' = (evL r (cdM M a (j - a)) (0, opnE (rwE M) 0)).2) rfl (by omega) ⟨hF1, by rw [Nat.sub_self]; rfl, by rw [Nat.sub_self]; exact r1⟩ ?_
  intro j v4 M2 hj hja ⟨hF2, ev, er⟩ K hK
  obtain ⟨i, rfl⟩ : ∃ i, j = a + i := ⟨j - a, by omega⟩
  rw [Nat.add_sub_cancel_left] at ev er
  subst ev
  have hdi := st i (by omega)
  have e135 : mi M2 135 (a + i) = mi M 135 (a + i) := hF2.1 135 _ (by unfold PX; omega)
  have goOn : i < n → ∀ M3 : Mem, FJ PX M M3 → (nI ((evS r (evL r (cdM M a i) (0, opnE (rwE M) 0)) (mi M 135 (a + i))).1), rwE M3) = (nI ((evS r (evL r (cdM M a i) (0, opnE (rwE M) 0)) (mi M 135 (a + i))).1), (evS r (evL r (cdM M a i) (0, opnE (rwE M) 0)) (mi M 135 (a + i))).2) → K (nI ((evS r (evL r (cdM M a i) (0, opnE (rwE M) 0)) (mi M 135 (a + i))).1)) (nI (a + i + 1)) M3 := fun hi M3 hF3 e3 => by
    refine hK (by omega) _ M3 ⟨hF3, ?_, ?_⟩
    · rw [show a + i + 1 - a = i + 1 from by omega, cdM_1, evL_1]
    · rw [show a + i + 1 - a = i + 1 from by omega, cdM_1, evL_1]; exact congrArg Prod.snd e3
  have hq := hok
  generalize hqq : evL r (cdM M a i) (0, opnE (rwE M) 0) = q at *
  unfold w_X12_worth_21
  rw [ixm11, tn_nI (by omega), hF2.1 131 _ (by unfold PX; omega), h2]
  refine ⟨vp_in_nI hp (by decide), fun hlt => ?_, fun hge => ?_⟩
  · rw [nI_lt' (by omega) (by omega)] at hlt
    have hi : i < n := by omega
    obtain ⟨o1, o2, o3, o4⟩ := hok i hi
    have o2' : (evS r q (mi M 135 (a + i))).1 < 6 := by
      have : evL r (cdM M a (i + 1)) (0, opnE (rwE M) 0) = evS r q (mi M 135 (a + i)) := by rw [cdM_1, evL_1, hqq]
      rw [← this]; exact o2
    have o3' : mi M 135 (a + i) = 29 → 0 < q.1 := fun z => by have := o3 z; rw [← hqq]; exact this
    have goOn := goOn hi
    rw [tn_nI (by omega), e135]
    refine ⟨vp_in_nI (by omega) (by decide), fun x hx => ?_⟩
    rw [← hx] at goOn o2' o3' o4
    have hin := vp_in_nI hdi (show 6 < 2 ^ 31 by decide)
    have op28 : x = 28 ∨ x = 30 → w_X12_worth_60 L (nI s) (nI p) (nI k) K (nI q.1) (nI (a + i)) x M2 Q := fun c => by
      have e : evS r q x = (q.1 + 1, opnE (u2 q.2 146 (q.1 + 1) (if x = 30 then 1 else 0)) (q.1 + 1)) := by unfold evS; rw [if_pos c]
      rw [e] at goOn o2'
      have o2' : q.1 + 1 < 6 := o2'
      unfold w_X12_worth_60
      rw [nI_1]
      intro y hy z hz
      subst hy
      rw [tn_nI (by omega)]
      refine ⟨vp_in_nI o2' (by decide), fun M3 e3 => m_opens o2' (fun M4 r4 hF4 t ht => ?_)⟩
      rw [ht, nI_1]
      refine goOn M4 ((hF2.tr (by rw [e3]; refine FJ.rf.si ?_; unfold PX; omega)).tr hF4) ?_
      rw [r4, e3, rwE_si, er, hz]
    have op20 : ¬ (x = 28 ∨ x = 30) → x = 20 ∨ x = 21 → w_X12_worth_105 L (nI s) (nI p) (nI k) K (nI q.1) (nI (a + i)) x M2 Q := fun c0 c => by
      have e : evS r q x = (q.1, u2 (smsE q.2 q.1) 143 q.1 x) := by unfold evS; rw [if_neg c0, if_pos c]
      rw [e] at goOn
      unfold w_X12_worth_105
      refine m_sums hdi (fun M3 r3 hF3 => ⟨hin, fun M4 e4 t ht => ?_⟩)
      rw [tn_nI (by omega)] at e4
      rw [ht, nI_1]
      refine goOn M4 ((hF2.tr hF3).tr (by rw [e4]; refine FJ.rf.si ?_; unfold PX; omega)) ?_
      rw [e4, rwE_si, r3, er]
    have op22 : ¬ (x = 28 ∨ x = 30) → ¬ (x = 20 ∨ x = 21) → x = 22 ∨ x = 23 → w_X12_worth_137 L (nI s) (nI p) (nI k) K (nI q.1) (nI (a + i)) x M2 Q := fun c0 c1 c => by
      have e : evS r q x = (q.1, u2 q.2 145 q.1 x) := by unfold evS; rw [if_neg c0, if_neg c1, if_pos c]
      rw [e] at goOn
      unfold w_X12_worth_137
      rw [tn_nI (by omega)]
      refine ⟨hin, fun M4 e4 t ht => ?_⟩
      rw [ht, nI_1]
      refine goOn M4 (hF2.tr (by rw [e4]; refine FJ.rf.si ?_; unfold PX; omega)) ?_
      rw [e4, rwE_si, er]
    have op24 : ¬ (x = 28 ∨ x = 30) → ¬ (x = 20 ∨ x = 21) → ¬ (x = 22 ∨ x = 23) → x = 24 ∨ x = 25 → w_X12_worth_163 L (nI s) (nI p) (nI k) K (nI q.1) (nI (a + i)) x M2 Q := fun c0 c1 c2 c => by
      have e : evS r q x = (q.1, u2 (u2 (u2 (u2 (smsE q.2 q.1) 140 q.1 (smsE q.2 q.1 142 q.1)) 141 q.1 x) 142 q.1 0) 143 q.1 20) := by unfold evS; rw [if_neg c0, if_neg c1, if_neg c2, if_pos c]
      rw [e] at goOn
      unfold w_X12_worth_163
      refine m_sums hdi (fun M3 r3 hF3 => ⟨hin, fun M4 e4 M5 e5 M6 e6 M7 e7 t ht => ?_⟩)
      rw [tn_nI (by omega)] at e4 e5 e6 e7
      rw [ht, nI_1]
      refine goOn M7 ((hF2.tr hF3).tr (by rw [e7, e6, e5, e4]; refine (((FJ.rf.si ?_).si ?_).si ?_).si ?_ <;> unfold PX <;> omega)) ?_
      have e142 : mi M3 142 q.1 = smsE q.2 q.1 142 q.1 := by rw [← er, ← r3]; rfl
      rw [e7, rwE_si, e6, rwE_si, e5, rwE_si, e4, rwE_si, r3, er, e142]
    have op26 : ¬ (x = 28 ∨ x = 30) → ¬ (x = 20 ∨ x = 21) → ¬ (x = 22 ∨ x = 23) → ¬ (x = 24 ∨ x = 25) → x = 26 ∨ x = 27 → w_X12_worth_226 L (nI s) (nI p) (nI k) K (nI q.1) (nI (a + i)) x M2 Q := fun c0 c1 c2 c3 c => by
      have e : evS r q x = (q.1, u2 (tstE q.2 q.1) 139 q.1 x) := by unfold evS; rw [if_neg c0, if_neg c1, if_neg c2, if_neg c3, if_pos c]
      rw [e] at goOn
      unfold w_X12_worth_226
      refine m_tests hdi (fun M3 r3 hF3 => ⟨hin, fun M4 e4 t ht => ?_⟩)
      rw [tn_nI (by omega)] at e4
      rw [ht, nI_1]
      refine goOn M4 ((hF2.tr hF3).tr (by rw [e4]; refine FJ.rf.si ?_; unfold PX; omega)) ?_
      rw [e4, rwE_si, r3, er]
    refine ⟨fun c => op28 (Or.inl c), fun n28 => ⟨fun c => op28 (Or.inr c), fun n30 => ?_⟩⟩
    have c0 : ¬ (x = 28 ∨ x = 30) := fun z => z.elim n28 n30
    refine ⟨fun c => op20 c0 (Or.inl c), fun n20 => ⟨fun c => op20 c0 (Or.inr c), fun n21 => ?_⟩⟩
    have c1 : ¬ (x = 20 ∨ x = 21) := fun z => z.elim n20 n21
    refine ⟨fun c => op22 c0 c1 (Or.inl c), fun n22 => ⟨fun c => op22 c0 c1 (Or.inr c), fun n23 => ?_⟩⟩
    have c2 : ¬ (x = 22 ∨ x = 23) := fun z => z.elim n22 n23
    refine ⟨fun c => op24 c0 c1 c2 (Or.inl c), fun n24 => ⟨fun c => op24 c0 c1 c2 (Or.inr c), fun n25 => ?_⟩⟩
    have c3 : ¬ (x = 24 ∨ x = 25) := fun z => z.elim n24 n25
    refine ⟨fun c => op26 c0 c1 c2 c3 (Or.inl c), fun n26 => ⟨fun c => op26 c0 c1 c2 c3 (Or.inr c), fun n27 => ?_⟩⟩
    have c4 : ¬ (x = 26 ∨ x = 27) := fun z => z.elim n26 n27
    intro y hy
    refine ⟨fun c29 => ?_, fun n29 => ⟨fun c20 => ?_, fun n20 => ?_⟩⟩
    · have e : evS r q x = enE (tstE q.2 q.1) (q.1 - 1) (tstE q.2 q.1 138 q.1) := by unfold evS; rw [if_neg c0, if_neg c1, if_neg c2, if_neg c3, if_neg c4, if_pos c29]
      rw [e] at goOn
      refine m_tests hdi (fun M3 r3 hF3 => ⟨hin, fun z hz w hw => ?_⟩)
      have hpos := o3' c29
      rw [tn_nI (by omega)] at hz
      obtain ⟨d, hd⟩ : ∃ d, q.1 = d + 1 := ⟨q.1 - 1, by omega⟩
      rw [hw, hd, pk_m1]
      refine m_part (d := d) (by omega) (fun M4 r4 hF4 => ?_)
      have e138 : z = tstE q.2 q.1 138 q.1 := by rw [hz, ← er, ← r3]; rfl
      rw [r3, er] at r4 ⊢
      rw [hd] at goOn r4 e138
      rw [hd]
      rw [← e138] at goOn
      exact goOn M4 ((hF2.tr hF3).tr hF4) (by rw [r4]; rfl)
    · obtain ⟨f, f1, f2, f3⟩ := o4 c20
      have e : evS r q x = enE q.2 q.1 (r (tn (x - 1))) := by unfold evS; rw [if_neg c0, if_neg c1, if_neg c2, if_neg c3, if_neg c4, if_neg n29, if_pos c20]
      rw [e] at goOn
      have ef : tn (x - 1) = f - 1 := by rw [f3, show (1 : Int32) = nI 1 from rfl, pk_sub f1, tn_nI (by omega)]
      rw [ef] at goOn
      rw [f3]
      refine hf M2 f _ hF2 f1 f2 ?_
      refine m_part hdi (fun M4 r4 hF4 => ?_)
      rw [er] at r4 ⊢
      exact goOn M4 (hF2.tr hF4) (by rw [r4])
    · have e : evS r q x = enE q.2 q.1 (if x < 100 then 0 else x - 100) := by unfold evS; rw [if_neg c0, if_neg c1, if_neg c2, if_neg c3, if_neg c4, if_neg n29, if_neg n20]
      rw [e] at goOn
      rw [hy]
      refine m_part hdi (fun M4 r4 hF4 => ?_)
      rw [er] at r4 ⊢
      exact goOn M4 (hF2.tr hF4) (by rw [r4])
  · rw [nI_lt' (by omega) (by omega)] at hge
    have ei : i = n := by omega
    subst ei
    rw [hqq] at h h0
    rw [show (0 : Int32) = nI 0 from rfl]
    refine m_tests (d := 0) (by decide) (fun M3 r3 hF3 => ?_)
    rw [er] at r3
    have : mi M3 138 0 = tstE q.2 0 138 0 := by rw [← r3]; rfl
    rw [this]
    exact h M3 (hF2.tr hF3)
