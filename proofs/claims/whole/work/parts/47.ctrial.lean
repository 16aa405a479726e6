-- LEVEL 3, part 31: a trial of the class, whole
theorem c_trial {L : Lay} {t n : Nat} {set iss : Int32} {X : WS} {M : Mem} {Q : Mem → Prop} (hX : wsC L 1 M X) (ho : okX t X) (ht : t ≤ 720) (hz : zrX X.1) (h36 : z36 (tn (X.1 28 0)) (tn (X.1 34 0)) M) (hb : ∀ i, tn (X.1 28 0) ≤ i → i < 10 → btF set i = 0)
    (hi : iss = -1 ∨ ∃ k, k ≤ 9999 ∧ iss = nI k) (hn : n < 2 ^ 30)
    (h : ∀ M', wsC L 36 M' (trI (wdC M) iss t (bkX X set) n) → (∀ a k, ¬ (36 ≤ a ∧ a < 71 ∧ a ≠ 40) → mi M' a k = mi M a k) → (∀ a k, ¬ (a = 36 ∧ 9 ≤ k ∧ k ≤ 12) → mp M' a k = mp M a k) → M'.2.2 = M.2.2 → Q M') : w_X11_runTrial L set iss (nI n) M Q := by
  have hw : IsW 36 := Or.inr rfl
  unfold w_X11_runTrial
  refine c_copy hX ho hz h36 (fun M1 y1 y14 g1 p1 q1 => ?_)
  obtain ⟨x1, x2, x3, x4, x5, x6⟩ := y1
  refine c_setB (T := t) (by rw [x1]; exact ho.1) (fun i a b => ?_) (fun M2 v2 F2 M3 e3 => ?_)
  · rw [x1] at a ⊢
    exact ⟨hz 111 i (by unfold tlS; omega), hb i a b⟩
  · have V2 := FC.ofV F2
    have v3 : vwC 36 M3 = bkF X.1 set := by rw [e3, vwC_is, v2, x1]
    have i3 : ∀ a k, ¬ (a = 36 ∧ k = 14) → mi M3 a k = mi M2 a k := fun a k q => by rw [e3, mi_si, if_neg q]
    have F23 : FJ (fun a k => a = 36 ∧ k = 14) M2 M3 := by rw [e3]; exact FJ.rf.si ⟨rfl, rfl⟩
    have hX3 : wsC L 36 M3 (bkX X set) := by
      refine ⟨v3, ?_, ?_, ?_, ?_, fun i a b => ?_⟩
      · rw [F23.mp, F2.mp]; exact lawC_cg (fun b hb _ => F23.row (fun k q => by omega)) (FC.law hw V2 x2)
      · rw [F23.mp, F2.mp]; exact lawC_cg (fun b hb _ => F23.row (fun k q => by omega)) (FC.law hw V2 x3)
      · rw [F23.mp, F2.mp]; exact optC_cg (fun b hb _ => F23.row (fun k q => by omega)) (fun b hb _ => congrFun (congrArg Prod.fst F23.2) b) (FC.opt hw V2 x4)
      · rw [F23.mp, F2.mp]; exact optC_cg (fun b hb _ => F23.row (fun k q => by omega)) (fun b hb _ => congrFun (congrArg Prod.fst F23.2) b) (FC.opt hw V2 x5)
      · have a : tn (bkF X.1 set 28 0) ≤ i := a
        rw [bkF_f (by decide)] at a
        rw [i3 _ _ (fun q => by have := q.1; unfold oA at this; omega), F2.1 _ _ (fun q => by unfold PV oA at q; omega)]
        exact x6 i a b
    have far : ∀ a k, ¬ (36 ≤ a ∧ a < 71 ∧ a ≠ 40) → mi M3 a k = mi M a k := fun a k q => by
      rw [i3 a k (fun z => by omega), F2.1 a k (fun z => by unfold PV at z; omega), g1 a k q]
    have ew : wdC M3 = wdC M := by
      funext d
      unfold wdC
      rw [far 0 7 (by omega), far 90 _ (by omega)]
    refine c_run hX3 (ok_bk ho) ht (by rw [e3, mi_si, if_pos ⟨rfl, rfl⟩]) hi hn (fun M4 a1 F4 => h M4 (by rw [ew] at a1; exact a1) (fun a k q => ?_) (fun a k q => ?_) ?_)
    · rw [F4.1 a k (fun z => by unfold PG at z; omega)]; exact far a k q
    · rw [F4.2.1 a k (fun z => q (by omega)), F23.mp, F2.mp]; exact p1 a k q
    · rw [F4.2.2, congrArg Prod.snd F23.2, congrArg Prod.snd F2.2, q1]
