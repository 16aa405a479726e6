-- LEVEL 3, part 39: fines and sales
theorem ow_ov {S : SS} {o : Nat} {a b : Int32} : ∀ j, j ≠ 6 → owF S o a j = owF S o b j := fun j h => match j, h with
  | 0, _ => rfl
  | 1, _ => rfl
  | 2, _ => rfl
  | 3, _ => rfl
  | 4, _ => rfl
  | 5, _ => rfl
  | 6, h => absurd rfl h
  | _ + 7, _ => rfl
def fiT (L : Lay) (o m : Nat) (pv a : Int32) (R : Mem → Prop) (M10 : Mem) : Prop := vp_in (nI m) 24 ∧ (vp_in (((11 : Int32) * (mi M10 128 m)) + (2 : Int32)) 286 ∧ (((mi M10 130 (tn (((11 : Int32) * (mi M10 128 m)) + (2 : Int32)))) < 0 → w_X12_fine_118 L (nI o) (nI m) (0 : Int32) M10 (fun b M2 => a = b ∧ R M2)) ∧
  (¬ (mi M10 130 (tn (((11 : Int32) * (mi M10 128 m)) + (2 : Int32)))) < 0 → ((((mi M10 103 0) &&& (4 : Int32)) = 0 → (∀ M15 : Mem, M15 = si M10 92 68 (nI o) → (∀ M16 : Mem, M16 = si M15 92 69 pv → w_X12_worthWithin L (0 : Int32) (mi M16 128 m) (2 : Int32) M16 (fun x18 M17 => w_X12_fine_118 L (nI o) (nI m) x18 M17 (fun b M2 => a = b ∧ R M2))))) ∧
    (¬ ((mi M10 103 0) &&& (4 : Int32)) = 0 → w_X12_fine_118 L (nI o) (nI m) (0 : Int32) M10 (fun b M2 => a = b ∧ R M2))))))
def fnF (S : SS) (P : Pc) (v : Int32) (o : Nat) (ov : Int32) : Int32 := if vdF v 2 = true then 0 else liF (exV (P.1 2) 0 (owF S o ov))
section FIN
variable {L : Lay} {M : Mem}
theorem c_fineBy {t a o : Nat} {ov : Int32} {X : WS} {P : Pc} {Q : Int32 → Mem → Prop} (hX : wsC L 1 M X) (hg : gdT t X.1) (ho : o < 10) (hP : pacC L M a P) (h : ∀ M', FJ (PV 1) M M' → vwC 1 M' = X.1 → Q (fnF X.1 P X.2.1.1 o ov) M') : w_X10_fineBy L 1 (some a) (oA 1 o) ov M Q := by
  have hw : IsW 1 := Or.inl rfl
  obtain ⟨x1, ⟨la, l1, l2, l3, l4, l5⟩, -⟩ := hX
  unfold w_X10_fineBy
  refine ⟨fun q => (by cases q), fun a2 e2 => ⟨la, l1, l2, c_void (k := 2) l4 ?_⟩⟩
  cases e2
  by_cases c : vdF X.2.1.1 2 = true
  · rw [if_pos c]
    refine ⟨fun q => absurd q (by decide), fun _ => ?_⟩
    have := h M FJ.rf x1
    unfold fnF at this
    rw [if_pos c] at this; exact this
  · rw [if_neg c]
    refine ⟨fun _ => ?_, fun q => absurd rfl q⟩
    refine c_tell (w := 1) (T := t) (by rw [x1]; exact hg) (fun M1 v1 f1 F1 r1 => ?_)
    rw [x1] at v1 f1
    refine c_setOwner (w := 1) (over := 0) ho (fun j hj => ?_) (fun M2 v2 f2 F2 => ?_)
    · rw [f1, v1]
      match j, hj with
      | 6, _ => rfl
      | j + 7, _ => rfl
    rw [v1] at v2 f2
    refine c_setFact (re := 6) (j := 6) (by decide) (fun M3 e3 => ?_)
    have F2' : FJ (PV 1) M1 M2 := F2.mono (fun b _ q => by unfold PV; omega)
    have F3 : FJ (PV 1) M M3 := by rw [e3]; exact (F1.tr F2').si (by unfold PV; omega)
    have v3 : vwC 1 M3 = X.1 := by rw [e3, vwC_far (by omega)]; exact v2
    have f3 : fxM M3 6 = owF X.1 o ov := by
      funext j
      show (if j < 14 then mi M3 7 j else 0) = _
      have e := congrFun f2 j
      have e : (if j < 14 then mi M2 7 j else 0) = owF X.1 o 0 j := e
      by_cases q : j = 6
      · subst q; rw [if_pos (by decide), e3, mi_si, if_pos ⟨rfl, rfl⟩]; rfl
      · rw [e3, mi_si, if_neg (c := 7 = 6 + 1 ∧ j = 6) (fun y => q y.2), e]; exact ow_ov j q
    have hp3 : pacC L M3 a P := pacC_cg (fun b hb _ => F3.row (fun _ => by unfold PV; omega)) (fun b hb _ => congrFun (congrArg Prod.fst F3.2) b) hP
    refine ⟨a, rfl, hp3.1, c_line hw hp3.2.2.2.2.1 (fun M4 F4 => c_lim ?_)⟩
    have F4' : FJ (PV 1) M3 M4 := F4.mono (fun b _ q => by unfold PV; omega)
    have := h M4 (F3.tr F4') (by rw [← v3]; exact vwC_cg7 (fun b hb => F4.row (fun _ => hb)) F4.2)
    unfold fnF at this
    rw [if_neg c] at this
    show Q (liF (exV (P.1 2) 0 (fxM M3 6))) M4
    rw [f3]; exact this
theorem li_0 : liF 0 = 0 := by decide
theorem j_fine {p0 p1 : Int32} (h : RR L M) : w_X11_fine L p0 p1 M (fun a M1 => w_X12_fine L p0 p1 M1 (fun b M2 => a = b ∧ RR L M2)) := by
  have h' := h
  obtain ⟨t, X, h⟩ := h
  obtain ⟨⟨n1, n2, n3⟩, -, n93, m93, n720, -⟩ := RX_n h
  obtain ⟨n, hn, hC, hM, hk⟩ := h.2.2.2.2.1
  have no : ∀ M1 : Mem, M1 = si M 92 0 0 → RR L M1 := fun M1 e => by subst e; exact RR_th h'
  have bad0 : ∀ M1 : Mem, ¬ (isN (tn (X.1 28 0)) p0 ∧ isN (t / 30) p1) → M1 = M → w_X12_fine L p0 p1 M1 (fun b M2 => -1 = b ∧ RR L M2) := fun M1 q e2 => by
    subst e2
    unfold w_X12_fine
    intro M2 e
    have m93' : mi M2 93 0 = nI t := by rw [e]; exact m93
    exact m_ovB (n := tn (X.1 28 0)) (t := t) (by rw [e]; exact n2) n3 m93' n720 (fun _ => ⟨rfl, no M2 e⟩) (fun r1 r2 => absurd ⟨r1, r2⟩ q)
  unfold w_X11_fine
  refine c_ownB n1 n3 (fun q => bad0 _ (fun z => q z.1) rfl) (fun q1 => c_ovB n93 n720 (fun q => bad0 _ (fun z => q z.2) rfl) (fun q2 => ?_))
  have q1' := q1
  have q2' := q2
  obtain ⟨o, ho, rfl⟩ := q1
  obtain ⟨m, hm, rfl⟩ := q2
  have ec : nI m * 10 + nI o = nI (10 * m + o) := by rw [show (10 : Int32) = nI 10 from rfl, pk_mul, nI_add, Nat.mul_comm]
  have em : (10 : Int32) * nI m + nI o = nI (10 * m + o) := by rw [show (10 : Int32) = nI 10 from rfl, pk_mul, nI_add]
  obtain ⟨mo1, mo2⟩ := h.2.2.2.1
  obtain ⟨-, -, fi1, fi2⟩ := mo1 (10 * m + o) (by omega)
  -- the reference, from a memory that differs from M in scratch alone
  have start : ∀ (a : Int32) (M1 : Mem), (∀ b k, ¬ PN b k → ¬ (b = 79 ∧ k = 10 * m + o) → ¬ (PV 1 b k) → mi M1 b k = mi M b k) →
    (∀ M2 : Mem, (∀ b k, ¬ (b = 92 ∧ k = 0) → mi M2 b k = mi M1 b k) → M2.2 = M1.2 → (mi M 154 (10 * m + o) = 0 → (pvF M o m (nI t) n = 0 → a = -1 ∧ RR L M2) ∧ (¬ pvF M o m (nI t) n = 0 → ∀ M10 : Mem, M10 = si M2 154 (10 * m + o) (narZ (1 : Int32)) → fiT L o m (pvF M o m (nI t) n) a (RR L) M10)) ∧ (¬ mi M 154 (10 * m + o) = 0 → a = -1 ∧ RR L M2)) → w_X12_fine L (nI o) (nI m) M1 (fun b M2 => a = b ∧ RR L M2) := fun a M1 hi hh => by
    unfold w_X12_fine
    intro M2 e
    have f2 : ∀ b k, ¬ PN b k → ¬ (b = 79 ∧ k = 10 * m + o) → ¬ (PV 1 b k) → mi M2 b k = mi M b k := fun b k z1 z2 z3 => by
      rw [e, mi_si, if_neg (fun z => z1 (by unfold PN; omega)), hi b k z1 z2 z3]
    have m93' : mi M2 93 0 = nI t := by rw [f2 _ _ (by unfold PN; omega) (by omega) (by unfold PV; omega)]; exact m93
    refine m_ovB (n := tn (X.1 28 0)) (t := t) (by rw [f2 _ _ (by unfold PN; omega) (by omega) (by unfold PV; omega)]; exact n2) n3 m93' n720 (fun z => absurd ⟨q1', q2'⟩ z) (fun _ _ => ?_)
    have g := hh M2 (fun b k z => by rw [e, mi_si, if_neg z]) (by rw [e]; rfl)
    rw [m93', em, tn_nI (n := 10 * m + o) (by omega), f2 154 _ (by unfold PN; omega) (by omega) (by unfold PV; omega)]
    refine ⟨vp_in_nI (by omega) (by decide), fun c => m_prov (n := n) (by omega) (by omega) hn (by rw [f2 _ _ (by unfold PN; omega) (by omega) (by unfold PV; omega)]; exact hM) ?_, fun c => g.2 c⟩
    rw [pv_cg (fun b k z => f2 b k (by unfold PN; omega) (by omega) (by unfold PV; omega))]
    have g1 := g.1 c
    rw [tn_nI (n := m) (by omega)]
    exact g1
  unfold w_X2_place
  dsimp only
  rw [ec, tn_nI (n := 10 * m + o) (by omega), fi1, n93]
  refine ⟨vp_in_nI (by omega) (by decide), fun c => ?_, fun c => ?_⟩
  · refine c_prov h (by omega) (by omega) hn hC hk (fun M1 F1 => ?_)
    have RX1 : ∀ M2 : Mem, (∀ b k, ¬ (b = 92 ∧ k = 0) → mi M2 b k = mi M1 b k) → M2.2 = M1.2 → RR L M2 := fun M2 g1 g2 => ⟨t, X, RX_cg h (fun b k z => by rw [g1 b k (by unfold PN at z; omega), F1.1 b k (by unfold PN at z; omega)]) (fun b k => by unfold mp; rw [g2, F1.2])⟩
    refine ⟨fun d => ?_, fun d => ?_⟩
    · exact start _ M1 (fun b k z1 _ _ => F1.1 b k (by unfold PN at z1; omega)) (fun M2 g1 g2 => ⟨fun _ => ⟨fun _ => ⟨rfl, RX1 M2 g1 g2⟩, fun y => absurd d y⟩, fun y => absurd c y⟩)
    · -- something is proved: a pact held
      have held : ∃ a q P, mp M 76 m = some a ∧ mi M 128 m = nI q ∧ q ≤ m ∧ pacC L M a P ∧ pacM M q P := by
        rcases mo2 m (by omega) with ⟨-, y⟩ | ⟨-, y⟩
        · exfalso
          apply d
          unfold pvF
          rw [y]
          by_cases w : khV M o m (nI t) n < klF M o m (nI t) n
          · rw [if_pos w]
          · rw [if_neg w, if_pos (by decide)]
        · exact y
      obtain ⟨a, q, P, ua, ub, uc, ud, ue⟩ := held
      refine ⟨vp_in_nI (by omega) (by decide), fun M3 e3 => ?_⟩
      have fr3 : ∀ b k, ¬ (b = 80 ∧ k ≠ 0) → ¬ (b = 79 ∧ k = 10 * m + o) → mi M3 b k = mi M b k := fun b k z1 z2 => by rw [e3, mi_si, if_neg z2, F1.1 b k z1]
      have p3 : ∀ b k, mp M3 b k = mp M b k := fun b k => by rw [e3]; exact F1.mp
      have w3 : wsC L 1 M3 X := by
        refine wsC_to h.1.2.1 rfl ?_ (fun b k z => fr3 b k (by omega) (by omega)) (fun b k _ => p3 b k) (fun i a1 a2 => ?_)
        · rw [vwC_eq (fun b k z1 z2 => fr3 b k (by omega) (by omega)) (p3 1 11)]; exact h.1.2.1.1
        · rw [fr3 _ _ (by unfold oA; omega) (by unfold oA; omega)]; exact h.1.2.1.2.2.2.2.2 i a1 a2
      rw [p3, tn_nI (n := m) (by omega), tn_nI (n := o) (by omega), ua]
      refine ⟨vp_in_nI (by omega) (by decide), vp_in_nI (by omega) (by decide), ?_⟩
      refine c_fineBy w3 h.1.2.2.2.1.1 (by omega) (pacC_cg (fun b hb _ => funext fun k => fr3 b k (by omega) (by omega)) (fun b hb _ => funext fun k => p3 b k) ud) (fun M4 F4 v4 M5 e5 => ?_)
      have g4 : mi M4 (oA 1 o) 9 = X.1 110 o := by rw [rC_110 (by omega), v4]
      rw [g4] at e5
      have n1z : narZ 1 = (1 : Int32) := by decide
      -- the reference
      refine start _ M5 (fun b k z1 z2 z3 => by rw [e5, mi_si, if_neg (fun y => z3 (by unfold PV oA at *; omega)), F4.1 b k z3, fr3 b k (by unfold PN at z1; omega) z2]) (fun M6 g1 g2 => ⟨fun _ => ⟨fun y => absurd y d, fun _ M7 e7 => ?_⟩, fun y => absurd c y⟩)
      unfold fiT
      have f7 : ∀ b k, ¬ PN b k → ¬ ((b = 79 ∨ b = 154) ∧ k = 10 * m + o) → ¬ (PV 1 b k) → mi M7 b k = mi M b k := fun b k z1 z2 z3 => by
        rw [e7, mi_si, if_neg (by omega), g1 b k (by unfold PN at z1; omega), e5, mi_si, if_neg (fun y => z3 (by unfold PV oA at *; omega)), F4.1 b k z3, fr3 b k (by unfold PN at z1; omega) (by omega)]
      have i7 : ∀ b k, 93 ≤ b → b < 136 → mi M7 b k = mi M b k := fun b k z1 z2 => f7 b k (by unfold PN; omega) (by omega) (by unfold PV; omega)
      rw [i7 128 m (by omega) (by omega), ub, show (11 : Int32) = nI 11 from rfl, pk_mul, show (2 : Int32) = nI 2 from rfl, nI_add, tn_nI (n := 11 * q + 2) (by omega), i7 130 _ (by omega) (by omega), i7 103 _ (by omega) (by omega), show (4 : Int32) = nI (2 ^ 2) from rfl]
      -- the end
      have fin : ∀ (z : Int32) (M8 : Mem), z = fnF X.1 P X.2.1.1 o (pvF M o m (nI t) n) → (∀ b k, ¬ PN b k → mi M8 b k = mi M7 b k) → M8.2 = M7.2 → w_X12_fine_118 L (nI o) (nI m) z M8 (fun b M2 => fnF X.1 P X.2.1.1 o (pvF M o m (nI t) n) = b ∧ RR L M2) := fun z M8 ez g8 h8 => by
        unfold w_X12_fine_118
        rw [tn_nI (n := o) (by omega)]
        refine ⟨vp_in_nI (by omega) (by decide), fun M9 e9 => ⟨ez.symm, t, (u2 X.1 110 o (X.1 110 o - fnF X.1 P X.2.1.1 o (pvF M o m (nI t) n)), X.2), ?_⟩⟩
        subst ez
        have k10 : mi M8 110 o = X.1 110 o := by
          have := rM_110 (s := 0) (i := o) (M := M) (by omega)
          rw [Nat.mul_zero, Nat.zero_add] at this
          rw [g8 110 o (by unfold PN; omega), i7 110 o (by omega) (by omega), this, h.1.2.2.1.1]
        rw [k10] at e9
        -- the memory with the fine told on both sides
        have N1 : RX L (si (si M 79 (10 * m + o) 1) 154 (10 * m + o) 1) t X := by
          refine RX_parts h (fun b k z1 _ _ z4 => by rw [mi_si, if_neg (by omega), mi_si, if_neg (by omega)]) (fun _ _ => rfl) (RE_cg h.2.2.2.2.1 (fun b k y => by unfold PRe at y; rw [mi_si, if_neg (by omega), mi_si, if_neg (by omega)])) (SA_cg h.2.2.2.2.2 (Nat.le_refl _) (fun b k y => by unfold PSa at y; rw [mi_si, if_neg (by omega), mi_si, if_neg (by omega)])) (fun k hk2 => ?_)
          rw [mi_si, if_neg (by omega), mi_si, mi_si]
          by_cases y : k = 10 * m + o
          · subst y
            rw [if_pos ⟨rfl, rfl⟩, if_pos ⟨rfl, rfl⟩]; exact ⟨rfl, Or.inr rfl⟩
          · rw [if_neg (fun w => y w.2), if_neg (fun w => y w.2), mi_si, if_neg (by omega)]; exact RX_fi h k hk2
        have all : ∀ b k, ¬ PU b k → mi M9 b k = mi (si (si M 79 (10 * m + o) 1) 154 (10 * m + o) 1) b k := fun b k y => by
          have y2 : ¬ PN b k := fun w => y (Or.inl w)
          rw [e9, mi_si, if_neg (by unfold PU at y; omega), g8 b k y2, mi_si]
          by_cases y3 : b = 154 ∧ k = 10 * m + o
          · rw [if_pos y3, e7, mi_si, if_pos y3, n1z]
          · rw [if_neg y3, mi_si, e7, mi_si, if_neg y3, g1 b k (by unfold PN at y2; omega), e5, mi_si, if_neg (by unfold PU oA at *; omega)]
            by_cases y5 : b = 79 ∧ k = 10 * m + o
            · rw [if_pos y5, F4.1 b k (by unfold PV; omega), e3, mi_si, if_pos y5, n1z]
            · by_cases y6 : PV 1 b k
              · exfalso
                apply y
                unfold PV at y6
                unfold PU
                omega
              · rw [if_neg y5, F4.1 b k y6, fr3 b k (by unfold PN at y2; omega) y5]
        have vC : vwC 1 M9 = u2 X.1 110 o (X.1 110 o - fnF X.1 P X.2.1.1 o (pvF M o m (nI t) n)) := by
          have e : vwC 1 M9 = vwC 1 M5 := vwC_eq (fun b k y1 y2 => by
            rw [e9, mi_si, if_neg (by omega), g8 b k (by unfold PN; omega), e7, mi_si, if_neg (by omega), g1 b k (by omega)]) (by unfold mp; rw [e9]; show M8.2.1 1 11 = _; rw [h8, e7]; show M6.2.1 1 11 = _; rw [g2])
          rw [e, e5, sC_110 (by omega), v4]
        have vM : vwM 0 M9 = u2 X.1 110 o (X.1 110 o - fnF X.1 P X.2.1.1 o (pvF M o m (nI t) n)) := by
          have s := sM_110 (s := 0) (i := o) (M := M8) (x := X.1 110 o - fnF X.1 P X.2.1.1 o (pvF M o m (nI t) n)) (by omega)
          rw [Nat.mul_zero, Nat.zero_add] at s
          have e : vwM 0 M8 = vwM 0 M := vwM_cg (fun b k y1 y2 y3 _ _ _ _ _ _ _ _ _ _ _ => by
            rw [g8 b k (by unfold PN; omega)]
            exact f7 b k (by unfold PN; omega) (by omega) (by unfold PV; omega))
          rw [e9, s, e, h.1.2.2.1.1]
        have cc := u2_cnt (S := X.1) (i := o) (x := X.1 110 o - fnF X.1 P X.2.1.1 o (pvF M o m (nI t) n)) (f := 110) (by decide)
        refine RX_upd N1 vC vM (ok_u h.1.2.2.2.1 (by decide)) (zr_u h.1.2.2.2.2.1 (by decide) (by unfold tlS; omega)) (lf_u h.1.2.2.2.2.2.2.2.2.1 (by decide)) cc.1 cc.2 ⟨all, ?_⟩
        rw [e9]; show M8.2 = M.2
        rw [h8, e7]; show M6.2 = M.2
        rw [g2, e5]; show M4.2 = M.2
        rw [F4.2, e3]; exact F1.2
      have hvd := vd_b (v := X.2.1.1) h.1.2.2.1.2.2.2.1 (k := 2) (by decide)
      have h103 : mi M 103 0 = X.2.1.1 := h.1.2.2.1.2.1
      rw [h103, hvd]
      refine ⟨vp_in_nI (by omega) (by decide), vp_in_nI (by omega) (by decide), fun y => fin 0 M7 ?_ (fun _ _ _ => rfl) rfl, fun y => ⟨fun w M8 e8 M9 e9 => ?_, fun w => fin 0 M7 ?_ (fun _ _ _ => rfl) rfl⟩⟩
      · unfold fnF
        by_cases w : vdF X.2.1.1 2 = true
        · rw [if_pos w]
        · rw [if_neg w]
          rcases ue.2.2.1 with ⟨-, w2⟩ | ⟨b, k, x, w2, w3, w4, w5, -⟩
          · rw [w2]; exact li_0.symm
          · rw [w2] at y; exact absurd y (nI_pos (by omega))
      · rcases ue.2.2.1 with ⟨w1, -⟩ | ⟨b, k, x, w2, w3, w4, w5, w6, w7⟩
        · exact absurd w1 y
        have i9 : ∀ b k, ¬ (b = 92 ∧ (k = 68 ∨ k = 69)) → mi M9 b k = mi M7 b k := fun b k z => by rw [e9, mi_si, if_neg (by omega), e8, mi_si, if_neg (by omega)]
        have v9 : vwM 0 M9 = X.1 := by
          rw [← h.1.2.2.1.1]
          exact vwM_cg (fun b k y1 y2 y3 _ _ _ _ _ _ _ _ _ _ _ => by
            rw [i9 b k (by omega)]
            exact f7 b k (by unfold PN; omega) (by omega) (by unfold PV; omega))
        have a68 : mi M9 92 68 = nI o := by rw [e9, mi_si, if_neg (by omega), e8, mi_si, if_pos ⟨rfl, rfl⟩]
        have a69 : mi M9 92 69 = pvF M o m (nI t) n := by rw [e9, mi_si, if_pos ⟨rfl, rfl⟩]
        have ef : fmF 0 M9 = owF X.1 o (pvF M o m (nI t) n) := by
          funext j
          rw [fmF_o (by rw [a68]; exact nI_pos (by omega)), a68, a69, v9, tn_nI (n := o) (by omega)]
        rw [i9 128 m (by omega), i7 128 m (by omega) (by omega), ub]
        refine m_within (s := 0) (p := q) (k := 2) (T := t) (x := x) (by decide) (by rw [v9]; exact h.1.2.2.2.1.1) (fun d hd => ?_) (Or.inr ⟨o, by omega, a68⟩) (by omega) (by decide) (lineM_cg (M := M) (by decide) (fun b j z => by rw [i9 b j (by unfold slM at z; omega), i7 b j (by unfold slM at z; omega) (by unfold slM at z; omega)]) (by rw [← w6]; exact ue.2.2.1)) (fun MA FA => fin _ MA ?_ (fun b k z => ?_) ?_)
        · rw [i9 119 _ (by omega), i7 119 _ (by omega) (by omega)]; exact h.1.2.2.1.2.2.2.2.2.2.2.2.1 d hd
        · unfold fnF
          rw [if_neg (by rw [w]; decide), w6, ef]; rfl
        · rw [FA.1 b k (by unfold PX; unfold PN at z; omega), i9 b k (by unfold PN at z; omega)]
        · rw [FA.2, e9, e8]; rfl
      · unfold fnF
        rw [if_pos (by simpa using w)]
  · exact start _ M (fun b k _ _ _ => rfl) (fun M2 g1 g2 => ⟨fun y => absurd y c, fun _ => ⟨rfl, t, X, RX_cg h (fun b k z => g1 b k (by unfold PN at z; omega)) (fun b k => by unfold mp; rw [g2])⟩⟩)
theorem shr_t : ∀ n, n < 31 → ((nI n &&& 31 : Int32).toBitVec.smod 32).toNat = n := by decide +kernel
theorem jshr_nI {s n : Nat} (hs : s < 2 ^ 31) (hn : n < 31) : jshr (nI s) (nI n) = nI (s / 2 ^ n) := pk_shrN hs _ n (shr_t n hn)
def isS (n : Nat) (p : Int32) : Prop := ∃ s, s < 2 ^ n ∧ p = nI s
theorem p31 {n : Nat} (hn : n ≤ 10) : 2 ^ n ≤ 1024 := by
  have := Nat.pow_le_pow_right (n := 2) (by decide) hn
  exact this
theorem c_setV {p : Int32} {n : Nat} {Q : Int32 → Mem → Prop} (hm : mi M 1 2 = nI n) (hn : n ≤ 10) (h0 : ¬ isS n p → Q 0 M) (h1 : isS n p → Q 1 M) : w_X11_isSet L p M Q := by
  intro x hx
  have p2 := p31 hn
  by_cases c : p < 0
  · rw [if_pos c] at hx; subst hx
    refine h0 (fun z => ?_)
    obtain ⟨s, hs, rfl⟩ := z
    exact nI_pos (by omega) c
  · rw [if_neg c, hm] at hx
    obtain ⟨s, hs, rfl⟩ := nI_of c
    rw [jshr_nI hs (by omega)] at hx
    have hd : s / 2 ^ n < 2 ^ 31 := Nat.lt_of_le_of_lt (Nat.div_le_self _ _) hs
    have e : (nI (s / 2 ^ n) = 0) ↔ s < 2 ^ n := by
      rw [show (0 : Int32) = nI 0 from rfl, nI_eq' hd (by decide)]
      rw [Nat.div_eq_zero_iff]
      constructor
      · rintro (q | q)
        · exact absurd q (Nat.pos_iff_ne_zero.mp (Nat.two_pow_pos n))
        · exact q
      · exact Or.inr
    by_cases d : nI (s / 2 ^ n) = 0
    · rw [if_pos d] at hx; subst hx; exact h1 ⟨s, e.mp d, rfl⟩
    · rw [if_neg d] at hx; subst hx
      refine h0 (fun z => ?_)
      obtain ⟨s', hs', e'⟩ := z
      have := (nI_eq hs (by omega)).mp e'
      exact d (e.mpr (by omega))
theorem m_ltS {p : Int32} {n : Nat} (hn : n ≤ 10) : (¬ p < 0 ∧ p < jshl 1 (nI n)) ↔ isS n p := by
  have p2 := p31 hn
  rw [jshl_1 (by omega)]
  exact (isN_lt (n := 2 ^ n) (by omega)).symm
theorem m_setV {p : Int32} {n : Nat} {Q : Int32 → Mem → Prop} (hm : mi M 92 28 = nI n) (hn : n ≤ 10) (h0 : ¬ isS n p → Q 0 M) (h1 : isS n p → Q 1 M) : w_X12_isSet L p M Q := by
  intro x hx
  rw [hm] at hx
  have e := m_ltS (p := p) hn
  by_cases c : p < 0
  · rw [if_pos c] at hx; subst hx; exact h0 (fun z => (e.mpr z).1 c)
  · rw [if_neg c] at hx
    by_cases d : p < jshl 1 (nI n)
    · rw [if_pos d] at hx; subst hx; exact h1 (e.mp ⟨c, d⟩)
    · rw [if_neg d] at hx; subst hx; exact h0 (fun z => d (e.mpr z).2)
theorem c_isSB {p : Int32} {n : Nat} {A B : Mem → Prop} (hm : mi M 1 2 = nI n) (hn : n ≤ 10) (h0 : ¬ isS n p → A M) (h1 : isS n p → B M) : w_X11_isSet L p M (fun x M1 => (x = 0 → A M1) ∧ (¬ x = 0 → B M1)) :=
  c_setV hm hn (fun q => ⟨fun _ => h0 q, fun z => absurd rfl z⟩) (fun q => ⟨fun z => absurd z (by decide), fun _ => h1 q⟩)
theorem m_isSB {p : Int32} {n : Nat} {A B : Mem → Prop} (hm : mi M 92 28 = nI n) (hn : n ≤ 10) (h0 : ¬ isS n p → A M) (h1 : isS n p → B M) : w_X12_isSet L p M (fun x M1 => (x = 0 → A M1) ∧ (¬ x = 0 → B M1)) :=
  m_setV hm hn (fun q => ⟨fun _ => h0 q, fun z => absurd rfl z⟩) (fun q => ⟨fun z => absurd z (by decide), fun _ => h1 q⟩)
theorem j_sale {p0 p1 p2 : Int32} (h : RR L M) : w_X11_sale L p0 p1 p2 M (fun a M1 => w_X12_sale L p0 p1 p2 M1 (fun b M2 => a = b ∧ RR L M2)) := by
  have h' := h
  obtain ⟨t, X, h⟩ := h
  obtain ⟨⟨n1, n2, n3⟩, -⟩ := RX_n h
  obtain ⟨n, hn, hC, hM, hk⟩ := h.2.2.2.2.2
  have no : ∀ M1 : Mem, M1 = si M 92 0 0 → RR L M1 := fun M1 e => by subst e; exact RR_th h'
  have one : ∀ p : Int32, (¬ p < 1 ∧ ¬ p < 0) ↔ (¬ p < 0 ∧ ¬ p = 0) := fun p => by
    constructor
    · rintro ⟨a, b⟩
      exact ⟨b, fun q => a (by rw [q]; decide)⟩
    · rintro ⟨a, b⟩
      obtain ⟨k, hk, rfl⟩ := nI_of a
      refine ⟨fun q => ?_, a⟩
      rw [show (1 : Int32) = nI 1 from rfl, nI_lt' hk (by decide)] at q
      have : k = 0 := by omega
      subst this; exact b rfl
  have bad : ∀ M1 : Mem, ¬ ((isS (tn (X.1 28 0)) p0 ∧ ¬ p0 = 0) ∧ wi p1 1 9999 ∧ wi p2 1 9999 ∧ n < 60) → M1 = M → w_X12_sale L p0 p1 p2 M1 (fun b M2 => -1 = b ∧ RR L M2) := fun M1 q e2 => by
    subst e2
    unfold w_X12_sale
    intro M2 e
    refine ⟨fun _ => ⟨rfl, no M2 e⟩, fun c => ?_⟩
    rw [show mi M2 92 28 = nI (tn (X.1 28 0)) from by rw [e]; exact n2]
    refine ⟨fun d => ?_, fun _ => ⟨rfl, no M2 e⟩⟩
    have c0 : ¬ p0 < 0 := fun z => c (by
      rw [Int32.lt_iff_toInt_lt] at *
      have : (0 : Int32).toInt = 0 := rfl
      have : (1 : Int32).toInt = 1 := rfl
      omega)
    refine m_wiB (fun _ => ⟨rfl, no M2 e⟩) (fun r1 => m_wiB (fun _ => ⟨rfl, no M2 e⟩) (fun r2 => ?_))
    rw [show mi M2 92 80 = nI n from by rw [e]; exact hM, show (60 : Int32) = nI 60 from rfl, nI_eq' (by omega) (by decide)]
    exact ⟨fun _ => ⟨rfl, no M2 e⟩, fun z => absurd ⟨⟨(m_ltS n3).mp ⟨c0, d⟩, ((one p0).mp ⟨c, c0⟩).2⟩, r1, r2, by omega⟩ q⟩
  unfold w_X11_sale
  refine c_isSB n1 n3 (fun q => bad _ (fun z => q z.1.1) rfl) (fun q1 => ⟨fun q => bad _ (fun z => z.1.2 q) rfl, fun q2 => c_wiB (fun q => bad _ (fun z => q z.2.1) rfl) (fun q3 => c_wiB (fun q => bad _ (fun z => q z.2.2.1) rfl) (fun q4 => ?_))⟩)
  have q1' := q1
  have q3' := q3
  have q4' := q4
  have p2n := p31 n3
  obtain ⟨s, hs, rfl⟩ := q1
  obtain ⟨d1, d11, d12, rfl⟩ := wi_nI (a := 1) (b := 9999) (by decide) (by decide) q3
  obtain ⟨d2, d21, d22, rfl⟩ := wi_nI (a := 1) (b := 9999) (by decide) (by decide) q4
  have s0 : 0 < s := Nat.pos_of_ne_zero (fun z => q2 (by rw [z]; rfl))
  unfold w_X8_add
  rw [hC, show (60 : Int32) = nI 60 from rfl, nI_lt' (by omega) (by decide), tn_nI (n := n) (by omega)]
  refine ⟨fun hlt => ⟨vp_in_nI (by omega) (by decide), fun M1 e1 => ?_⟩, fun z => bad _ (fun y => z y.2.2.2) rfl⟩
  have c1 : mi M1 85 0 = nI n := by rw [e1, mi_si, if_neg (by omega)]; exact hC
  rw [c1, tn_nI (n := n) (by omega)]
  refine ⟨vp_in_nI (by omega) (by decide), fun M2 e2 => ?_⟩
  have c2 : mi M2 85 0 = nI n := by rw [e2, mi_si, if_neg (by omega)]; exact c1
  rw [c2, tn_nI (n := n) (by omega)]
  refine ⟨vp_in_nI (by omega) (by decide), fun M3 e3 M4 e4 => ?_⟩
  have c3 : mi M3 85 0 = nI n := by rw [e3, mi_si, if_neg (by omega)]; exact c2
  rw [c3, nI_1] at e4
  rw [c3]
  have FC4 : FJ (fun a j => (a = 85 ∧ j = 0) ∨ ((a = 86 ∨ a = 87 ∨ a = 88) ∧ j = n)) M M4 := by
    rw [e4, e3, e2, e1]
    exact (((FJ.rf.si (by omega)).si (by omega)).si (by omega)).si (by omega)
  have g86 : mi M4 86 n = nI s := by rw [e4, mi_si, if_neg (by omega), e3, mi_si, if_neg (by omega), e2, mi_si, if_neg (by omega), e1, mi_si, if_pos ⟨rfl, rfl⟩]
  have g87 : mi M4 87 n = nI d1 := by rw [e4, mi_si, if_neg (by omega), e3, mi_si, if_neg (by omega), e2, mi_si, if_pos ⟨rfl, rfl⟩]
  have g88 : mi M4 88 n = nI d2 := by rw [e4, mi_si, if_neg (by omega), e3, mi_si, if_pos ⟨rfl, rfl⟩]
  have g85 : mi M4 85 0 = nI (n + 1) := by rw [e4, mi_si, if_pos ⟨rfl, rfl⟩]
  unfold w_X12_sale
  intro M6 e6
  have n6 : mi M6 92 28 = nI (tn (X.1 28 0)) := by rw [e6, mi_si, if_neg (by omega), FC4.1 _ _ (by omega)]; exact n2
  have lt := (m_ltS n3).mpr q1'
  rw [n6]
  refine ⟨fun z => absurd z ((one _).mpr ⟨lt.1, q2⟩).1, fun _ => ⟨fun _ => m_wiB (fun z => absurd q3' z) (fun _ => m_wiB (fun z => absurd q4' z) (fun _ => ?_)), fun z => absurd lt.2 z⟩⟩
  have d6 : mi M6 92 80 = nI n := by rw [e6, mi_si, if_neg (by omega), FC4.1 _ _ (by omega)]; exact hM
  rw [d6, show (60 : Int32) = nI 60 from rfl, nI_eq' (by omega) (by decide), tn_nI (n := n) (by omega)]
  refine ⟨fun z => absurd z (by omega), fun _ => ⟨vp_in_nI (by omega) (by decide), fun M7 e7 => ?_⟩⟩
  have d7 : mi M7 92 80 = nI n := by rw [e7, mi_si, if_neg (by omega)]; exact d6
  rw [d7, tn_nI (n := n) (by omega)]
  refine ⟨vp_in_nI (by omega) (by decide), fun M8 e8 => ?_⟩
  have d8 : mi M8 92 80 = nI n := by rw [e8, mi_si, if_neg (by omega)]; exact d7
  rw [d8, tn_nI (n := n) (by omega)]
  refine ⟨vp_in_nI (by omega) (by decide), fun M9 e9 MC eC => ?_⟩
  have d9 : mi M9 92 80 = nI n := by rw [e9, mi_si, if_neg (by omega)]; exact d8
  rw [d9, nI_1] at eC
  have dC : mi MC 92 80 = nI (n + 1) := by rw [eC, mi_si, if_pos ⟨rfl, rfl⟩]
  have FM : FJ (fun a j => (a = 92 ∧ (j = 0 ∨ j = 80)) ∨ ((155 ≤ a ∧ a ≤ 157) ∧ j = n)) M4 MC := by
    rw [eC, e9, e8, e7, e6]
    exact ((((FJ.rf.si (by omega)).si (by omega)).si (by omega)).si (by omega)).si (by omega)
  have m55 : mi MC 155 n = nI s := by rw [eC, mi_si, if_neg (by omega), e9, mi_si, if_neg (by omega), e8, mi_si, if_neg (by omega), e7, mi_si, if_pos ⟨rfl, rfl⟩]
  have m56 : mi MC 156 n = nI d1 := by rw [eC, mi_si, if_neg (by omega), e9, mi_si, if_neg (by omega), e8, mi_si, if_pos ⟨rfl, rfl⟩]
  have m57 : mi MC 157 n = nI d2 := by rw [eC, mi_si, if_neg (by omega), e9, mi_si, if_pos ⟨rfl, rfl⟩]
  have fr : ∀ a j, ¬ ((a = 85 ∧ j = 0) ∨ ((a = 86 ∨ a = 87 ∨ a = 88) ∧ j = n)) → ¬ ((a = 92 ∧ (j = 0 ∨ j = 80)) ∨ ((155 ≤ a ∧ a ≤ 157) ∧ j = n)) → mi MC a j = mi M a j := fun a j z1 z2 => by rw [FM.1 a j z2, FC4.1 a j z1]
  refine ⟨by rw [dC, show (1 : Int32) = nI 1 from rfl, pk_sub (by omega), Nat.add_sub_cancel], t, X, RX_parts h (fun a j z1 z2 z3 z4 => fr a j (by unfold PSa at z3; omega) (by unfold PSa at z3; unfold PN at z1; omega)) (fun a j => by rw [FM.mp, FC4.mp]) (RE_cg h.2.2.2.2.1 (fun a j z => fr a j (by unfold PRe at z; omega) (by unfold PRe at z; omega))) ⟨n + 1, by omega, ?_, dC, fun i hi => ?_⟩ (fun i hi => ?_)⟩
  · rw [FM.1 _ _ (by omega)]; exact g85
  · by_cases c : i = n
    · subst c
      unfold saK
      rw [FM.1 86 _ (by omega), FM.1 87 _ (by omega), FM.1 88 _ (by omega), g86, g87, g88, m55, m56, m57]
      exact ⟨rfl, rfl, rfl, ⟨s, s0, hs, rfl⟩, ⟨d1, d11, d12, rfl⟩, ⟨d2, d21, d22, rfl⟩⟩
    · have := hk i (by omega)
      unfold saK at *
      rw [fr 86 i (by omega) (by omega), fr 87 i (by omega) (by omega), fr 88 i (by omega) (by omega), fr 155 i (by omega) (by omega), fr 156 i (by omega) (by omega), fr 157 i (by omega) (by omega)]
      exact this
  · rw [fr 79 i (by omega) (by omega), fr 154 i (by omega) (by omega)]; exact RX_fi h i hi
end FIN
