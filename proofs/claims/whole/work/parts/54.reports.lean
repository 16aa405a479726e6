-- LEVEL 3, part 38: reports, what is known and proved, fines
def lwF (p n : Int32) : Int32 := if p = 0 then 7 * n else if p = 1 then n - n / 50 else n / 4
def hgF (p n : Int32) : Int32 := if p = 0 then 9 * n else if p = 1 then n + n / 50 else (n + 2) / 3
theorem lw_0 {p : Int32} {k : Nat} (hk : k ≤ 9999) : ¬ lwF p (nI k) < 0 ∧ ¬ hgF p (nI k) < 0 := by
  have e50 : nI k / 50 = nI (k / 50) := by rw [show (50 : Int32) = nI 50 from rfl, pk_div (by omega) (by omega) (by omega)]
  unfold lwF hgF
  rw [e50]
  constructor
  · split
    · rw [show (7 : Int32) = nI 7 from rfl, pk_mul]; exact nI_pos (by omega)
    · split
      · rw [pk_sub (by omega)]; exact nI_pos (by omega)
      · rw [show (4 : Int32) = nI 4 from rfl, pk_div (by omega) (by omega) (by omega)]; exact nI_pos (by omega)
  · split
    · rw [show (9 : Int32) = nI 9 from rfl, pk_mul]; exact nI_pos (by omega)
    · split
      · rw [nI_add]; exact nI_pos (by omega)
      · rw [show (2 : Int32) = nI 2 from rfl, nI_add, show (3 : Int32) = nI 3 from rfl, pk_div (by omega) (by omega) (by omega)]; exact nI_pos (by omega)
theorem c_low {L : Lay} {p n : Int32} {M : Mem} {Q : Int32 → Mem → Prop} (h : Q (lwF p n) M) : w_X11_lowOf L p n M Q := by
  unfold w_X11_lowOf
  unfold lwF at h
  refine ⟨fun c => by rw [if_pos c] at h; exact h, fun c => ⟨fun d => by rw [if_neg c, if_pos d] at h; exact h, fun d => by rw [if_neg c, if_neg d] at h; exact h⟩⟩
theorem c_high {L : Lay} {p n : Int32} {M : Mem} {Q : Int32 → Mem → Prop} (h : Q (hgF p n) M) : w_X11_highOf L p n M Q := by
  unfold w_X11_highOf
  unfold hgF at h
  refine ⟨fun c => by rw [if_pos c] at h; exact h, fun c => ⟨fun d => by rw [if_neg c, if_pos d] at h; exact h, fun d => by rw [if_neg c, if_neg d] at h; exact h⟩⟩
section REP
variable {L : Lay} {M : Mem}
theorem RX_parts {t : Nat} {X : WS} {M' : Mem} (h : RX L M t X) (hi : ∀ a k, ¬ PN a k → ¬ PRe a k → ¬ PSa a k → ¬ (a = 79 ∨ a = 154) → mi M' a k = mi M a k) (hp : ∀ a k, mp M' a k = mp M a k) (h1 : RE M') (h2 : SA (tn (X.1 28 0)) M') (h3 : ∀ k, k < 240 → mi M' 79 k = mi M' 154 k ∧ BZ (mi M' 154 k)) : RX L M' t X := by
  obtain ⟨hC, r1, r2, r3, r4, r5⟩ := h
  refine ⟨CR_cg hC (fun a k q => hi a k (fun z => PN_cr z q) (by unfold PCr at q; unfold PRe; omega) (by unfold PCr at q; unfold PSa; omega) (by unfold PCr at q; omega)) (fun a k _ => hp a k), WN_cg r1 (fun a k q => hi a k (by unfold PWn at q; unfold PN; omega) (by unfold PWn at q; unfold PRe; omega) (by unfold PWn at q; unfold PSa; omega) (by unfold PWn at q; omega)), TP_cg r2 (fun a k q => hi a k (by unfold PTp at q; unfold PN; omega) (by unfold PTp at q; unfold PRe; omega) (by unfold PTp at q; unfold PSa; omega) (by unfold PTp at q; omega)), ⟨fun k hk => ?_, fun m hm => ?_⟩, h1, h2⟩
  · have := r3.1 k hk
    rw [hi 77 k (by unfold PN; omega) (by unfold PRe; omega) (by unfold PSa; omega) (by omega), hi 117 k (by unfold PN; omega) (by unfold PRe; omega) (by unfold PSa; omega) (by omega), hi 78 k (by unfold PN; omega) (by unfold PRe; omega) (by unfold PSa; omega) (by omega), hi 118 k (by unfold PN; omega) (by unfold PRe; omega) (by unfold PSa; omega) (by omega)]
    exact ⟨this.1, this.2.1, h3 k hk⟩
  · exact moP_cg (r3.2 m hm) (Nat.le_refl _) (hp _ _) (hi _ _ (by unfold PN; omega) (by unfold PRe; omega) (by unfold PSa; omega) (by omega)) (fun a k q => hi a k (by unfold PN; omega) (by unfold PRe; omega) (by unfold PSa; omega) (by omega)) (fun a k _ => hp a k) (fun q a k _ _ z => hi a k (by unfold slM at z; unfold PN; omega) (by unfold slM at z; unfold PRe; omega) (by unfold slM at z; unfold PSa; omega) (by unfold slM at z; omega))
theorem RX_fi {t : Nat} {X : WS} (h : RX L M t X) : ∀ k, k < 240 → mi M 79 k = mi M 154 k ∧ BZ (mi M 154 k) := fun k hk => (h.2.2.2.1.1 k hk).2.2
theorem j_report {p0 p1 p2 p3 : Int32} (h : RR L M) : w_X11_report L p0 p1 p2 p3 M (fun a M1 => w_X12_report L p0 p1 p2 p3 M1 (fun b M2 => a = b ∧ RR L M2)) := by
  have h' := h
  obtain ⟨t, X, h⟩ := h
  obtain ⟨⟨n1, n2, n3⟩, -, n93, m93, n720, -⟩ := RX_n h
  obtain ⟨n, hn, hC, hM, hk⟩ := h.2.2.2.2.1
  have no : ∀ M1 : Mem, M1 = si M 92 0 0 → RR L M1 := fun M1 e => by subst e; exact RR_th h'
  have bad : ∀ M1 : Mem, ¬ ((isN (tn (X.1 28 0)) p0 ∧ isN (t / 30) p1) ∧ wi p2 0 2 ∧ wi p3 0 9999 ∧ n < 200) → M1 = M → w_X12_report L p0 p1 p2 p3 M1 (fun b M2 => -1 = b ∧ RR L M2) := fun M1 q e2 => by
    subst e2
    unfold w_X12_report
    intro M2 e
    refine m_ovB (n := tn (X.1 28 0)) (t := t) (by rw [e]; exact n2) n3 (by rw [e]; exact m93) n720 (fun _ => ⟨rfl, no M2 e⟩) (fun r1 r2 => m_wiB (fun _ => ⟨rfl, no M2 e⟩) (fun r3 => m_wiB (fun _ => ⟨rfl, no M2 e⟩) (fun r4 => ?_)))
    rw [show mi M2 92 73 = nI n from by rw [e]; exact hM, show (200 : Int32) = nI 200 from rfl, nI_eq' (by omega) (by decide)]
    exact ⟨fun _ => ⟨rfl, no M2 e⟩, fun z => absurd ⟨⟨r1, r2⟩, r3, r4, by omega⟩ q⟩
  unfold w_X11_report
  refine c_ownB n1 n3 (fun q => bad _ (fun z => q z.1.1) rfl) (fun q1 => c_ovB n93 n720 (fun q => bad _ (fun z => q z.1.2) rfl) (fun q2 => c_wiB (fun q => bad _ (fun z => q z.2.1) rfl) (fun q3 => c_wiB (fun q => bad _ (fun z => q z.2.2.1) rfl) (fun q4 => ?_))))
  have q1' := q1
  have q2' := q2
  have q4' := q4
  obtain ⟨o, ho, rfl⟩ := q1
  obtain ⟨m, hm, rfl⟩ := q2
  obtain ⟨k, -, k9, rfl⟩ := wi_nI (a := 0) (b := 9999) (by decide) (by decide) q4
  have ec : nI m * 10 + nI o = nI (10 * m + o) := by rw [show (10 : Int32) = nI 10 from rfl, pk_mul, nI_add, Nat.mul_comm]
  unfold w_X2_place
  dsimp only
  refine c_low (c_high ?_)
  rw [ec, n93]
  unfold w_X7_add
  rw [hC, show (200 : Int32) = nI 200 from rfl, nI_lt' (by omega) (by decide), tn_nI (n := n) (by omega)]
  refine ⟨fun hlt => ⟨vp_in_nI (by omega) (by decide), fun M1 e1 => ?_⟩, fun z => bad _ (fun y => z y.2.2.2) rfl⟩
  have c1 : mi M1 80 0 = nI n := by rw [e1, mi_si, if_neg (by omega)]; exact hC
  rw [c1, tn_nI (n := n) (by omega)]
  refine ⟨vp_in_nI (by omega) (by decide), fun M2 e2 => ?_⟩
  have c2 : mi M2 80 0 = nI n := by rw [e2, mi_si, if_neg (by omega)]; exact c1
  rw [c2, tn_nI (n := n) (by omega)]
  refine ⟨vp_in_nI (by omega) (by decide), fun M3 e3 => ?_⟩
  have c3 : mi M3 80 0 = nI n := by rw [e3, mi_si, if_neg (by omega)]; exact c2
  rw [c3, tn_nI (n := n) (by omega)]
  refine ⟨vp_in_nI (by omega) (by decide), fun M4 e4 M5 e5 => ?_⟩
  have c4 : mi M4 80 0 = nI n := by rw [e4, mi_si, if_neg (by omega)]; exact c3
  rw [c4, nI_1] at e5
  rw [c4]
  have FC5 : FJ (fun a j => (a = 80 ∧ j = 0) ∨ ((a = 81 ∨ a = 82 ∨ a = 83 ∨ a = 84) ∧ j = n)) M M5 := by
    rw [e5, e4, e3, e2, e1]
    exact ((((FJ.rf.si (by omega)).si (by omega)).si (by omega)).si (by omega)).si (by omega)
  have g81 : mi M5 81 n = nI (10 * m + o) := by rw [e5, mi_si, if_neg (by omega), e4, mi_si, if_neg (by omega), e3, mi_si, if_neg (by omega), e2, mi_si, if_neg (by omega), e1, mi_si, if_pos ⟨rfl, rfl⟩]
  have g82 : mi M5 82 n = nI t := by rw [e5, mi_si, if_neg (by omega), e4, mi_si, if_neg (by omega), e3, mi_si, if_neg (by omega), e2, mi_si, if_pos ⟨rfl, rfl⟩]
  have g83 : mi M5 83 n = lwF p2 (nI k) := by rw [e5, mi_si, if_neg (by omega), e4, mi_si, if_neg (by omega), e3, mi_si, if_pos ⟨rfl, rfl⟩]
  have g84 : mi M5 84 n = hgF p2 (nI k) := by rw [e5, mi_si, if_neg (by omega), e4, mi_si, if_pos ⟨rfl, rfl⟩]
  have g80 : mi M5 80 0 = nI (n + 1) := by rw [e5, mi_si, if_pos ⟨rfl, rfl⟩]
  unfold w_X12_report
  intro M6 e6
  refine m_ovB (n := tn (X.1 28 0)) (t := t) (by rw [e6, mi_si, if_neg (by omega), FC5.1 _ _ (by omega)]; exact n2) n3 (by rw [e6, mi_si, if_neg (by omega), FC5.1 _ _ (by omega)]; exact m93) n720 (fun z => absurd ⟨q1', q2'⟩ z) (fun _ _ => m_wiB (fun z => absurd q3 z) (fun _ => m_wiB (fun z => absurd q4' z) (fun _ => ?_)))
  have d6 : mi M6 92 73 = nI n := by rw [e6, mi_si, if_neg (by omega), FC5.1 _ _ (by omega)]; exact hM
  rw [d6, show (200 : Int32) = nI 200 from rfl, nI_eq' (by omega) (by decide), tn_nI (n := n) (by omega)]
  refine ⟨fun z => absurd z (by omega), fun _ => ⟨vp_in_nI (by omega) (by decide), fun M7 e7 => ?_⟩⟩
  have d7 : mi M7 92 73 = nI n := by rw [e7, mi_si, if_neg (by omega)]; exact d6
  rw [d7, tn_nI (n := n) (by omega)]
  refine ⟨vp_in_nI (by omega) (by decide), fun M8 e8 => ?_⟩
  have d8 : mi M8 92 73 = nI n := by rw [e8, mi_si, if_neg (by omega)]; exact d7
  rw [d8]
  have key : ∀ lo : Int32, lo = lwF p2 (nI k) → w_X12_report_107 L (nI o) (nI m) p2 (nI k) lo (nI n) M8 (fun b M2 => nI n = b ∧ RR L M2) := fun lo elo => by
    unfold w_X12_report_107
    rw [tn_nI (n := n) (by omega)]
    refine ⟨vp_in_nI (by omega) (by decide), fun M9 e9 => ?_⟩
    have d9 : mi M9 92 73 = nI n := by rw [e9, mi_si, if_neg (by omega)]; exact d8
    rw [d9]
    have key2 : ∀ hg : Int32, hg = hgF p2 (nI k) → w_X12_report_150 L (nI o) (nI m) p2 (nI k) hg (nI n) M9 (fun b M2 => nI n = b ∧ RR L M2) := fun hg ehg => by
      unfold w_X12_report_150
      rw [tn_nI (n := n) (by omega)]
      refine ⟨vp_in_nI (by omega) (by decide), fun MA eA => ?_⟩
      have dA : mi MA 92 73 = nI n := by rw [eA, mi_si, if_neg (by omega)]; exact d9
      have dt : mi MA 93 0 = nI t := by rw [eA, mi_si, if_neg (by omega), e9, mi_si, if_neg (by omega), e8, mi_si, if_neg (by omega), e7, mi_si, if_neg (by omega), e6, mi_si, if_neg (by omega), FC5.1 _ _ (by omega)]; exact m93
      rw [dA, dt, tn_nI (n := n) (by omega)]
      refine ⟨vp_in_nI (by omega) (by decide), fun MB eB MC eC => ?_⟩
      have dB : mi MB 92 73 = nI n := by rw [eB, mi_si, if_neg (by omega)]; exact dA
      rw [dB, nI_1] at eC
      have dC : mi MC 92 73 = nI (n + 1) := by rw [eC, mi_si, if_pos ⟨rfl, rfl⟩]
      have FM : FJ (fun a j => (a = 92 ∧ (j = 0 ∨ j = 73)) ∨ ((149 ≤ a ∧ a ≤ 153) ∧ j = n)) M5 MC := by
        rw [eC, eB, eA, e9, e8, e7, e6]
        exact ((((((FJ.rf.si (by omega)).si (by omega)).si (by omega)).si (by omega)).si (by omega)).si (by omega)).si (by omega)
      have m49 : mi MC 149 n = nI o := by rw [eC, mi_si, if_neg (by omega), eB, mi_si, if_neg (by omega), eA, mi_si, if_neg (by omega), e9, mi_si, if_neg (by omega), e8, mi_si, if_neg (by omega), e7, mi_si, if_pos ⟨rfl, rfl⟩]
      have m50 : mi MC 150 n = nI m := by rw [eC, mi_si, if_neg (by omega), eB, mi_si, if_neg (by omega), eA, mi_si, if_neg (by omega), e9, mi_si, if_neg (by omega), e8, mi_si, if_pos ⟨rfl, rfl⟩]
      have m51 : mi MC 151 n = lwF p2 (nI k) := by rw [eC, mi_si, if_neg (by omega), eB, mi_si, if_neg (by omega), eA, mi_si, if_neg (by omega), e9, mi_si, if_pos ⟨rfl, rfl⟩, elo]
      have m52 : mi MC 152 n = hgF p2 (nI k) := by rw [eC, mi_si, if_neg (by omega), eB, mi_si, if_neg (by omega), eA, mi_si, if_pos ⟨rfl, rfl⟩, ehg]
      have m53 : mi MC 153 n = nI t := by rw [eC, mi_si, if_neg (by omega), eB, mi_si, if_pos ⟨rfl, rfl⟩]
      have fr : ∀ a j, ¬ ((a = 80 ∧ j = 0) ∨ ((a = 81 ∨ a = 82 ∨ a = 83 ∨ a = 84) ∧ j = n)) → ¬ ((a = 92 ∧ (j = 0 ∨ j = 73)) ∨ ((149 ≤ a ∧ a ≤ 153) ∧ j = n)) → mi MC a j = mi M a j := fun a j z1 z2 => by rw [FM.1 a j z2, FC5.1 a j z1]
      refine ⟨by rw [dC, show (1 : Int32) = nI 1 from rfl, pk_sub (by omega), Nat.add_sub_cancel], t, X, RX_parts h (fun a j z1 z2 z3 z4 => fr a j (by unfold PRe at z2; omega) (by unfold PRe at z2; unfold PN at z1; omega)) (fun a j => by rw [FM.mp, FC5.mp]) ⟨n + 1, by omega, ?_, dC, fun i hi => ?_⟩ (SA_cg h.2.2.2.2.2 (Nat.le_refl _) (fun a j z => fr a j (by unfold PSa at z; omega) (by unfold PSa at z; omega))) (fun i hi => ?_)⟩
      · rw [FM.1 _ _ (by omega)]; exact g80
      · by_cases c : i = n
        · subst c
          unfold reK
          rw [FM.1 81 _ (by omega), FM.1 82 _ (by omega), FM.1 83 _ (by omega), FM.1 84 _ (by omega), g81, g82, g83, g84, m49, m50, m51, m52, m53]
          have l0 := lw_0 (p := p2) k9
          exact ⟨⟨o, m, by omega, by omega, rfl, rfl, rfl⟩, rfl, rfl, rfl, l0.1, l0.2⟩
        · have := hk i (by omega)
          unfold reK at *
          rw [fr 81 i (by omega) (by omega), fr 82 i (by omega) (by omega), fr 83 i (by omega) (by omega), fr 84 i (by omega) (by omega), fr 149 i (by omega) (by omega), fr 150 i (by omega) (by omega), fr 151 i (by omega) (by omega), fr 152 i (by omega) (by omega), fr 153 i (by omega) (by omega)]
          exact this
      · rw [fr 79 i (by omega) (by omega), fr 154 i (by omega) (by omega)]; exact RX_fi h i hi
    unfold hgF at key2
    exact ⟨fun c => key2 _ (by rw [if_pos c]), fun c => ⟨fun d => key2 _ (by rw [if_neg c, if_pos d]), fun d => key2 _ (by rw [if_neg c, if_neg d])⟩⟩
  unfold lwF at key
  exact ⟨fun c => key _ (by rw [if_pos c]), fun c => ⟨fun d => key _ (by rw [if_neg c, if_pos d]), fun d => key _ (by rw [if_neg c, if_neg d])⟩⟩
-- what is known
def slK (M : Mem) (o m : Nat) (tt : Int32) (k : Nat) : Prop := mi M 149 k = nI o ∧ mi M 150 k = nI m ∧ ¬ tt < mi M 153 k
def klF (M : Mem) (o m : Nat) (tt : Int32) : Nat → Int32
  | 0 => 0
  | k + 1 => if (mi M 149 k = nI o ∧ mi M 150 k = nI m ∧ ¬ tt < mi M 153 k) ∧ klF M o m tt k < mi M 151 k then mi M 151 k else klF M o m tt k
def khF (M : Mem) (o m : Nat) (tt : Int32) : Nat → Int32
  | 0 => -1
  | k + 1 => if (mi M 149 k = nI o ∧ mi M 150 k = nI m ∧ ¬ tt < mi M 153 k) ∧ (khF M o m tt k < 0 ∨ mi M 152 k < khF M o m tt k) then mi M 152 k else khF M o m tt k
theorem klF_s {M : Mem} {o m k : Nat} {tt : Int32} : klF M o m tt (k + 1) = if (mi M 149 k = nI o ∧ mi M 150 k = nI m ∧ ¬ tt < mi M 153 k) ∧ klF M o m tt k < mi M 151 k then mi M 151 k else klF M o m tt k := rfl
theorem khF_s {M : Mem} {o m k : Nat} {tt : Int32} : khF M o m tt (k + 1) = if (mi M 149 k = nI o ∧ mi M 150 k = nI m ∧ ¬ tt < mi M 153 k) ∧ (khF M o m tt k < 0 ∨ mi M 152 k < khF M o m tt k) then mi M 152 k else khF M o m tt k := rfl
theorem kl_cg {M M' : Mem} {o m : Nat} {tt : Int32} (h : ∀ a k, 149 ≤ a → a ≤ 153 → mi M' a k = mi M a k) : ∀ k, klF M' o m tt k = klF M o m tt k ∧ khF M' o m tt k = khF M o m tt k := by
  intro k
  induction k with
  | zero => exact ⟨rfl, rfl⟩
  | succ k ih =>
    rw [klF_s, khF_s, klF_s, khF_s]
    rw [ih.1, ih.2, h 149 k (by omega) (by omega), h 150 k (by omega) (by omega), h 151 k (by omega) (by omega), h 152 k (by omega) (by omega), h 153 k (by omega) (by omega)]
    exact ⟨rfl, rfl⟩
def khV (M : Mem) (o m : Nat) (tt : Int32) (n : Nat) : Int32 := if khF M o m tt n < 0 then 9999 else khF M o m tt n
theorem c_sum {o m n : Nat} {tt : Int32} {Q : Mem → Prop} (ho : o < 10) (hm : m < 24) (hn : n ≤ 200) (hC : mi M 80 0 = nI n) (hk : ∀ k, k < n → reK M k)
    (h : ∀ M', mi M' 80 1 = klF M o m tt n → mi M' 80 2 = khV M o m tt n → FJ (fun a k => a = 80 ∧ k ≠ 0) M M' → Q M') : w_X7_sumUp L (nI (10 * m + o)) tt M Q := by
  unfold w_X7_sumUp
  intro M1 e1 M2 e2
  have F2 : FJ (fun a k => a = 80 ∧ k ≠ 0) M M2 := by rw [e2, e1]; exact (FJ.rf.si (by omega)).si (by omega)
  refine LP3_c1 0 n (fun i (v : Int32) M' => ((v = 0 ∧ mi M' 80 1 = 0 ∧ mi M' 80 2 = 9999 ∧ klF M o m tt i = 0 ∧ khF M o m tt i = -1) ∨ (v = 1 ∧ mi M' 80 1 = klF M o m tt i ∧ mi M' 80 2 = khF M o m tt i ∧ ¬ khF M o m tt i < 0)) ∧ FJ (fun a k => a = 80 ∧ k ≠ 0) M M') rfl (Nat.zero_le _) ⟨Or.inl ⟨rfl, by rw [e2, mi_si, if_neg (by omega), e1, mi_si, if_pos ⟨rfl, rfl⟩], by rw [e2, mi_si, if_pos ⟨rfl, rfl⟩], rfl, rfl⟩, F2⟩ ?_
  intro i v M3 hi _ ⟨hv, F3⟩ K hK
  unfold w_X7_sumUp_17
  rw [F3.1 80 0 (by omega), hC, nI_lt' (by omega) (by omega), tn_nI (n := i) (by omega)]
  refine ⟨fun hlt => ⟨vp_in_nI (by omega) (by decide), ?_⟩, fun hge => ?_⟩
  · obtain ⟨⟨o', m', ho', hm', k1, k2, k3⟩, k4, k5, k6, k7, k8⟩ := hk i hlt
    rw [F3.1 81 i (by omega), F3.1 82 i (by omega), F3.1 83 i (by omega), k1, k4, k5, nI_eq' (by omega) (by omega)]
    have same : (10 * m' + o' = 10 * m + o) ↔ (mi M 149 i = nI o ∧ mi M 150 i = nI m) := by
      rw [k2, k3, nI_eq' (by omega) (by omega), nI_eq' (by omega) (by omega)]; omega
    have stay : ¬ (mi M 149 i = nI o ∧ mi M 150 i = nI m ∧ ¬ tt < mi M 153 i) → ∀ x : Int32, x = nI i + 1 → K v x M3 := fun q x hx => by
      rw [hx, nI_1]
      refine hK hlt v M3 ⟨?_, F3⟩
      rw [klF_s, khF_s]
      rw [if_neg (fun y => q y.1), if_neg (fun y => q y.1)]; exact hv
    refine ⟨fun c => ⟨fun d => stay (fun y => y.2.2 d), fun d => ?_⟩, fun c => stay (fun y => c (same.mpr ⟨y.1, y.2.1⟩))⟩
    have sel : mi M 149 i = nI o ∧ mi M 150 i = nI m ∧ ¬ tt < mi M 153 i := ⟨(same.mp c).1, (same.mp c).2, d⟩
    have go : ∀ lo : Int32, lo = klF M o m tt (i + 1) → (v = 0 → mi M3 80 2 = 9999 ∧ khF M o m tt i = -1) → (¬ v = 0 → mi M3 80 2 = khF M o m tt i ∧ ¬ khF M o m tt i < 0) → w_X7_sumUp_77 L (nI (10 * m + o)) tt K v (nI i) lo M3 Q := fun lo elo z0 z1 => by
      unfold w_X7_sumUp_77
      intro M4 e4
      have f84 : mi M4 84 i = mi M 152 i := by rw [e4, mi_si, if_neg (by omega), F3.1 84 i (by omega), k6]
      have f2 : mi M4 80 2 = mi M3 80 2 := by rw [e4, mi_si, if_neg (by omega)]
      have fin : ∀ hg : Int32, hg = khF M o m tt (i + 1) → ¬ hg < 0 → w_X7_sumUp_109 L (nI (10 * m + o)) tt K (nI i) hg M4 Q := fun hg ehg hg0 => by
        unfold w_X7_sumUp_109
        intro M5 e5 x hx
        rw [hx, nI_1]
        refine hK hlt 1 M5 ⟨Or.inr ⟨rfl, ?_, ?_, by rw [← ehg]; exact hg0⟩, by rw [e5, e4]; exact (F3.si (by omega)).si (by omega)⟩
        · rw [e5, mi_si, if_neg (by omega), e4, mi_si, if_pos ⟨rfl, rfl⟩, elo]
        · rw [e5, mi_si, if_pos ⟨rfl, rfl⟩, ehg]
      rw [tn_nI (n := i) (by omega), f84, f2]
      refine ⟨fun c0 => ⟨vp_in_nI (by omega) (by decide), fin _ ?_ k8⟩, fun c0 => ⟨vp_in_nI (by omega) (by decide), fin _ ?_ ?_⟩⟩
      · rw [khF_s, if_pos ⟨sel, Or.inl (by rw [(z0 c0).2]; decide)⟩]
      · rw [(z1 c0).1]
        rw [khF_s]; unfold jmin
        by_cases w : mi M 152 i < khF M o m tt i
        · rw [if_pos w, if_pos ⟨sel, Or.inr w⟩]
        · rw [if_neg w, if_neg (fun y => y.2.elim (z1 c0).2 w)]
      · rw [(z1 c0).1]
        unfold jmin
        by_cases w : mi M 152 i < khF M o m tt i
        · rw [if_pos w]; exact k8
        · rw [if_neg w]; exact (z1 c0).2
    rcases hv with ⟨v0, a1, a2, a3, a4⟩ | ⟨v1, a1, a2, a3⟩
    · subst v0
      refine ⟨fun _ => go _ ?_ (fun _ => ⟨a2, a4⟩) (fun y => absurd rfl y), fun y => absurd rfl y⟩
      rw [klF_s, a3]
      by_cases w : (0 : Int32) < mi M 151 i
      · rw [if_pos ⟨sel, w⟩]
      · rw [if_neg (fun y => w y.2)]
        rw [Int32.lt_iff_toInt_lt] at w k7
        exact Int32.toInt_inj.mp (by have : (0 : Int32).toInt = 0 := rfl; omega)
    · subst v1
      refine ⟨fun y => absurd y (by decide), fun _ => go _ ?_ (fun y => absurd y (by decide)) (fun _ => ⟨a2, a3⟩)⟩
      rw [a1]
      rw [klF_s]; unfold jmax
      by_cases w : klF M o m tt i < mi M 151 i
      · rw [if_pos w, if_pos ⟨sel, w⟩]
      · rw [if_neg w, if_neg (fun y => w y.2)]
  · have : i = n := by omega
    subst this
    unfold khV at h
    rcases hv with ⟨-, a1, a2, a3, a4⟩ | ⟨-, a1, a2, a3⟩
    · exact h M3 (a1.trans a3.symm) (by rw [a2, a4, if_pos (by decide)]) F3
    · exact h M3 a1 (by rw [a2, if_neg a3]) F3
theorem m_klow {o m n : Nat} {tt : Int32} {Q : Int32 → Mem → Prop} (hn : n ≤ 200) (hM : mi M 92 73 = nI n) (h : Q (klF M o m tt n) M) : w_X12_knownLow L (nI o) (nI m) tt M Q := by
  unfold w_X12_knownLow
  refine LP3_c1 0 n (fun i (v : Int32) M' => v = klF M o m tt i ∧ M' = M) rfl (Nat.zero_le _) ⟨rfl, rfl⟩ ?_
  intro i v M3 hi _ ⟨hv, e⟩ K hK
  subst e
  unfold w_X12_knownLow_6
  rw [hM, nI_lt' (by omega) (by omega), tn_nI (n := i) (by omega)]
  refine ⟨fun hlt => ⟨vp_in_nI (by omega) (by decide), fun c => ⟨fun d => ⟨fun e x hx => ?_, fun e => ⟨fun f x hx y hy => ?_, fun f x hx => ?_⟩⟩, fun d x hx => ?_⟩, fun c x hx => ?_⟩, fun hge => ?_⟩
  · rw [hx, nI_1]; exact hK hlt _ _ ⟨by rw [klF_s, if_neg (fun y => y.1.2.2 e)]; exact hv, rfl⟩
  · rw [hx, hy, nI_1]; exact hK hlt _ _ ⟨by rw [klF_s, if_pos ⟨⟨c, d, e⟩, by rw [← hv]; exact f⟩], rfl⟩
  · rw [hx, nI_1]; exact hK hlt _ _ ⟨by rw [klF_s, if_neg (fun y => f (by rw [hv]; exact y.2))]; exact hv, rfl⟩
  · rw [hx, nI_1]; exact hK hlt _ _ ⟨by rw [klF_s, if_neg (fun y => d y.1.2.1)]; exact hv, rfl⟩
  · rw [hx, nI_1]; exact hK hlt _ _ ⟨by rw [klF_s, if_neg (fun y => c y.1.1)]; exact hv, rfl⟩
  · have : i = n := by omega
    subst this
    rw [hv]; exact h
theorem m_khigh {o m n : Nat} {tt : Int32} {Q : Int32 → Mem → Prop} (hn : n ≤ 200) (hM : mi M 92 73 = nI n) (h : Q (khV M o m tt n) M) : w_X12_knownHigh L (nI o) (nI m) tt M Q := by
  unfold w_X12_knownHigh
  refine LP3_c1 0 n (fun i (v : Int32) M' => v = khF M o m tt i ∧ M' = M) rfl (Nat.zero_le _) ⟨rfl, rfl⟩ ?_
  intro i v M3 hi _ ⟨hv, e⟩ K hK
  subst e
  unfold w_X12_knownHigh_6 w_X12_knownHigh_65
  rw [hM, nI_lt' (by omega) (by omega), tn_nI (n := i) (by omega)]
  refine ⟨fun hlt => ⟨vp_in_nI (by omega) (by decide), fun c => ⟨fun d => ⟨fun e x hx => ?_, fun e => ⟨fun f => ⟨vp_in_nI (by omega) (by decide), fun x hx y hy => ?_⟩, fun f => ⟨fun g => ⟨vp_in_nI (by omega) (by decide), fun x hx y hy => ?_⟩, fun g x hx => ?_⟩⟩⟩, fun d x hx => ?_⟩, fun c x hx => ?_⟩, fun hge x hx => ?_⟩
  · rw [hx, nI_1]; exact hK hlt _ _ ⟨by rw [khF_s, if_neg (fun y => y.1.2.2 e)]; exact hv, rfl⟩
  · rw [hx, hy, nI_1]; exact hK hlt _ _ ⟨by rw [khF_s, if_pos ⟨⟨c, d, e⟩, Or.inl (by rw [← hv]; exact f)⟩], rfl⟩
  · rw [hx, hy, nI_1]; exact hK hlt _ _ ⟨by rw [khF_s, if_pos ⟨⟨c, d, e⟩, Or.inr (by rw [← hv]; exact g)⟩], rfl⟩
  · rw [hx, nI_1]; exact hK hlt _ _ ⟨by rw [khF_s, if_neg (fun y => y.2.elim (fun w => f (by rw [hv]; exact w)) (fun w => g (by rw [hv]; exact w)))]; exact hv, rfl⟩
  · rw [hx, nI_1]; exact hK hlt _ _ ⟨by rw [khF_s, if_neg (fun y => d y.1.2.1)]; exact hv, rfl⟩
  · rw [hx, nI_1]; exact hK hlt _ _ ⟨by rw [khF_s, if_neg (fun y => c y.1.1)]; exact hv, rfl⟩
  · have : i = n := by omega
    subst this
    unfold khV at h
    rw [hx, hv]; exact h
theorem j_known {p0 p1 p2 p3 : Int32} (h : RR L M) : w_X11_known L p0 p1 p2 p3 M (fun a M1 => w_X12_known L p0 p1 p2 p3 M1 (fun b M2 => a = b ∧ RR L M2)) := by
  have h' := h
  obtain ⟨t, X, h⟩ := h
  obtain ⟨⟨n1, n2, n3⟩, -, n93, m93, n720, -⟩ := RX_n h
  obtain ⟨n, hn, hC, hM, hk⟩ := h.2.2.2.2.1
  have no : ∀ M1 : Mem, M1 = si M 92 0 0 → RR L M1 := fun M1 e => by subst e; exact RR_th h'
  have bad : ∀ M1 : Mem, ¬ ((isN (tn (X.1 28 0)) p0 ∧ isN (t / 30) p1) ∧ wi p2 0 (nI t) ∧ wi p3 0 2) → M1 = M → w_X12_known L p0 p1 p2 p3 M1 (fun b M2 => -1 = b ∧ RR L M2) := fun M1 q e2 => by
    subst e2
    unfold w_X12_known
    intro M2 e
    have m93' : mi M2 93 0 = nI t := by rw [e]; exact m93
    refine m_ovB (n := tn (X.1 28 0)) (t := t) (by rw [e]; exact n2) n3 m93' n720 (fun _ => ⟨rfl, no M2 e⟩) (fun r1 r2 => ?_)
    rw [m93']
    exact m_wiB (fun _ => ⟨rfl, no M2 e⟩) (fun r3 => m_wiB (fun _ => ⟨rfl, no M2 e⟩) (fun r4 => absurd ⟨⟨r1, r2⟩, r3, r4⟩ q))
  unfold w_X11_known
  refine c_ownB n1 n3 (fun q => bad _ (fun z => q z.1.1) rfl) (fun q1 => c_ovB n93 n720 (fun q => bad _ (fun z => q z.1.2) rfl) (fun q2 => ?_))
  rw [n93]
  refine c_wiB (fun q => bad _ (fun z => q z.2.1) rfl) (fun q3 => c_wiB (fun q => bad _ (fun z => q z.2.2) rfl) (fun q4 => ?_))
  have q1' := q1
  have q2' := q2
  obtain ⟨o, ho, rfl⟩ := q1
  obtain ⟨m, hm, rfl⟩ := q2
  have ec : nI m * 10 + nI o = nI (10 * m + o) := by rw [show (10 : Int32) = nI 10 from rfl, pk_mul, nI_add, Nat.mul_comm]
  unfold w_X2_place
  dsimp only
  rw [ec]
  refine c_sum (by omega) (by omega) hn hC hk (fun M1 l1 h1 F1 => ?_)
  have run : ∀ a : Int32, a = (if p3 = 0 then klF M o m p2 n else if p3 = 1 then khV M o m p2 n else if khV M o m p2 n < klF M o m p2 n then 1 else 0) → w_X12_known L (nI o) (nI m) p2 p3 M1 (fun b M2 => a = b ∧ RR L M2) := fun a ea => by
    unfold w_X12_known
    intro M2 e
    have f2 : ∀ a k, ¬ (a = 92 ∧ k = 0) → ¬ (a = 80 ∧ k ≠ 0) → mi M2 a k = mi M a k := fun a k z1 z2 => by rw [e, mi_si, if_neg z1, F1.1 a k z2]
    have m93' : mi M2 93 0 = nI t := by rw [f2 _ _ (by omega) (by omega)]; exact m93
    have kc := kl_cg (M := M) (M' := M2) (o := o) (m := m) (tt := p2) (fun a k _ _ => f2 a k (by omega) (by omega)) n
    refine m_ovB (n := tn (X.1 28 0)) (t := t) (by rw [f2 _ _ (by omega) (by omega)]; exact n2) n3 m93' n720 (fun z => absurd ⟨q1', q2'⟩ z) (fun _ _ => ?_)
    rw [m93']
    refine m_wiB (fun z => absurd q3 z) (fun _ => m_wiB (fun z => absurd q4 z) (fun _ => m_klow (n := n) hn (by rw [f2 _ _ (by omega) (by omega)]; exact hM) (m_khigh (n := n) hn (by rw [f2 _ _ (by omega) (by omega)]; exact hM) (fun x hx => ⟨?_, t, X, RX_cg h (fun a k z => f2 a k (by unfold PN at z; omega) (by unfold PN at z; omega)) (fun a k => by rw [e]; exact F1.mp)⟩))))
    unfold khV at ea hx
    rw [kc.1, kc.2] at hx
    rw [ea, hx]
  rw [l1, h1]
  refine ⟨fun c => run _ (by rw [if_pos c]), fun c => ⟨fun d => run _ (by rw [if_neg c, if_pos d]), fun d x hx => run _ (by rw [if_neg c, if_neg d]; exact hx)⟩⟩
-- what is proved
def pvF (M : Mem) (o m : Nat) (tt : Int32) (n : Nat) : Int32 := if khV M o m tt n < klF M o m tt n then 0 else if mi M 128 m < 0 then 0 else jmax 0 (klF M o m tt n - jmax 0 (mi M 118 (10 * m + o)))
theorem pv_cg {M M' : Mem} {o m n : Nat} {tt : Int32} (h : ∀ a k, a = 118 ∨ a = 128 ∨ (149 ≤ a ∧ a ≤ 153) → mi M' a k = mi M a k) : pvF M' o m tt n = pvF M o m tt n := by
  have kc := kl_cg (M := M) (M' := M') (o := o) (m := m) (tt := tt) (fun a k z1 z2 => h a k (by omega)) n
  unfold pvF khV
  rw [kc.1, kc.2, h 118 _ (by omega), h 128 _ (by omega)]
theorem c_prov {t o m n : Nat} {tt : Int32} {X : WS} {Q : Int32 → Mem → Prop} (h : RX L M t X) (ho : o < 10) (hm : m < 24) (hn : n ≤ 200) (hC : mi M 80 0 = nI n) (hk : ∀ k, k < n → reK M k)
    (hQ : ∀ M', FJ (fun a k => a = 80 ∧ k ≠ 0) M M' → Q (pvF M o m tt n) M') : w_X11_provedOn L (nI o) (nI m) tt M Q := by
  have ec : nI m * 10 + nI o = nI (10 * m + o) := by rw [show (10 : Int32) = nI 10 from rfl, pk_mul, nI_add, Nat.mul_comm]
  obtain ⟨mo1, mo2⟩ := h.2.2.2.1
  unfold w_X11_provedOn w_X2_place
  dsimp only
  rw [ec]
  refine c_sum ho hm hn hC hk (fun M1 l1 h1 F1 => ?_)
  have hq := hQ M1 F1
  rw [l1, h1, F1.mp, F1.1 78 _ (by omega), tn_nI (n := m) (by omega), tn_nI (n := 10 * m + o) (by omega)]
  unfold pvF at hq
  refine ⟨fun c => by rw [if_pos c] at hq; exact hq, fun c => ⟨vp_in_nI (by omega) (by decide), fun d => ?_, fun a d => ⟨vp_in_nI (by omega) (by decide), ?_⟩⟩⟩
  · rw [if_neg c, if_pos] at hq
    · exact hq
    · rcases mo2 m hm with ⟨-, y⟩ | ⟨-, a, q, P, y, -⟩
      · rw [y]; decide
      · rw [d] at y; cases y
  · rw [if_neg c, if_neg] at hq
    · rw [(mo1 (10 * m + o) (by omega)).2.1]; exact hq
    · rcases mo2 m hm with ⟨y, -⟩ | ⟨-, a, q, P, y, y2, y3, -⟩
      · rw [d] at y; cases y
      · rw [y2]; exact nI_pos (by omega)
theorem m_prov {o m n : Nat} {tt : Int32} {Q : Int32 → Mem → Prop} (ho : o < 10) (hm : m < 24) (hn : n ≤ 200) (hM : mi M 92 73 = nI n) (hQ : Q (pvF M o m tt n) M) : w_X12_provedOn L (nI o) (nI m) tt M Q := by
  have em : (10 : Int32) * nI m + nI o = nI (10 * m + o) := by rw [show (10 : Int32) = nI 10 from rfl, pk_mul, nI_add]
  unfold w_X12_provedOn
  refine m_klow hn hM (m_khigh hn hM ?_)
  rw [em, tn_nI (n := m) (by omega), tn_nI (n := 10 * m + o) (by omega)]
  unfold pvF at hQ
  refine ⟨fun c => by rw [if_pos c] at hQ; exact hQ, fun c => ⟨vp_in_nI (by omega) (by decide), fun d => by rw [if_neg c, if_pos d] at hQ; exact hQ, fun d => ⟨vp_in_nI (by omega) (by decide), by rw [if_neg c, if_neg d] at hQ; exact hQ⟩⟩⟩
theorem j_proved {p0 p1 p2 : Int32} (h : RR L M) : w_X11_proved L p0 p1 p2 M (fun a M1 => w_X12_proved L p0 p1 p2 M1 (fun b M2 => a = b ∧ RR L M2)) := by
  have h' := h
  obtain ⟨t, X, h⟩ := h
  obtain ⟨⟨n1, n2, n3⟩, -, n93, m93, n720, -⟩ := RX_n h
  obtain ⟨n, hn, hC, hM, hk⟩ := h.2.2.2.2.1
  have no : ∀ M1 : Mem, M1 = si M 92 0 0 → RR L M1 := fun M1 e => by subst e; exact RR_th h'
  have bad : ∀ M1 : Mem, ¬ ((isN (tn (X.1 28 0)) p0 ∧ isN (t / 30) p1) ∧ wi p2 0 (nI t)) → M1 = M → w_X12_proved L p0 p1 p2 M1 (fun b M2 => -1 = b ∧ RR L M2) := fun M1 q e2 => by
    subst e2
    unfold w_X12_proved
    intro M2 e
    have m93' : mi M2 93 0 = nI t := by rw [e]; exact m93
    refine m_ovB (n := tn (X.1 28 0)) (t := t) (by rw [e]; exact n2) n3 m93' n720 (fun _ => ⟨rfl, no M2 e⟩) (fun r1 r2 => ?_)
    rw [m93']
    exact m_wiB (fun _ => ⟨rfl, no M2 e⟩) (fun r3 => absurd ⟨⟨r1, r2⟩, r3⟩ q)
  unfold w_X11_proved
  refine c_ownB n1 n3 (fun q => bad _ (fun z => q z.1.1) rfl) (fun q1 => c_ovB n93 n720 (fun q => bad _ (fun z => q z.1.2) rfl) (fun q2 => ?_))
  rw [n93]
  refine c_wiB (fun q => bad _ (fun z => q z.2) rfl) (fun q3 => ?_)
  have q1' := q1
  have q2' := q2
  obtain ⟨o, ho, rfl⟩ := q1
  obtain ⟨m, hm, rfl⟩ := q2
  refine c_prov h (by omega) (by omega) hn hC hk (fun M1 F1 => ?_)
  unfold w_X12_proved
  intro M2 e
  have f2 : ∀ a k, ¬ (a = 92 ∧ k = 0) → ¬ (a = 80 ∧ k ≠ 0) → mi M2 a k = mi M a k := fun a k z1 z2 => by rw [e, mi_si, if_neg z1, F1.1 a k z2]
  have m93' : mi M2 93 0 = nI t := by rw [f2 _ _ (by omega) (by omega)]; exact m93
  refine m_ovB (n := tn (X.1 28 0)) (t := t) (by rw [f2 _ _ (by omega) (by omega)]; exact n2) n3 m93' n720 (fun z => absurd ⟨q1', q2'⟩ z) (fun _ _ => ?_)
  rw [m93']
  refine m_wiB (fun z => absurd q3 z) (fun _ => m_prov (n := n) (by omega) (by omega) hn (by rw [f2 _ _ (by omega) (by omega)]; exact hM) ⟨(pv_cg (fun a k z => f2 a k (by omega) (by omega))).symm, t, X, RX_cg h (fun a k z => f2 a k (by unfold PN at z; omega) (by unfold PN at z; omega)) (fun a k => by rw [e]; exact F1.mp)⟩)
end REP
