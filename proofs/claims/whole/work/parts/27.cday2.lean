-- LEVEL 3, part 11: a whole day of the class, the month's first with it
def FC (w : Nat) (M M' : Mem) : Prop := (∀ a k, ¬ PG w a k → mi M' a k = mi M a k) ∧ (∀ a k, ¬ (a = w ∧ (k = 9 ∨ k = 11 ∨ k = 12)) → mp M' a k = mp M a k) ∧ M'.2.2 = M.2.2
theorem FC.rf {w : Nat} {M : Mem} : FC w M M := ⟨fun _ _ _ => rfl, fun _ _ _ => rfl, rfl⟩
theorem FC.tr {w : Nat} {M M' M'' : Mem} (h1 : FC w M M') (h2 : FC w M' M'') : FC w M M'' := ⟨fun a k h => (h2.1 a k h).trans (h1.1 a k h), fun a k h => (h2.2.1 a k h).trans (h1.2.1 a k h), h2.2.2.trans h1.2.2⟩
theorem FC.ofG {w : Nat} {M M' : Mem} (h : FJ (PG w) M M') : FC w M M' := ⟨h.1, fun a k _ => h.mp, congrArg Prod.snd h.2⟩
theorem PV_G {w a k : Nat} (h : PV w a k) : PG w a k := ⟨h.1, h.2.1, h.2.2.1, h.2.2.2.2⟩
theorem FC.ofV {w : Nat} {M M' : Mem} (h : FJ (PV w) M M') : FC w M M' := FC.ofG (h.mono (fun a k q => PV_G q))
theorem FC.sq {w k : Nat} {x : Option Nat} {M : Mem} (hk : k = 9 ∨ k = 11 ∨ k = 12) : FC w M (sq M w k x) := ⟨fun _ _ _ => rfl, fun a j h => by rw [mp_sq, if_neg (fun q => h (by rw [q.1, q.2]; exact ⟨rfl, hk⟩))], rfl⟩
theorem FC.row {w : Nat} {M M' : Mem} (h : FC w M M') {a : Nat} (ha : ∀ k, ¬ PG w a k) : M'.1 a = M.1 a := funext fun k => h.1 a k (ha k)
theorem FC.rowp {w : Nat} {M M' : Mem} (h : FC w M M') {a : Nat} (ha : a ≠ w) : M'.2.1 a = M.2.1 a := funext fun k => h.2.1 a k (fun q => ha q.1)
theorem FC.opt {L : Lay} {w : Nat} {M M' : Mem} {o : Option Nat} {p : Option Pc} (hw : IsW w) (h : FC w M M') (hp : optC L M o p) : optC L M' o p := by
  have hw := hw.lt
  exact optC_cg (fun b hb _ => h.row (fun k q => by unfold PG at q; omega)) (fun b hb _ => h.rowp (by omega)) hp
theorem FC.pac {L : Lay} {w a : Nat} {M M' : Mem} {P : Pc} (hw : IsW w) (h : FC w M M') (hp : pacC L M a P) : pacC L M' a P := by
  have hw := hw.lt
  exact pacC_cg (fun b hb _ => h.row (fun k q => by unfold PG at q; omega)) (fun b hb _ => h.rowp (by omega)) hp
theorem FC.law {L : Lay} {w : Nat} {M M' : Mem} {o : Option Nat} {v : Int32 × Int32} (hw : IsW w) (h : FC w M M') (hp : lawC L M o v) : lawC L M' o v := by
  have hw2 := hw.lt
  exact lawC_cg (fun b hb _ => h.row (fun k q => by unfold IsW at hw; unfold PG at q; omega)) hp
theorem vwC_ne {w f i : Nat} {M : Mem} (hf : f ≠ 109) : vwC w M f i = if i < rg f then mi M (cA w f i) (cB f i) else 0 := by rw [vwC_def, if_neg hf]
theorem vwC_sq {w a k f i : Nat} {x : Option Nat} {M : Mem} (hf : f ≠ 109) : vwC w (sq M a k x) f i = vwC w M f i := by rw [vwC_ne hf, vwC_ne hf]; rfl
theorem vwC_sq9 {w k : Nat} {x : Option Nat} {M : Mem} (hk : k ≠ 11) : vwC w (sq M w k x) = vwC w M := by
  funext f i
  rw [vwC_def, vwC_def, mp_sq, if_neg (c := w = w ∧ 11 = k) (fun q => hk q.2.symm)]; rfl
-- what the facts read
def eqX (S' S : SS) : Prop := ∀ f i, f ≠ 109 → f ≠ 108 → f ≠ 100 → S' f i = S f i
theorem gf_cg {S S' : SS} (h : eqX S' S) : gfF S' = gfF S := by
  have e : ∀ f i, f ≠ 109 → f ≠ 108 → f ≠ 100 → S' f i = S f i := h
  have p : ∀ q, prF S' q = prF S q := pr_cong (e 96 0 (by decide) (by decide) (by decide)) (e 97 0 (by decide) (by decide) (by decide)) (e 98 0 (by decide) (by decide) (by decide))
  funext j
  unfold gfF
  split
  · exact p 0
  · exact e 96 0 (by decide) (by decide) (by decide)
  · exact e 97 0 (by decide) (by decide) (by decide)
  · rw [e 34 0 (by decide) (by decide) (by decide)]
    have : (fun k => decide (S' 112 k = 0)) = fun k => decide (S 112 k = 0) := by funext k; rw [e 112 k (by decide) (by decide) (by decide)]
    rw [this]
  · rw [e 119 0 (by decide) (by decide) (by decide)]
  · rw [e 93 0 (by decide) (by decide) (by decide)]
  · rw [e 28 0 (by decide) (by decide) (by decide)]
    have : (fun o => !decide (S' 111 o = 0)) = fun o => !decide (S 111 o = 0) := by funext k; rw [e 111 k (by decide) (by decide) (by decide)]
    rw [this]
  · rfl
theorem ow_cg {S S' : SS} (h : eqX S' S) (o : Nat) (over : Int32) : owF S' o over = owF S o over := by
  have e : ∀ f i, f ≠ 109 → f ≠ 108 → f ≠ 100 → S' f i = S f i := h
  funext j
  unfold owF
  split
  · exact e 121 o (by decide) (by decide) (by decide)
  · exact e 120 o (by decide) (by decide) (by decide)
  · exact e 122 o (by decide) (by decide) (by decide)
  · exact e 107 o (by decide) (by decide) (by decide)
  · exact e 117 o (by decide) (by decide) (by decide)
  · exact e 118 o (by decide) (by decide) (by decide)
  · rfl
  · rw [gf_cg h]
theorem wt_cg {S S' : SS} (h : eqX S' S) (P : Pc) (v : Int32) : wtF S' P v = wtF S P v := by
  funext o
  unfold wtF
  cases lnF P v 0 with
  | none => rfl
  | some e => show liF (e (owF S' o 0)) = liF (e (owF S o 0)); rw [ow_cg h]
theorem alG_cg {S S' : SS} (h : eqX S' S) (n : Nat) (wt : Nat → Int32) (issue r : Int32) : alG S' n wt issue r = alG S n wt issue r := by
  have e : ∀ f i, f ≠ 109 → f ≠ 108 → f ≠ 100 → S' f i = S f i := h
  have : clF S' r issue (smF wt n) wt = clF S r issue (smF wt n) wt := by
    funext o
    unfold clF
    rw [e 121 o (by decide) (by decide) (by decide), e 120 o (by decide) (by decide) (by decide)]
  unfold alG
  rw [this]
theorem gd_X {T : Nat} {S S' : SS} (h : eqX S' S) (hg : gdT T S) : gdT T S' := by
  have e : ∀ f i, f ≠ 109 → f ≠ 108 → f ≠ 100 → S' f i = S f i := h
  exact gd_cong (Nat.le_refl _) (e 28 0 (by decide) (by decide) (by decide)) (e 34 0 (by decide) (by decide) (by decide)) (e 93 0 (by decide) (by decide) (by decide)) (e 94 0 (by decide) (by decide) (by decide)) (e 95 0 (by decide) (by decide) (by decide))
    (fun o => e 111 o (by decide) (by decide) (by decide)) (fun o => e 113 o (by decide) (by decide) (by decide)) (fun o => e 115 o (by decide) (by decide) (by decide)) (fun o => e 116 o (by decide) (by decide) (by decide)) (fun o => e 120 o (by decide) (by decide) (by decide)) (fun o => e 121 o (by decide) (by decide) (by decide)) (fun o => e 125 o (by decide) (by decide) (by decide)) hg
def vtF (S : SS) (P : Pc) (v iss : Int32) : Int32 := if ¬ iss = -1 then iss else liF (exV (lnF P v 1) 9999 (gfF S))
theorem isF_v {S : SS} {P : Pc} {v iss : Int32} : isF S P v iss = vtF S P v iss := by
  unfold isF vtF exV
  by_cases q : ¬ iss = -1
  · rw [if_pos q, if_pos q]
  · rw [if_neg q, if_neg q]
    cases lnF P v 1 with
    | none => show (9999 : Int32) = liF 9999; decide
    | some e => rfl
theorem bgP_s {S : SS} {v : Int32} {P : Pc} : bgP S v (some P) = if vdF v 3 = false ∧ P.2.1 (gfF S) = true then none else some P := rfl
-- the pact is renewed: raw allotments and the tried issue stay
theorem c_renew {L : Lay} {T w : Nat} {S : SS} {v : Int32 × Int32} {p h0 : Option Pc} {M : Mem} {Q : Mem → Prop} (hw : IsW w) (hg : gdT T S) (hS : ∀ f i, f ≠ 109 → vwC w M f i = S f i)
    (hl : lawC L M (mp M w 9) v) (hp : optC L M (mp M w 11) p) (hh : optC L M (mp M w 12) h0)
    (h : ∀ M', ((bgP S v.1 (hdF p h0) = none ∧ mp M' w 11 = none ∧ (∀ f i, f ≠ 109 → vwC w M' f i = S f i)) ∨
        (∃ a P, bgP S v.1 (hdF p h0) = some P ∧ mp M' w 11 = some a ∧ pacC L M' a P ∧ (∀ f i, f ≠ 109 → vwC w M' f i = u2 S 100 0 (isF S P v.1 (mi M w 14)) f i) ∧ (∀ j, 6 ≤ j → fxM M' (w + 5) j = gfF S j))) →
      mp M' w 12 = none → mp M' w 9 = mp M w 9 → FC w M M' → (∀ i, i < 10 → mi M' (oA w i) 8 = mi M (oA w i) 8) → mi M' w 14 = mi M w 14 → Q M') : w_X10_renewPact L w M Q := by
  have hw36 := hw.lt
  -- from the pact that is meant to hold on
  have run : ∀ (q : Option Pc) (M1 : Mem), q = hdF p h0 → optC L M1 (mp M1 w 11) q → lawC L M1 (mp M1 w 9) v → (∀ f i, f ≠ 109 → vwC w M1 f i = S f i) → mp M1 w 12 = none → mp M1 w 9 = mp M w 9 → FC w M M1 → (∀ a k, mi M1 a k = mi M a k) → w_X10_renewPact_20 L w M1 Q := by
    intro q M1 hq ho1 hl1 v1 n12 n9 F1 i1
    subst hq
    unfold w_X10_renewPact_20
    rcases ho1 with ⟨e1, e2⟩ | ⟨a, P, e1, e2, e3⟩
    · rw [e1]
      refine ⟨fun _ => h M1 (Or.inl ⟨by rw [e2]; rfl, e1, v1⟩) n12 n9 F1 (fun i _ => i1 _ _) (i1 _ _), fun a6 z => by cases z⟩
    · rw [e1]
      refine ⟨fun z => (by cases z), fun a6 _ => ?_⟩
      have X1 : eqX (vwC w M1) S := fun f i a1 _ _ => v1 f i a1
      have g1 : gdT T (vwC w M1) := gd_X X1 hg
      refine c_tell g1 (fun M2 v2 x2 F2 r2 => ?_)
      have FC2 : FC w M M2 := F1.tr (FC.ofV F2)
      obtain ⟨la, z1, z2, z3, z4, z5⟩ := FC.law hw (FC.ofV F2) hl1
      refine ⟨la, by rw [F2.mp]; exact z1, z2, ?_⟩
      have s2 : ∀ i, i < 10 → mi M2 (oA w i) 8 = mi M (oA w i) 8 := fun i hi => by
        rw [← i1]; exact congrFun (r2 (oA w i) (by unfold oA; omega)) 8
      have t2 : mi M2 w 14 = mi M w 14 := by rw [← i1]; exact congrFun (r2 w (by omega)) 14
      have p2 : mp M2 w 11 = some a := by rw [F2.mp]; exact e1
      have n2 : mp M2 w 12 = none := by rw [F2.mp]; exact n12
      have P2 : pacC L M2 a P := FC.pac hw (FC.ofV F2) e3
      have x2' : fxM M2 (w + 5) = gfF S := by rw [x2, gf_cg X1]
      have v2' : ∀ f i, f ≠ 109 → vwC w M2 f i = S f i := fun f i hf => by rw [v2]; exact v1 f i hf
      -- it does not fall
      have stay : ∀ M3 : Mem, FJ (fun b _ => b = w + 7) M2 M3 → bgP S v.1 (hdF p h0) = some P → w_X10_renewPact_62 L w 0 M3 Q := by
        intro M3 F3 hb
        have F3V : FJ (PV w) M2 M3 := F3.mono (fun b k q => by unfold PV; omega)
        have FC3 := FC2.tr (FC.ofV F3V)
        have f3 : fxM M3 (w + 5) = gfF S := by
          rw [← x2']; funext j
          show (if j < 14 then mi M3 (w + 5 + 1) j else 0) = if j < 14 then mi M2 (w + 5 + 1) j else 0
          rw [F3.gt (by omega)]
        have v3' : vwC w M3 = vwC w M2 := vwC_cg7 (fun b hb => F3.row (fun _ => hb)) F3.2
        unfold w_X10_renewPact_62
        refine ⟨fun _ => ?_, fun z => absurd rfl z⟩
        have hl3 := FC.law hw (FC.ofV F3V) (FC.law hw (FC.ofV F2) hl1)
        have er9 : mp M3 w 9 = mp M1 w 9 := by rw [F3.mp, F2.mp]
        obtain ⟨lb, y1, y2, y3, y4, y5⟩ := hl3
        refine ⟨lb, by rw [er9]; exact y1, y2, ?_⟩
        refine c_void (k := 1) y4 ?_
        have P3 : pacC L M3 a P := FC.pac hw (FC.ofV F3V) P2
        have p3 : mp M3 w 11 = some a := by rw [F3.mp]; exact p2
        have fin : ∀ o : Option Nat, lineC L M3 o (lnF P v.1 1) → w_X10_renewPact_99 L w o M3 Q := fun o ho => by
          unfold w_X10_renewPact_99
          refine c_line hw ho (fun M4 F4 => ?_)
          have F4V : FJ (PV w) M3 M4 := F4.mono (fun b k q => by unfold PV; omega)
          have FC4 := FC3.tr (FC.ofV F4V)
          have v4 : vwC w M4 = vwC w M2 := by rw [← v3']; exact vwC_cg7 (fun b hb => F4.row (fun _ => hb)) F4.2
          have e14 : mi M4 w 14 = mi M w 14 := by rw [F4.gt (by omega), F3.gt (by omega)]; exact t2
          have last : ∀ (x : Int32) (M5 : Mem), x = isF S P v.1 (mi M w 14) → M5 = si M4 w 13 x → Q M5 := fun x M5 hx e5 => by
            have v5 : vwC w M5 = u2 (vwC w M4) 100 0 x := by rw [e5]; exact sC_100
            have F5V : FJ (PV w) M4 M5 := by rw [e5]; exact FJ.rf.si PV_w
            refine h M5 (Or.inr ⟨a, P, hb, ?_, ?_, fun f i hf => ?_, fun j hj => ?_⟩) ?_ (by rw [F5V.mp, F4.mp, F3.mp, F2.mp]; exact n9) (FC4.tr (FC.ofV F5V)) (fun i hi => ?_) ?_
            · rw [F5V.mp, F4.mp]; exact p3
            · exact FC.pac hw (FC.ofV F5V) (FC.pac hw (FC.ofV F4V) P3)
            · rw [v5, v4, u2_def, u2_def, hx, v2' f i hf]
            · have : fxM M5 (w + 5) j = fxM M3 (w + 5) j := by
                show (if j < 14 then mi M5 (w + 5 + 1) j else 0) = if j < 14 then mi M3 (w + 5 + 1) j else 0
                rw [e5, mi_si, if_neg (c := w + 5 + 1 = w ∧ j = 13) (fun q => by omega), F4.gt (by omega)]
              rw [this, f3]
            · rw [F5V.mp, F4.mp, F3.mp]; exact n2
            · rw [e5, mi_si, if_neg (fun q => by omega), F4.gt (fun q => by unfold oA at q; omega), F3.gt (fun q => by unfold oA at q; omega)]; exact s2 i hi
            · rw [e5, mi_si, if_neg (fun q => by omega)]; exact e14
          rw [e14, f3]
          refine ⟨fun c => c_lim (fun M6 e6 => last _ M6 ?_ e6), fun c M6 e6 => last _ M6 ?_ e6⟩
          · rw [isF_v]; unfold vtF; rw [if_neg (by rw [c]; exact fun q => q rfl)]
          · rw [isF_v]; unfold vtF; rw [if_pos c]
        by_cases q : vdF v.1 1 = true
        · rw [if_pos q]
          exact ⟨fun z => absurd z (by decide), fun _ => fin none (Or.inl ⟨rfl, by unfold lnF; rw [if_pos q]⟩)⟩
        · rw [if_neg q]
          refine ⟨fun _ => ⟨a, p3, P3.1, fin _ ?_⟩, fun z => absurd rfl z⟩
          unfold lnF; rw [if_neg q]; exact P3.2.2.2.1
      refine c_void (k := 3) z4 ?_
      by_cases q : vdF v.1 3 = true
      · rw [if_pos q]
        exact ⟨fun z => absurd z (by decide), fun _ => stay M2 FJ.rf (by rw [e2]; rw [bgP_s, if_neg (fun z => by rw [q] at z; exact absurd z.1 (by decide))])⟩
      · rw [if_neg q]
        refine ⟨fun _ => ⟨a, p2, P2.1, ?_⟩, fun z => absurd rfl z⟩
        -- the fall lines are reckoned
        have fall : ∀ (y : Int32) (M3 : Mem), FJ (fun b _ => b = w + 7) M2 M3 → (y = 0 ↔ P.2.1 (gfF S) = false) → w_X10_renewPact_62 L w y M3 Q := fun y M3 F3 hy => by
          by_cases c : y = 0
          · rw [c]
            exact stay M3 F3 (by rw [e2]; rw [bgP_s, if_neg (fun z => by rw [hy.mp c] at z; exact absurd z.2 (by decide))])
          · unfold w_X10_renewPact_62
            refine ⟨fun z => absurd z c, fun _ M4 e4 => ?_⟩
            have F3V : FJ (PV w) M2 M3 := F3.mono (fun b k q => by unfold PV; omega)
            have hfall : P.2.1 (gfF S) = true := by
              cases hb : P.2.1 (gfF S) with
              | false => exact absurd (hy.mpr hb) c
              | true => rfl
            refine h M4 (Or.inl ⟨?_, ?_, fun f i hf => ?_⟩) ?_ (by rw [e4, mp_sq, if_neg (fun z => by omega), F3.mp, F2.mp]; exact n9) ((FC2.tr (FC.ofV F3V)).tr (by rw [e4]; exact FC.sq (by omega))) (fun i hi => ?_) ?_
            · rw [e2]; rw [bgP_s, if_pos ⟨by simpa using q, hfall⟩]
            · rw [e4, mp_sq, if_pos ⟨rfl, rfl⟩]
            · rw [e4, vwC_sq hf, show vwC w M3 = vwC w M2 from vwC_cg7 (fun b hb => F3.row (fun _ => hb)) F3.2]; exact v2' f i hf
            · rw [e4, mp_sq, if_neg (fun z => by omega), F3.mp]; exact n2
            · rw [e4, mi_sq, F3.gt (fun q => by unfold oA at q; omega)]; exact s2 i hi
            · rw [e4, mi_sq, F3.gt (by omega)]; exact t2
        rcases P2.2.2.2.2.2.1 with ⟨f1, f2⟩ | ⟨b, n, f1, f2, f3, f4, f5⟩
        · rw [f1]
          unfold w_X6_reckon
          exact ⟨fun _ => fall 0 M2 FJ.rf ⟨fun _ => f2 _, fun _ => rfl⟩, fun a z => by cases z⟩
        · rw [f1]
          refine c_reckonS f3 f4 (by omega) (fun M3 F3 => fall _ M3 (F3.mono (fun b _ q => by omega)) ?_)
          rw [f5, x2']
  unfold w_X10_renewPact
  rcases hh with ⟨e1, e2⟩ | ⟨b, R, e1, e2, e3⟩
  · rw [e1]
    exact ⟨fun _ => run p M (by rw [e2]; rfl) hp hl hS e1 rfl FC.rf (fun _ _ => rfl), fun a z => by cases z⟩
  · refine ⟨fun z => (by rw [e1] at z; cases z), fun a2 _ M3 e3' M4 e4 => ?_⟩
    have F4 : FC w M M4 := by rw [e4, e3']; exact (FC.sq (by omega)).tr (FC.sq (by omega))
    refine run (some R) M4 (by rw [e2]; rfl) ?_ ?_ (fun f i hf => by rw [e4, vwC_sq hf, e3', vwC_sq hf]; exact hS f i hf) (by rw [e4, mp_sq, if_pos ⟨rfl, rfl⟩]) (by rw [e4, mp_sq, if_neg (fun z => by omega), e3', mp_sq, if_neg (fun z => by omega)]) F4 (fun a k => by rw [e4, e3']; rfl)
    · have : mp M4 w 11 = some b := by rw [e4, mp_sq, if_neg (fun z => by omega), e3', mp_sq, if_pos ⟨rfl, rfl⟩]; exact e1
      rw [this]
      exact Or.inr ⟨b, R, rfl, rfl, FC.pac hw F4 e3⟩
    · have : mp M4 w 9 = mp M w 9 := by rw [e4, mp_sq, if_neg (fun z => by omega), e3', mp_sq, if_neg (fun z => by omega)]
      rw [this]; exact FC.law hw F4 hl
-- a world of the class is what X says
def wsC (L : Lay) (w : Nat) (M : Mem) (X : WS) : Prop := vwC w M = X.1 ∧ lawC L M (mp M w 9) X.2.1 ∧ lawC L M (mp M w 10) X.2.2.1 ∧ optC L M (mp M w 11) X.2.2.2.1 ∧ optC L M (mp M w 12) X.2.2.2.2 ∧
  (∀ i, tn (X.1 28 0) ≤ i → i < 10 → mi M (oA w i) 8 = 0)
theorem dy_f {S : SS} {held : Bool} {w duty : Int32} {f i : Nat} (h : f = 28 ∨ f = 34) : dyF S held w duty f i = S f i := by
  unfold dyF
  rw [enF_f (by omega) (by omega) (by omega)]
  unfold usF
  rw [u2_f (by omega), u2_f (by omega), u2_f (by omega), saG_f (by omega) (by omega) (by omega) (by omega) (by omega) (by omega) (by omega), ldG_f (by omega) (by omega) (by omega) (by omega) (by omega)]
  exact if_neg (fun q => by omega)
theorem c_zero {L : Lay} {T w : Nat} {wd : Int32} {M : Mem} {Q : Mem → Prop} (hg : gdT T (vwC w M))
    (h : ∀ M', vwC w M' = (fun f i => if f = 108 ∧ i < tn (vwC w M 28 0) then 0 else vwC w M f i) → FJ (PV w) M M' → w_X10_passDay_63 L w wd M' Q) : w_X10_passDay_37 L w wd M Q := by
  unfold w_X10_passDay_37
  have hg' := hg
  obtain ⟨n1, n2, -⟩ := hg'
  generalize hS : vwC w M = S at *
  refine LP2_c0 0 (tn (S 28 0)) (fun i M' => vwC w M' = (fun f j => if f = 108 ∧ j < i then 0 else S f j) ∧ FJ (PV w) M M') rfl (Nat.zero_le _) ⟨by rw [hS]; funext f j; rw [if_neg (by omega)], FJ.rf⟩ ?_
  intro i M1 hi _ ⟨hv, hF⟩ K hK
  have eo : ∀ f j, f ≠ 108 → vwC w M1 f j = S f j := fun f j c => by rw [hv]; exact if_neg (fun q => c q.1)
  unfold w_X10_passDay_39
  rw [rC_28 (w := w), eo 28 0 (by decide)]
  refine ⟨fun hlt => ?_, fun hge => ?_⟩
  · rw [ltN n1 (by omega)] at hlt
    have hi10 : i < 10 := by omega
    rw [tn_nI (by omega)]
    refine ⟨vp_in_nI hi10 (by decide), fun M2 e2 x hx => ?_⟩
    rw [hx, nI_1]
    refine hK hlt M2 ⟨?_, by rw [e2]; exact hF.si (PV_o hi10)⟩
    rw [e2, sC_108 hi10, hv]
    funext f j
    show (if f = 108 ∧ j = i then 0 else if f = 108 ∧ j < i then 0 else S f j) = _
    by_cases c : f = 108
    · by_cases d : j = i
      · rw [if_pos ⟨c, d⟩, if_pos ⟨c, by omega⟩]
      · rw [if_neg (fun q => d q.2)]
        by_cases g : j < i
        · rw [if_pos ⟨c, g⟩, if_pos ⟨c, by omega⟩]
        · rw [if_neg (fun q => g q.2), if_neg (by omega)]
    · rw [if_neg (fun q => c q.1), if_neg (fun q => c q.1), if_neg (fun q => c q.1)]
  · rw [ltN n1 (by omega)] at hge
    have ei : i = tn (S 28 0) := by omega
    subst ei
    exact h M1 hv hF
theorem bgS_f {S : SS} {v iss : Int32} {p : Option Pc} {f i : Nat} (c1 : f ≠ 109) (c2 : f ≠ 108) (c3 : f ≠ 100) : bgS S v iss p f i = S f i := by
  cases p with
  | none =>
    show (if f = 109 then 0 else if f = 108 ∧ i < tn (S 28 0) then 0 else S f i) = S f i
    rw [if_neg c1, if_neg (fun q => c2 q.1)]
  | some P =>
    show (if f = 109 then (if i < tn (S 28 0) then alF S P v (isF S P v iss) i else 0) else if f = 108 ∧ i < tn (S 28 0) then 0 else if f = 100 ∧ i = 0 then isF S P v iss else S f i) = S f i
    rw [if_neg c1, if_neg (fun q => c2 q.1), if_neg (fun q => c3 q.1)]
theorem isF_rng {S : SS} {P : Pc} {v iss : Int32} (hi : iss = -1 ∨ ∃ k, k ≤ 9999 ∧ iss = nI k) : ∃ I, I ≤ 9999 ∧ isF S P v iss = nI I := by
  rw [isF_v]
  unfold vtF
  rcases hi with e | ⟨k, hk, e⟩
  · rw [if_neg (fun q => q e)]; exact liF_rng _
  · rw [if_pos (by rw [e, nI_m1 (by omega)]; exact id)]; exact ⟨k, hk, e⟩
theorem c_pass {L : Lay} {t w : Nat} {wd iss : Int32} {X : WS} {M : Mem} {Q : Mem → Prop} (hw : IsW w) (hX : wsC L w M X) (hg : gdT t X.1) (ht : t < 720) (h93 : X.1 93 0 = nI t) (h14 : mi M w 14 = iss) (hi : iss = -1 ∨ ∃ k, k ≤ 9999 ∧ iss = nI k)
    (h : ∀ M', wsC L w M' (dayF wd iss X) → FC w M M' → mi M' w 14 = iss → Q M') : w_X10_passDay L w wd M Q := by
  have hw36 := hw.lt
  obtain ⟨S, v0, v, p, hd⟩ := X
  obtain ⟨x1, x2, x3, x4, x5, x6⟩ := hX
  have x1 : vwC w M = S := x1
  have hg : gdT t S := hg
  have h93 : S 93 0 = nI t := h93
  unfold w_X10_passDay
  intro M1 e1
  have F1 : FC w M M1 := by rw [e1]; exact FC.sq (by omega)
  have v1 : vwC w M1 = S := by rw [e1, vwC_sq9 (by decide)]; exact x1
  have r9 : mp M1 w 9 = mp M w 10 := by rw [e1, mp_sq, if_pos ⟨rfl, rfl⟩]
  have rk : ∀ k, k ≠ 9 → mp M1 w k = mp M w k := fun k hk => by rw [e1, mp_sq, if_neg (fun q => hk q.2)]
  have L1 : lawC L M1 (mp M1 w 9) v := by rw [r9]; exact FC.law hw F1 x3
  have m14 : mi M1 w 14 = iss := by rw [e1, mi_sq]; exact h14
  obtain ⟨la, y1, y2, y3, y4, y5⟩ := L1
  have hpw : ∀ k, ¬ PV w la k := fun k q => by unfold PV at q; unfold IsW at hw; omega
  -- from the day's own part on
  have day : ∀ (S2 : SS) (p2 : Option Pc) (hd2 : Option Pc) (M2 : Mem), vwC w M2 = S2 → gdT t S2 → S2 93 0 = nI t → tn (S2 28 0) = tn (S 28 0) → FC w M M2 → mp M2 w 9 = some la → mp M2 w 10 = mp M w 10 → optC L M2 (mp M2 w 11) p2 → optC L M2 (mp M2 w 12) hd2 → (∀ i, tn (S 28 0) ≤ i → i < 10 → mi M2 (oA w i) 8 = 0) → mi M2 w 14 = iss →
      (dyF S2 p2.isSome wd v.2, v, v, p2, hd2) = dayF wd iss (S, v0, v, p, hd) → w_X10_passDay_63 L w wd M2 Q := by
    intro S2 p2 hd2 M2 v2 g2 t2 n2 F2 r92 r102 o11 o12 z2 i14 hres
    have hdu : mi M2 la 1 = v.2 := by rw [F2.1 la 1 (fun q => by unfold PG at q; unfold IsW at hw; omega), ← F1.1 la 1 (fun q => by unfold PG at q; unfold IsW at hw; omega)]; exact y5
    have hhs : p2.isSome = (mp M2 w 11).isSome := by
      rcases o11 with ⟨a1, a2⟩ | ⟨a, P, a1, a2, -⟩
      · rw [a1, a2]; rfl
      · rw [a1, a2]; rfl
    refine c_day (t := t) (duty := v.2) (by rw [v2]; exact g2) ht (by rw [v2]; exact t2) r92 y2 hpw hdu p2.isSome hhs (fun M3 v3 F3 => ?_)
    have FC3 := F2.tr (FC.ofV F3)
    refine h M3 ?_ FC3 ?_
    · rw [← hres]
      refine ⟨by rw [v3, v2], ?_, ?_, ?_, ?_, fun i h1 h2 => ?_⟩
      · rw [F3.mp, r92]; exact ⟨la, rfl, y2, y3, by rw [FC3.1 la 0 (fun q => by unfold PG at q; unfold IsW at hw; omega), ← F1.1 la 0 (fun q => by unfold PG at q; unfold IsW at hw; omega)]; exact y4, by rw [F3.gt (hpw _)]; exact hdu⟩
      · rw [F3.mp, r102]; exact FC.law hw FC3 x3
      · rw [F3.mp]; exact FC.opt hw (FC.ofV F3) o11
      · rw [F3.mp]; exact FC.opt hw (FC.ofV F3) o12
      · have h1 : tn (dyF S2 p2.isSome wd v.2 28 0) ≤ i := h1
        rw [dy_f (Or.inl rfl), n2] at h1
        rw [F3.gt (fun q => by unfold PV oA at q; omega)]
        exact z2 i h1 h2
    · rw [F3.gt (fun q => by unfold PV at q; omega)]; exact i14
  have z1 : ∀ i, tn (S 28 0) ≤ i → i < 10 → mi M1 (oA w i) 8 = 0 := fun i h1 h2 => by rw [e1, mi_sq]; exact x6 i h1 h2
  have o11 : optC L M1 (mp M1 w 11) p := by rw [rk 11 (by decide)]; exact FC.opt hw F1 x4
  have o12 : optC L M1 (mp M1 w 12) hd := by rw [rk 12 (by decide)]; exact FC.opt hw F1 x5
  rw [rC_93 (w := w), v1]
  have em : (jrem (S 93 0) 30 = 0) = (t % 30 = 0) := by rw [h93]; exact jrem30 (by omega)
  refine ⟨fun hm => ?_, fun hm => ?_⟩
  · -- the month's first day
    have L1 : lawC L M1 (mp M1 w 9) v := by rw [r9]; exact FC.law hw F1 x3
    refine c_renew hw hg (fun f i _ => by rw [v1]) L1 o11 o12 (fun M3 hcase n12 n9 F13 s3 i3 => ?_)
    rw [m14] at hcase i3
    have F3 := F1.tr F13
    have r93 : mp M3 w 9 = some la := n9.trans y1
    have r103 : mp M3 w 10 = mp M w 10 := by rw [F13.2.1 w 10 (by omega)]; exact rk 10 (by decide)
    have z3 : ∀ i, tn (S 28 0) ≤ i → i < 10 → mi M3 (oA w i) 8 = 0 := fun i h1 h2 => by rw [s3 i h2]; exact z1 i h1 h2
    have dd : ∀ p2, p2 = bgP S v.1 (hdF p hd) → (dyF (bgS S v.1 iss p2) p2.isSome wd v.2, v, v, p2, (none : Option Pc)) = dayF wd iss (S, v0, v, p, hd) := fun p2 e => by
      subst e
      show _ = (if jrem (S 93 0) 30 = 0 then _ else _)
      rw [if_pos hm]
    rcases hcase with ⟨b1, b2, b3⟩ | ⟨a, P, b1, b2, b3, b4, b5⟩
    · rw [b2]
      refine ⟨fun _ => ?_, fun a q => by cases q⟩
      have X3 : eqX (vwC w M3) S := fun f i c _ _ => b3 f i c
      refine c_zero (gd_X X3 hg) (fun M4 v4 F4 => ?_)
      have e28 : vwC w M3 28 0 = S 28 0 := b3 28 0 (by decide)
      have e4 : vwC w M4 = bgS S v.1 iss none := by
        rw [v4, e28]
        funext f i
        show (if f = 108 ∧ i < tn (S 28 0) then 0 else vwC w M3 f i) = if f = 109 then 0 else if f = 108 ∧ i < tn (S 28 0) then 0 else S f i
        by_cases c : f = 109
        · rw [if_pos c, if_neg (fun q => by omega), vwC_def, if_pos c, if_neg (fun q => q.2 b2)]
        · rw [if_neg c, b3 f i c]
      refine day (bgS S v.1 iss none) none none M4 e4 (gd_X (fun f i c1 c2 _ => ?_) hg) ?_ ?_ (F3.tr (FC.ofV F4)) (by rw [F4.mp]; exact r93) (by rw [F4.mp]; exact r103) (by rw [F4.mp]; exact Or.inl ⟨b2, rfl⟩) (by rw [F4.mp]; exact Or.inl ⟨n12, rfl⟩) (fun i h1 h2 => ?_) ?_ (dd none b1.symm)
      · show (if f = 109 then 0 else if f = 108 ∧ i < tn (S 28 0) then 0 else S f i) = S f i
        rw [if_neg c1, if_neg (fun q => c2 q.1)]
      · show (if 93 = 109 then 0 else if 93 = 108 ∧ 0 < tn (S 28 0) then 0 else S 93 0) = nI t
        rw [if_neg (by decide), if_neg (fun q => by omega)]; exact h93
      · show tn (if 28 = 109 then 0 else if 28 = 108 ∧ 0 < tn (S 28 0) then 0 else S 28 0) = _
        rw [if_neg (c := 28 = 109) (by decide), if_neg (c := 28 = 108 ∧ 0 < tn (S 28 0)) (fun q => by omega)]
      · rw [F4.gt (fun q => by unfold PV oA at q; omega)]; exact z3 i h1 h2
      · rw [F4.gt (fun q => by unfold PV at q; omega)]; exact i3
    · rw [b2]
      refine ⟨fun q => (by cases q), fun a5 _ => ?_⟩
      have X3 : eqX (vwC w M3) S := fun f i c _ d => by rw [b4 f i c, u2_f d]
      have g3 := gd_X X3 hg
      have e28 : vwC w M3 28 0 = S 28 0 := by rw [b4 28 0 (by decide), u2_f (by decide)]
      have L3 : lawC L M3 (mp M3 w 9) v := by rw [n9]; exact FC.law hw F13 L1
      refine c_weigh hw g3 b2 b3 L3 (fun j hj => by rw [b5 j hj, gf_cg X3]) (fun M6 v6 F6 w6 => ?_)
      rw [wt_cg X3] at w6 ⊢
      obtain ⟨I, hI1, hI2⟩ := isF_rng (S := S) (P := P) (v := v.1) hi
      have wr : ∀ o, ∃ n, n ≤ 9999 ∧ wtF S P v.1 o = nI n := fun o => wtF_rng
      have hp6 : mp M6 w 11 = some a := by rw [F6.mp]; exact b2
      have hp3' : pacC L M6 a P := FC.pac hw (FC.ofV F6) b3
      have L6 : lawC L M6 (mp M6 w 9) v := by rw [F6.mp]; exact FC.law hw (FC.ofV F6) L3
      have i6 : vwC w M6 100 0 = nI I := by rw [v6, b4 100 0 (by decide), u2_s]; exact hI2
      rw [← v6]
      refine c_divide (W := fun o => tn (wtF S P v.1 o)) (by rw [v6]; exact g3) hp6 hp3' L6 i6 hI1 (by rw [v6]; exact w6) (fun o => by obtain ⟨n, h1, h2⟩ := wr o; rw [h2]; exact ⟨by rw [tn_nI (by omega)], by rw [tn_nI (by omega)]; exact h1⟩) (fun M8 v8 F8 => ?_)
      rw [v6, e28, alG_cg X3, ← hI2, ← alF_G] at v8
      have X8 : eqX (vwC w M8) S := fun f i c1 c2 c3 => by
        rw [v8]
        show (if f = 109 ∧ i < tn (S 28 0) then _ else vwC w M3 f i) = _
        rw [if_neg (fun q => c1 q.1)]; exact X3 f i c1 c2 c3
      refine c_zero (gd_X X8 hg) (fun M4 v4 F4 => ?_)
      have e28' : vwC w M8 28 0 = S 28 0 := X8 28 0 (by decide) (by decide) (by decide)
      have F68 : FC w M M8 := (F3.tr (FC.ofV F6)).tr (FC.ofG F8)
      have e4 : vwC w M4 = bgS S v.1 iss (some P) := by
        rw [v4, e28', v8]
        funext f i
        show (if f = 108 ∧ i < tn (S 28 0) then 0 else if f = 109 ∧ i < tn (S 28 0) then alF S P v.1 (isF S P v.1 iss) i else vwC w M3 f i) =
          if f = 109 then (if i < tn (S 28 0) then alF S P v.1 (isF S P v.1 iss) i else 0) else if f = 108 ∧ i < tn (S 28 0) then 0 else if f = 100 ∧ i = 0 then isF S P v.1 iss else S f i
        by_cases c : f = 109
        · rw [if_pos c, if_neg (c := f = 108 ∧ i < tn (S 28 0)) (fun q => by omega)]
          by_cases d : i < tn (S 28 0)
          · rw [if_pos ⟨c, d⟩, if_pos d]
          · rw [if_neg (fun q => d q.2), if_neg d, c]
            by_cases g : i < 10
            · rw [← rC_109 b2 g]; exact z3 i (by omega) g
            · rw [vwC_def, if_pos rfl, if_neg (fun q => g q.1)]
        · rw [if_neg c, if_neg (c := f = 109 ∧ i < tn (S 28 0)) (fun q => c q.1), b4 f i c, u2_def]
      refine day (bgS S v.1 iss (some P)) (some P) none M4 e4 (gd_X (fun f i c1 c2 c3 => ?_) hg) ?_ ?_ (F68.tr (FC.ofV F4)) (by rw [F4.mp, F8.mp, F6.mp]; exact r93) (by rw [F4.mp, F8.mp, F6.mp]; exact r103) ?_ (by rw [F4.mp, F8.mp, F6.mp]; exact Or.inl ⟨n12, rfl⟩) (fun i h1 h2 => ?_) ?_ (dd (some P) b1.symm)
      · exact bgS_f c1 c2 c3
      · rw [bgS_f (by decide) (by decide) (by decide)]; exact h93
      · rw [bgS_f (by decide) (by decide) (by decide)]
      · rw [F4.mp, F8.mp, F6.mp]
        exact Or.inr ⟨a, P, b2, rfl, FC.pac hw (FC.ofV F4) (FC.pac hw (FC.ofG F8) hp3')⟩
      · rw [F4.gt (fun q => by unfold PV oA at q; omega)]
        have hp8 : mp M8 w 11 = some a := by rw [F8.mp]; exact hp6
        rw [rC_109 hp8 h2, v8]
        show (if 109 = 109 ∧ i < tn (S 28 0) then _ else vwC w M3 109 i) = 0
        rw [if_neg (fun q => by omega), ← rC_109 b2 h2]; exact z3 i h1 h2
      · rw [F4.gt (fun q => by unfold PV at q; omega), F8.gt (fun q => by unfold PG at q; omega), F6.gt (fun q => by unfold PV at q; omega)]; exact i3
  · refine day S p hd M1 v1 hg h93 rfl F1 (by rw [r9]; rw [r9] at y1; exact y1) (rk 10 (by decide)) o11 o12 z1 m14 ?_
    show _ = (if jrem (S 93 0) 30 = 0 then _ else _)
    rw [if_neg hm]
