-- LEVEL 3, part 23: the reference's trial: world 1 is a copy of world 0, breakers aside
def btF (set : Int32) (i : Nat) : Int32 := if (jshr set (nI i) &&& 1) = 1 then 1 else 0
def bkF (S : SS) (set : Int32) : SS := fun f i => if f = 111 ∧ i < 10 then btF set i else S f i
def bkX (X : WS) (set : Int32) : WS := (bkF X.1 set, X.2)
theorem bkF_f {S : SS} {set : Int32} {f i : Nat} (h : f ≠ 111) : bkF S set f i = S f i := if_neg (fun q => h q.1)
theorem btF_B {set : Int32} {i : Nat} : BZ (btF set i) := by
  unfold btF
  split
  · exact Or.inr rfl
  · exact Or.inl rfl
theorem narZ_B {x : Int32} (h : BZ x) : narZ x = x := by rcases h with rfl | rfl <;> decide
theorem ok_bk {t : Nat} {X : WS} {set : Int32} (h : okX t X) : okX t (bkX X set) := by
  obtain ⟨hg, h2, h3⟩ := h
  refine ⟨?_, (bkF_f (set := set) (by decide)).trans h2, fun i => by show ¬ bkF X.1 set 109 i < 0; rw [bkF_f (by decide)]; exact h3 i⟩
  show gdT t (bkF X.1 set)
  obtain ⟨g1, g2, g3, g4, g5, g6, g7, g8, g9, ga, gb, gc⟩ := hg
  unfold gdT
  rw [bkF_f (f := 28) (by decide), bkF_f (f := 34) (by decide), bkF_f (f := 93) (by decide), bkF_f (f := 94) (by decide), bkF_f (f := 95) (by decide)]
  refine ⟨g1, g2, g3, g4, g5, g6, g7, g8, g9, ga, fun k hk => ?_, fun o ho => ?_⟩
  · have := gb k hk
    unfold shG at *
    rw [bkF_f (f := 113) (by decide), bkF_f (f := 125) (by decide), bkF_f (f := 115) (by decide), bkF_f (f := 28) (by decide)]
    refine ⟨this.1, this.2.1, this.2.2.1, this.2.2.2.1, this.2.2.2.2.1, this.2.2.2.2.2.1, fun i hi => ?_⟩
    rw [bkF_f (f := 116) (by decide)]
    exact this.2.2.2.2.2.2 i hi
  · have := gc o ho
    rw [bkF_f (f := 120) (by decide), bkF_f (f := 121) (by decide)]
    refine ⟨this.1, this.2.1, ?_⟩
    show BZ (if 111 = 111 ∧ o < 10 then btF set o else X.1 111 o)
    rw [if_pos ⟨rfl, ho⟩]; exact btF_B
def c14 (M0 M : Mem) (n : Nat) : Prop := (∀ a, 93 ≤ a → a < n → mi M a 1 = mi M0 a 0) ∧ FJ (fun a k => 93 ≤ a ∧ a < n ∧ k = 1) M0 M
theorem c14_s {M0 M M' : Mem} {n : Nat} (h : c14 M0 M n) (hn : 93 ≤ n) (e : M' = si M n 1 (mi M n 0)) : c14 M0 M' (n + 1) := by
  refine ⟨fun a h1 h2 => ?_, ?_⟩
  · rw [e, mi_si]
    by_cases q : a = n
    · rw [if_pos ⟨q, rfl⟩, q]; exact h.2.1 n 0 (by omega)
    · rw [if_neg (fun z => q z.1)]; exact h.1 a h1 (by omega)
  · rw [e]
    refine (h.2.mono (fun a k q => ?_)).si ?_ <;> omega
def cpW (M0 : Mem) (set : Int32) (M : Mem) : Prop := (∀ a, 93 ≤ a → a < 107 → mi M a 1 = mi M0 a 0) ∧ (∀ a i, 107 ≤ a → a < 111 → i < 10 → mi M a (10 + i) = mi M0 a i) ∧ (∀ i, i < 10 → mi M 111 (10 + i) = btF set i) ∧
  (∀ a i, 112 ≤ a → a < 116 → i < 8 → mi M a (8 + i) = mi M0 a i) ∧ (∀ i, i < 96 → mi M 116 (96 + i) = mi M0 116 i) ∧ (∀ a i, a = 117 ∨ a = 118 → i < 240 → mi M a (240 + i) = mi M0 a i) ∧ (∀ i, i < 721 → mi M 119 (721 + i) = mi M0 119 i)
theorem hb_all' {f g : Nat → Int32} : ∀ d, (∀ j, j ≤ d → f j = g j) → hbF f d = hbF g d := by
  intro d
  induction d with
  | zero => intro _; rfl
  | succ d ih => intro h; unfold hbF; rw [ih (fun j hj => h j (by omega)), h (d + 1) (by omega)]
theorem cpW_v {M0 M : Mem} {set : Int32} (h : cpW M0 set M) (hF : FJ PT M0 M) (ht : tn (mi M0 93 0) ≤ 720) : vwM 1 M = bkF (vwM 0 M0) set := by
  obtain ⟨h1, h2, h3, h4, h5, h6, h7⟩ := h
  funext f i
  show _ = if f = 111 ∧ i < 10 then btF set i else vwM 0 M0 f i
  rw [vwM_def, vwM_def, h1 93 (by omega) (by omega), h1 99 (by omega) (by omega)]
  by_cases c1 : f = 109
  · rw [if_pos c1, if_neg (c := f = 111 ∧ i < 10) (fun q => by omega), if_pos c1]
    by_cases q : i < 10 ∧ ¬ mi M0 99 0 < 0
    · rw [if_pos q, if_pos q, show 10 * 1 + i = 10 + i from by omega, show 10 * 0 + i = i from by omega]; exact h2 109 i (by omega) (by omega) q.1
    · rw [if_neg q, if_neg q]
  by_cases c2 : f = 117
  · rw [if_neg c1, if_pos c2, if_neg (c := f = 111 ∧ i < 10) (fun q => by omega), if_neg c1, if_pos c2]
    by_cases q : i < 10 ∧ ¬ tn (mi M0 93 0) / 30 = 0
    · rw [if_pos q, if_pos q, show 240 * 1 + 10 * (tn (mi M0 93 0) / 30 - 1) + i = 240 + (240 * 0 + 10 * (tn (mi M0 93 0) / 30 - 1) + i) from by omega]; exact h6 117 _ (Or.inl rfl) (by omega)
    · rw [if_neg q, if_neg q]
  by_cases c3 : f = 118
  · rw [if_neg c1, if_neg c2, if_pos c3, if_neg (c := f = 111 ∧ i < 10) (fun q => by omega), if_neg c1, if_neg c2, if_pos c3]
    by_cases q : i < 10 ∧ ¬ tn (mi M0 93 0) / 30 = 0
    · rw [if_pos q, if_pos q, show 240 * 1 + 10 * (tn (mi M0 93 0) / 30 - 1) + i = 240 + (240 * 0 + 10 * (tn (mi M0 93 0) / 30 - 1) + i) from by omega, h6 118 _ (Or.inr rfl) (by omega)]
    · rw [if_neg q, if_neg q]
  by_cases c4 : f = 119
  · rw [if_neg c1, if_neg c2, if_neg c3, if_pos c4, if_neg (c := f = 111 ∧ i < 10) (fun q => by omega), if_neg c1, if_neg c2, if_neg c3, if_pos c4]
    by_cases q : i = 0
    · rw [if_pos q, if_pos q]
      exact hb_all' _ (fun j hj => by
        show mi M 119 (721 * 1 + j) = mi M0 119 (721 * 0 + j)
        rw [show 721 * 1 + j = 721 + j from by omega, show 721 * 0 + j = j from by omega]; exact h7 j (by omega))
    · rw [if_neg q, if_neg q]
  rw [if_neg c1, if_neg c2, if_neg c3, if_neg c4, if_neg c1, if_neg c2, if_neg c3, if_neg c4]
  by_cases hi : i < rg f
  · rw [if_pos hi, if_pos hi]
    have k := rg_kd hi
    have b := kd_lt k
    by_cases c5 : f = 28 ∨ f = 34
    · rw [if_neg (c := f = 111 ∧ i < 10) (fun q => by omega)]
      have e1 : mA f = 92 := by unfold mA; rw [if_pos c5]
      have e2 : mO 1 f = mO 0 f := by rcases c5 with q | q <;> (rw [q]; rfl)
      have e3 : mO 0 f + i = 28 ∨ mO 0 f + i = 34 := by
        rcases c5 with q | q <;> subst q
        · have : i < 1 := hi
          have : mO 0 28 = 28 := rfl
          omega
        · have : i < 1 := hi
          have : mO 0 34 = 34 := rfl
          omega
      rw [e1, e2]; exact hF.1 92 _ (by unfold PT; omega)
    · have e1 : mA f = f := by unfold mA; rw [if_neg c5]
      rw [e1]
      have kk : kd f = 0 ∨ kd f = 1 ∨ kd f = 2 ∨ kd f = 3 ∨ kd f = 4 := by omega
      have m0 : ∀ s, mO s f = match kd f with
          | 0 => s | 1 => s | 2 => (if 120 ≤ f then 0 else 10 * s) | 3 => (if 120 ≤ f then 0 else 8 * s) | 4 => 96 * s | _ => 0 := fun s => by
        unfold mO; rw [if_neg (fun q => c5 (Or.inl q)), if_neg (fun q => c5 (Or.inr q))]; rfl
      have r0 : rg f = rgk (kd f) := rfl
      have one : ∀ z, (kd f = 0 ∨ kd f = 1) → z = i → (if f = 111 ∧ i < 10 then btF set i else mi M0 f (0 + z)) = mi M f (1 + z) := fun z q ez => by
        have := kR0 f b (by omega)
        have hi1 : i < 1 := by rcases q with q | q <;> (rw [r0, q] at hi; exact hi)
        rw [if_neg (fun z => by omega), show 1 + z = 1 from by omega, show 0 + z = 0 from by omega]
        exact (h1 f (by omega) (by omega)).symm
      rw [m0, m0]
      rcases kk with q | q | q | q | q
      · rw [q]; exact (one i (Or.inl q) rfl).symm
      · rw [q]; exact (one i (Or.inr q) rfl).symm
      · have := kR2 f b q
        have hi10 : i < 10 := by rw [r0, q] at hi; exact hi
        rw [q]
        show mi M f ((if 120 ≤ f then 0 else 10 * 1) + i) = if f = 111 ∧ i < 10 then btF set i else mi M0 f ((if 120 ≤ f then 0 else 10 * 0) + i)
        by_cases d : 120 ≤ f
        · rw [if_pos d, if_pos d, if_neg (fun z => by omega)]; exact hF.1 f _ (by unfold PT; omega)
        · rw [if_neg d, if_neg d, show 10 * 1 + i = 10 + i from by omega, show 10 * 0 + i = i from by omega]
          by_cases d2 : f = 111
          · rw [if_pos ⟨d2, hi10⟩, d2]; exact h3 i hi10
          · rw [if_neg (fun z => d2 z.1)]; exact h2 f i (by omega) (by omega) hi10
      · have := kR3 f b q
        have hi8 : i < 8 := by rw [r0, q] at hi; exact hi
        rw [q, if_neg (c := f = 111 ∧ i < 10) (fun z => by omega)]
        show mi M f ((if 120 ≤ f then 0 else 8 * 1) + i) = mi M0 f ((if 120 ≤ f then 0 else 8 * 0) + i)
        by_cases d : 120 ≤ f
        · rw [if_pos d, if_pos d]; exact hF.1 f _ (by unfold PT; omega)
        · rw [if_neg d, if_neg d, show 8 * 1 + i = 8 + i from by omega, show 8 * 0 + i = i from by omega]
          exact h4 f i (by omega) (by omega) hi8
      · have := kR4 f b q
        have hi9 : i < 96 := by rw [r0, q] at hi; exact hi
        rw [q, if_neg (c := f = 111 ∧ i < 10) (fun z => by omega)]
        show mi M f (96 * 1 + i) = mi M0 f (96 * 0 + i)
        rw [show 96 * 1 + i = 96 + i from by omega, show 96 * 0 + i = i from by omega, this]
        exact h5 i hi9
  · rw [if_neg hi, if_neg hi, if_neg]
    rintro ⟨q, z⟩
    subst q
    exact hi z
theorem cpW_x {M0 M : Mem} {set : Int32} {X : WS} (h : cpW M0 set M) (hF : FJ PT M0 M) (hX : wsM 0 M0 X) (ht : tn (mi M0 93 0) ≤ 720) : wsM 1 M (bkX X set) := by
  have hv := cpW_v h hF ht
  obtain ⟨h1, h2, h3, h4, h5, h6, h7⟩ := h
  obtain ⟨x1, x2, x3, x4, x5, x6, x7, x8, x9, x10, x11⟩ := hX
  refine ⟨by rw [hv, x1]; rfl, (h1 103 (by omega) (by omega)).trans x2, (h1 104 (by omega) (by omega)).trans x3, x4, x5, ?_, ?_, ?_, fun d hd => ?_, fun j i a b c => ?_, fun i a b => ?_⟩
  · rw [h1 102 (by omega) (by omega), hF.1 92 40 (by unfold PT; omega), hF.1 92 41 (by unfold PT; omega)]; exact x6
  · rw [h1 99 (by omega) (by omega)]; exact opM_cg (fun a k _ _ => hF.1 a k (by unfold PT; omega)) x7
  · unfold hdM
    rw [h1 101 (by omega) (by omega)]
    rcases x8 with q | ⟨q, P, q2, q3⟩
    · exact Or.inl q
    · exact Or.inr ⟨q, P, q2, pacM_cg (fun a k z => hF.1 a k (by unfold slM at z; unfold PT; omega)) q3⟩
  · have := x9 d hd
    rw [show 721 * 0 + d = d from by omega] at this
    rw [show 721 * 1 + d = 721 + d from by omega, h7 d (by omega)]; exact this
  · rw [hF.1 92 28 (by unfold PT; omega)] at b
    have := x10 j i a b c
    rw [show 240 * 0 + 10 * j + i = 10 * j + i from by omega] at this
    rw [show 240 * 1 + 10 * j + i = 240 + (10 * j + i) from by omega, h6 117 _ (Or.inl rfl) (by omega), h6 118 _ (Or.inr rfl) (by omega)]; exact this
  · have a : tn (bkF X.1 set 28 0) ≤ i := a
    rw [bkF_f (by decide)] at a
    have := x11 i a b
    rw [show 10 * 0 + i = i from by omega] at this
    rw [show 10 * 1 + i = 10 + i from by omega, h2 109 i (by omega) (by omega) b]; exact this
