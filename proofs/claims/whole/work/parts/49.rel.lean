-- LEVEL 3, part 33: class and reference side by side: what holds between them after every call
def WN (M : Mem) : Prop := ∃ n, n ≤ 720 ∧ mi M 0 7 = nI n ∧ mi M 92 37 = nI n ∧ (∀ d, d < n → mi M 90 d = mi M 127 (d + 1)) ∧ ∀ d, n < d → d ≤ 720 → mi M 127 d = 0
def TP (M : Mem) : Prop := ∃ n, n ≤ 1000 ∧ mi M 71 1 = nI n ∧ mi M 92 42 = nI n ∧ ∀ i, i < n → mi M 72 i = mi M 129 i ∧ ∃ c, (c = 10 ∨ (32 ≤ c ∧ c ≤ 126)) ∧ mi M 129 i = nI c
def moP (L : Lay) (M : Mem) (t m : Nat) : Prop := (mp M 76 m = none ∧ mi M 128 m = -1) ∨ (m < t / 30 ∧ ∃ a q P, mp M 76 m = some a ∧ mi M 128 m = nI q ∧ q ≤ m ∧ pacC L M a P ∧ pacM M q P)
def MO (L : Lay) (M : Mem) (t : Nat) : Prop := (∀ k, k < 240 → mi M 77 k = mi M 117 k ∧ mi M 78 k = jmax 0 (mi M 118 k) ∧ mi M 79 k = mi M 154 k ∧ BZ (mi M 154 k)) ∧ ∀ m, m < 24 → moP L M t m
def reK (M : Mem) (k : Nat) : Prop := (∃ o m, o < 10 ∧ m < 24 ∧ mi M 81 k = nI (10 * m + o) ∧ mi M 149 k = nI o ∧ mi M 150 k = nI m) ∧ mi M 82 k = mi M 153 k ∧ mi M 83 k = mi M 151 k ∧ mi M 84 k = mi M 152 k ∧ ¬ mi M 151 k < 0 ∧ ¬ mi M 152 k < 0
def RE (M : Mem) : Prop := ∃ n, n ≤ 200 ∧ mi M 80 0 = nI n ∧ mi M 92 73 = nI n ∧ ∀ k, k < n → reK M k
def saK (n : Nat) (M : Mem) (i : Nat) : Prop := mi M 86 i = mi M 155 i ∧ mi M 87 i = mi M 156 i ∧ mi M 88 i = mi M 157 i ∧ (∃ s, 0 < s ∧ s < 2 ^ n ∧ mi M 155 i = nI s) ∧ (∃ d, 1 ≤ d ∧ d ≤ 9999 ∧ mi M 156 i = nI d) ∧ ∃ d, 1 ≤ d ∧ d ≤ 9999 ∧ mi M 157 i = nI d
def SA (n : Nat) (M : Mem) : Prop := ∃ k, k ≤ 60 ∧ mi M 85 0 = nI k ∧ mi M 92 80 = nI k ∧ ∀ i, i < k → saK n M i
def HB (M : Mem) (t : Nat) : Prop := mi M 99 0 = -1 ∨ ∃ q, mi M 99 0 = nI q ∧ 30 * q < t
def lfK (S : SS) (k : Nat) : Prop := ((S 112 k = 0 ∨ S 112 k = 2) ∧ S 114 k = 0) ∨ ((S 112 k = 1 ∨ S 112 k = 3) ∧ (S 114 k = 1 ∨ S 114 k = 2 ∨ S 114 k = 3))
def lfX (S : SS) : Prop := ∀ k, k < 8 → lfK S k
def pOK (o : Option Pc) : Prop := ∀ P, o = some P → P.2.2.2 = -1 ∨ ¬ P.2.2.2 < 0
def pkX (Y : (Int32 × Int32) × (Int32 × Int32) × Option Pc × Option Pc) : Prop := pOK Y.2.2.1 ∧ pOK Y.2.2.2
def CR (L : Lay) (M : Mem) (t : Nat) (X : WS) : Prop := t ≤ 720 ∧ wsC L 1 M X ∧ wsM 0 M X ∧ okX t X ∧ zrX X.1 ∧ z36 (tn (X.1 28 0)) (tn (X.1 34 0)) M ∧ mi M 1 14 = -1 ∧ HB M t ∧ lfX X.1 ∧ pkX X.2
def RT (L : Lay) (M : Mem) (t n : Nat) : Prop := WN M ∧ TP M ∧ MO L M t ∧ RE M ∧ SA n M
def RX (L : Lay) (M : Mem) (t : Nat) (X : WS) : Prop := CR L M t X ∧ RT L M t (tn (X.1 28 0))
def RR (L : Lay) (M : Mem) : Prop := ∃ t X, RX L M t X
-- the places that each part reads
def PCr (a k : Nat) : Prop := (1 ≤ a ∧ a < 71) ∨ (a = 92 ∧ (k = 28 ∨ k = 34 ∨ k = 40 ∨ k = 41)) ∨ (93 ≤ a ∧ a < 127) ∨ (130 ≤ a ∧ a < 136) ∨ 159 ≤ a
def PWn (a k : Nat) : Prop := a = 0 ∨ a = 90 ∨ (a = 92 ∧ k = 37) ∨ a = 127
def PTp (a k : Nat) : Prop := (a = 71 ∧ k = 1) ∨ a = 72 ∨ (a = 92 ∧ k = 42) ∨ a = 129
def PMo (a k : Nat) : Prop := (77 ≤ a ∧ a ≤ 79) ∨ ((a = 117 ∨ a = 118) ∧ k < 240) ∨ a = 128 ∨ (130 ≤ a ∧ a < 136) ∨ a = 154 ∨ 159 ≤ a
def PRe (a k : Nat) : Prop := (a = 80 ∧ k = 0) ∨ (81 ≤ a ∧ a ≤ 84) ∨ (a = 92 ∧ k = 73) ∨ (149 ≤ a ∧ a ≤ 153)
def PSa (a k : Nat) : Prop := (85 ≤ a ∧ a ≤ 88) ∨ (a = 92 ∧ k = 80) ∨ (155 ≤ a ∧ a ≤ 157)
def PRt (a k : Nat) : Prop := a = 0 ∨ (a = 71 ∧ k = 1) ∨ a = 72 ∨ (77 ≤ a ∧ a ≤ 79) ∨ (a = 80 ∧ k = 0) ∨ (81 ≤ a ∧ a ≤ 88) ∨ a = 90 ∨ (a = 92 ∧ (k = 37 ∨ k = 42 ∨ k = 73 ∨ k = 80)) ∨ ((a = 117 ∨ a = 118) ∧ k < 240) ∨ (127 ≤ a ∧ a < 136) ∨ (149 ≤ a ∧ a < 158) ∨ 159 ≤ a
theorem vwC_eq {w : Nat} {M M' : Mem} (h : ∀ a k, w ≤ a → a < w + 35 → mi M' a k = mi M a k) (h2 : mp M' w 11 = mp M w 11) : vwC w M' = vwC w M := by
  funext f i
  rw [vwC_def, vwC_def, h2]
  by_cases c : f = 109
  · rw [if_pos c, if_pos c]
    by_cases q : i < 10 ∧ mp M w 11 ≠ none
    · rw [if_pos q, if_pos q]; exact h _ _ (by unfold oA; omega) (by unfold oA; omega)
    · rw [if_neg q, if_neg q]
  · rw [if_neg c, if_neg c]
    by_cases q : i < rg f
    · rw [if_pos q, if_pos q]
      have := cA_rng (w := w) q
      exact h _ _ this.1 this.2
    · rw [if_neg q, if_neg q]
-- a world of the class whose numbers changed
theorem wsC_to {L : Lay} {M M' : Mem} {X X' : WS} (h : wsC L 1 M X) (h2 : X'.2 = X.2) (hv : vwC 1 M' = X'.1) (hi : ∀ a k, (a = 5 ∨ a = 40 ∨ 159 ≤ a) → mi M' a k = mi M a k) (hp : ∀ a k, (a = 1 ∨ 159 ≤ a) → mp M' a k = mp M a k)
    (h8 : ∀ i, tn (X'.1 28 0) ≤ i → i < 10 → mi M' (oA 1 i) 8 = 0) : wsC L 1 M' X' := by
  obtain ⟨x1, x2, x3, x4, x5, x6⟩ := h
  have row : ∀ b, (b = 5 ∨ b = 40 ∨ 159 ≤ b) → M'.1 b = M.1 b := fun b q => funext fun k => hi b k q
  have rowp : ∀ b, 159 ≤ b → M'.2.1 b = M.2.1 b := fun b q => funext fun k => hp b k (Or.inr q)
  refine ⟨hv, ?_, ?_, ?_, ?_, h8⟩
  · rw [hp 1 9 (Or.inl rfl), h2]; exact lawC_cg (fun b hb _ => row b hb) x2
  · rw [hp 1 10 (Or.inl rfl), h2]; exact lawC_cg (fun b hb _ => row b hb) x3
  · rw [hp 1 11 (Or.inl rfl), h2]; exact optC_cg (fun b hb _ => row b (Or.inr (Or.inr hb))) (fun b hb _ => rowp b hb) x4
  · rw [hp 1 12 (Or.inl rfl), h2]; exact optC_cg (fun b hb _ => row b (Or.inr (Or.inr hb))) (fun b hb _ => rowp b hb) x5
-- a world of the reference whose numbers changed
theorem hdM_cg {s : Nat} {M M' : Mem} {p : Option Pc} (h : ∀ a k, 130 ≤ a → a < 136 → mi M' a k = mi M a k) (h1 : mi M' 101 s = mi M 101 s) (ho : hdM s M p) : hdM s M' p := by
  unfold hdM at *
  rw [h1]
  rcases ho with q | ⟨q, P, e, hP⟩
  · exact Or.inl q
  · exact Or.inr ⟨q, P, e, pacM_cg (fun a j z => h a j (by unfold slM at z; omega) (by unfold slM at z; omega)) hP⟩
theorem wsM_to {M M' : Mem} {X X' : WS} (h : wsM 0 M X) (h2 : X'.2 = X.2) (hv : vwM 0 M' = X'.1)
    (hi : ∀ a k, ((a = 92 ∧ (k = 40 ∨ k = 41)) ∨ (99 ≤ a ∧ a < 105 ∧ a ≠ 100) ∨ a = 117 ∨ a = 118 ∨ a = 119 ∨ (130 ≤ a ∧ a < 136)) → mi M' a k = mi M a k) (h28 : tn (mi M 92 28) ≤ tn (mi M' 92 28))
    (h8 : ∀ i, tn (X'.1 28 0) ≤ i → i < 10 → mi M' 109 (10 * 0 + i) = 0) : wsM 0 M' X' := by
  obtain ⟨x1, x2, x3, x4, x5, x6, x7, x8, x9, xa, xb⟩ := h
  refine ⟨hv, ?_, ?_, ?_, ?_, ?_, ?_, ?_, fun d hd => ?_, fun j i hj h1 h3 => ?_, h8⟩
  · rw [h2, hi 103 _ (by omega)]; exact x2
  · rw [h2, hi 104 _ (by omega)]; exact x3
  · rw [h2]; exact x4
  · rw [h2]; exact x5
  · rw [h2, hi 102 _ (by omega), hi 92 40 (by omega), hi 92 41 (by omega)]; exact x6
  · rw [h2, hi 99 _ (by omega)]; exact opM_cg (fun a k q1 q2 => hi a k (by omega)) x7
  · rw [h2]; exact hdM_cg (fun a k q1 q2 => hi a k (by omega)) (hi 101 _ (by omega)) x8
  · rw [hi 119 _ (by omega)]; exact x9 d hd
  · rw [hi 117 _ (by omega), hi 118 _ (by omega)]; exact xa j i hj (by omega) h3
theorem z36_to {n k n' k' : Nat} {M M' : Mem} (h : z36 n k M) (hn : n ≤ n') (hk : k ≤ k') (hi : ∀ a j, 36 ≤ a → a < 71 → mi M' a j = mi M a j) : z36 n' k' M' := by
  intro f i h1 h2
  have := cA_rng (w := 36) h2
  rw [hi _ _ this.1 (by omega)]
  exact h f i (by unfold tlS at *; omega) h2
theorem CR_cg {L : Lay} {M M' : Mem} {t : Nat} {X : WS} (h : CR L M t X) (hi : ∀ a k, PCr a k → mi M' a k = mi M a k) (hp : ∀ a k, a ≠ 76 → mp M' a k = mp M a k) : CR L M' t X := by
  obtain ⟨h1, h2, h3, h4, h5, h6, h7, h8, h9⟩ := h
  have i92 : ∀ k, (k = 28 ∨ k = 34 ∨ k = 40 ∨ k = 41) → mi M' 92 k = mi M 92 k := fun k q => hi _ _ (by unfold PCr; omega)
  refine ⟨h1, ?_, ?_, h4, h5, ?_, ?_, ?_, h9⟩
  · refine wsC_to h2 rfl ?_ (fun a k q => hi _ _ (by unfold PCr; omega)) (fun a k q => hp _ _ (by omega)) (fun i q1 q2 => ?_)
    · rw [vwC_eq (fun a k q1 q2 => hi _ _ (by unfold PCr; omega)) (hp _ _ (by decide))]; exact h2.1
    · rw [hi _ _ (by unfold PCr oA; omega)]; exact h2.2.2.2.2.2 i q1 q2
  · refine wsM_to h3 rfl ?_ (fun a k q => hi _ _ (by unfold PCr; omega)) (by rw [i92 28 (by simp)]; exact Nat.le_refl _) (fun i q1 q2 => ?_)
    · rw [vwM_cg (fun a k q1 q2 q3 _ _ _ _ _ _ _ _ _ _ _ => hi _ _ (by unfold PCr; omega))]; exact h3.1
    · rw [hi _ _ (by unfold PCr; omega)]; exact h3.2.2.2.2.2.2.2.2.2.2 i q1 q2
  · exact z36_to h6 (Nat.le_refl _) (Nat.le_refl _) (fun a j q1 q2 => hi _ _ (by unfold PCr; omega))
  · rw [hi _ _ (by unfold PCr; omega)]; exact h7
  · unfold HB; rw [hi _ _ (by unfold PCr; omega)]; exact h8
-- the rest
theorem WN_cg {M M' : Mem} (h : WN M) (hi : ∀ a k, PWn a k → mi M' a k = mi M a k) : WN M' := by
  obtain ⟨n, h1, h2, h3, h4, h5⟩ := h
  refine ⟨n, h1, ?_, ?_, fun d hd => ?_, fun d d1 d2 => ?_⟩
  · rw [hi _ _ (by unfold PWn; omega)]; exact h2
  · rw [hi _ _ (by unfold PWn; omega)]; exact h3
  · rw [hi 90 _ (by unfold PWn; omega), hi 127 _ (by unfold PWn; omega)]; exact h4 d hd
  · rw [hi _ _ (by unfold PWn; omega)]; exact h5 d d1 d2
theorem TP_cg {M M' : Mem} (h : TP M) (hi : ∀ a k, PTp a k → mi M' a k = mi M a k) : TP M' := by
  obtain ⟨n, h1, h2, h3, h4⟩ := h
  refine ⟨n, h1, ?_, ?_, fun d hd => ?_⟩
  · rw [hi _ _ (by unfold PTp; omega)]; exact h2
  · rw [hi _ _ (by unfold PTp; omega)]; exact h3
  · rw [hi 72 _ (by unfold PTp; omega), hi 129 _ (by unfold PTp; omega)]; exact h4 d hd
theorem RE_cg {M M' : Mem} (h : RE M) (hi : ∀ a k, PRe a k → mi M' a k = mi M a k) : RE M' := by
  obtain ⟨n, h1, h2, h3, h4⟩ := h
  refine ⟨n, h1, ?_, ?_, fun d hd => ?_⟩
  · rw [hi _ _ (by unfold PRe; omega)]; exact h2
  · rw [hi _ _ (by unfold PRe; omega)]; exact h3
  · have := h4 d hd
    unfold reK at *
    rw [hi 81 _ (by unfold PRe; omega), hi 82 _ (by unfold PRe; omega), hi 83 _ (by unfold PRe; omega), hi 84 _ (by unfold PRe; omega), hi 149 _ (by unfold PRe; omega), hi 150 _ (by unfold PRe; omega), hi 151 _ (by unfold PRe; omega), hi 152 _ (by unfold PRe; omega), hi 153 _ (by unfold PRe; omega)]
    exact this
theorem saK_n {n n' i : Nat} {M : Mem} (h : saK n M i) (hn : n ≤ n') : saK n' M i := by
  obtain ⟨a, b, c, ⟨s, s1, s2, s3⟩, d⟩ := h
  exact ⟨a, b, c, ⟨s, s1, Nat.lt_of_lt_of_le s2 (Nat.pow_le_pow_right (by decide) hn), s3⟩, d⟩
theorem SA_cg {n n' : Nat} {M M' : Mem} (h : SA n M) (hn : n ≤ n') (hi : ∀ a k, PSa a k → mi M' a k = mi M a k) : SA n' M' := by
  obtain ⟨k, h1, h2, h3, h4⟩ := h
  refine ⟨k, h1, ?_, ?_, fun d hd => ?_⟩
  · rw [hi _ _ (by unfold PSa; omega)]; exact h2
  · rw [hi _ _ (by unfold PSa; omega)]; exact h3
  · have := saK_n (h4 d hd) hn
    unfold saK at *
    rw [hi 86 _ (by unfold PSa; omega), hi 87 _ (by unfold PSa; omega), hi 88 _ (by unfold PSa; omega), hi 155 _ (by unfold PSa; omega), hi 156 _ (by unfold PSa; omega), hi 157 _ (by unfold PSa; omega)]
    exact this
theorem moP_cg {L : Lay} {M M' : Mem} {t t' m : Nat} (h : moP L M t m) (ht : t / 30 ≤ t' / 30) (h76 : mp M' 76 m = mp M 76 m) (h128 : mi M' 128 m = mi M 128 m) (hi : ∀ a k, 159 ≤ a → mi M' a k = mi M a k) (hp : ∀ a k, 159 ≤ a → mp M' a k = mp M a k)
    (hs : ∀ q a k, q ≤ m → q < t / 30 → slM q a k → mi M' a k = mi M a k) : moP L M' t' m := by
  rcases h with ⟨a, b⟩ | ⟨hm, a, q, P, e1, e2, e3, e4, e5⟩
  · exact Or.inl ⟨h76.trans a, h128.trans b⟩
  · exact Or.inr ⟨by omega, a, q, P, h76.trans e1, h128.trans e2, e3, pacC_cg (fun b hb _ => funext fun k => hi b k hb) (fun b hb _ => funext fun k => hp b k hb) e4, pacM_cg (fun b j z => hs q b j e3 (by omega) z) e5⟩
theorem MO_cg {L : Lay} {M M' : Mem} {t : Nat} (h : MO L M t) (hi : ∀ a k, PMo a k → mi M' a k = mi M a k) (hp : ∀ a k, a = 76 ∨ 159 ≤ a → mp M' a k = mp M a k) : MO L M' t := by
  obtain ⟨h1, h2⟩ := h
  refine ⟨fun k hk => ?_, fun m hm => ?_⟩
  · rw [hi 77 _ (by unfold PMo; omega), hi 117 _ (by unfold PMo; omega), hi 78 _ (by unfold PMo; omega), hi 118 _ (by unfold PMo; omega), hi 79 _ (by unfold PMo; omega), hi 154 _ (by unfold PMo; omega)]; exact h1 k hk
  · exact moP_cg (h2 m hm) (Nat.le_refl _) (hp _ _ (Or.inl rfl)) (hi _ _ (by unfold PMo; omega)) (fun a k q => hi _ _ (by unfold PMo; omega)) (fun a k q => hp _ _ (Or.inr q)) (fun q a k _ _ z => hi _ _ (by unfold slM at z; unfold PMo; omega))
theorem RT_cg {L : Lay} {M M' : Mem} {t n n' : Nat} (h : RT L M t n) (hn : n ≤ n') (hi : ∀ a k, PRt a k → mi M' a k = mi M a k) (hp : ∀ a k, a = 76 ∨ 159 ≤ a → mp M' a k = mp M a k) : RT L M' t n' := by
  obtain ⟨h1, h2, h3, h4, h5⟩ := h
  exact ⟨WN_cg h1 (fun a k q => hi a k (by unfold PWn at q; unfold PRt; omega)), TP_cg h2 (fun a k q => hi a k (by unfold PTp at q; unfold PRt; omega)), MO_cg h3 (fun a k q => hi a k (by unfold PMo at q; unfold PRt; omega)) hp, RE_cg h4 (fun a k q => hi a k (by unfold PRe at q; unfold PRt; omega)), SA_cg h5 hn (fun a k q => hi a k (by unfold PSa at q; unfold PRt; omega))⟩
-- what a call may write that changes nothing of all this: thrown, the places for reckoning
def PN (a k : Nat) : Prop := (a = 92 ∧ (k = 0 ∨ k = 68 ∨ k = 69 ∨ (44 ≤ k ∧ k ≤ 57))) ∨ a = 89 ∨ (a = 80 ∧ k ≠ 0) ∨ a = 91 ∨ (136 ≤ a ∧ a ≤ 148) ∨ (a = 71 ∧ k ≠ 1) ∨ a = 73 ∨ a = 74 ∨ a = 158
theorem PN_cr {a k : Nat} (h : PN a k) : ¬ PCr a k := by unfold PN at h; unfold PCr; omega
theorem PN_rt {a k : Nat} (h : PN a k) : ¬ PRt a k := by unfold PN at h; unfold PRt; omega
theorem RX_cg {L : Lay} {M M' : Mem} {t : Nat} {X : WS} (h : RX L M t X) (hi : ∀ a k, ¬ PN a k → mi M' a k = mi M a k) (hp : ∀ a k, mp M' a k = mp M a k) : RX L M' t X :=
  ⟨CR_cg h.1 (fun a k q => hi a k (fun z => PN_cr z q)) (fun a k _ => hp a k), RT_cg h.2 (Nat.le_refl _) (fun a k q => hi a k (fun z => PN_rt z q)) (fun a k _ => hp a k)⟩
theorem RX_si {L : Lay} {M : Mem} {t a k : Nat} {x : Int32} {X : WS} (h : RX L M t X) (ha : PN a k) : RX L (si M a k x) t X :=
  RX_cg h (fun b j q => by rw [mi_si, if_neg (fun z => q (by rw [z.1, z.2]; exact ha))]) (fun _ _ => rfl)
theorem RR_th {L : Lay} {M : Mem} {x : Int32} (h : RR L M) : RR L (si M 92 0 x) := by
  obtain ⟨t, X, h⟩ := h
  exact ⟨t, X, RX_si h (by unfold PN; omega)⟩
-- numbers that both sides hold
theorem RX_n {L : Lay} {M : Mem} {t : Nat} {X : WS} (h : RX L M t X) : (mi M 1 2 = nI (tn (X.1 28 0)) ∧ mi M 92 28 = nI (tn (X.1 28 0)) ∧ tn (X.1 28 0) ≤ 10) ∧ (mi M 1 4 = nI (tn (X.1 34 0)) ∧ mi M 92 34 = nI (tn (X.1 34 0)) ∧ tn (X.1 34 0) ≤ 8) ∧ mi M 1 0 = nI t ∧ mi M 93 0 = nI t ∧ t ≤ 720 ∧ X.1 28 0 = nI (tn (X.1 28 0)) ∧ X.1 34 0 = nI (tn (X.1 34 0)) := by
  obtain ⟨⟨h1, h2, h3, h4, -⟩, -⟩ := h
  obtain ⟨⟨g1, g2, g3, g4, -⟩, k2, -⟩ := h4
  refine ⟨⟨?_, ?_, g2⟩, ⟨?_, ?_, g4⟩, ?_, ?_, h1, g1, g3⟩
  · rw [rC_28 (w := 1), h2.1]; exact g1
  · rw [rM_28 (s := 0), h3.1]; exact g1
  · rw [rC_34 (w := 1), h2.1]; exact g3
  · rw [rM_34 (s := 0), h3.1]; exact g3
  · rw [rC_93 (w := 1), h2.1]; exact k2
  · rw [rM_93 (s := 0), h3.1]; exact k2
theorem RX_p {L : Lay} {M : Mem} {t : Nat} {X : WS} (h : RX L M t X) : (mp M 1 11 = none ↔ X.2.2.2.1 = none) ∧ (mi M 99 0 < 0 ↔ X.2.2.2.1 = none) ∧ (mp M 1 12 = none ↔ X.2.2.2.2 = none) ∧ (mi M 101 0 = 1 ↔ ¬ X.2.2.2.2 = none) := by
  obtain ⟨⟨h1, h2, h3, -⟩, -⟩ := h
  obtain ⟨-, -, -, a1, a2, -⟩ := h2
  obtain ⟨-, -, -, -, -, -, b1, b2, -⟩ := h3
  refine ⟨?_, ?_, ?_, ?_⟩
  · rcases a1 with ⟨q1, q2⟩ | ⟨a, P, q1, q2, -⟩
    · rw [q1, q2]; simp
    · rw [q1, q2]; simp
  · rcases b1 with ⟨q1, q2⟩ | ⟨q, P, q1, q3, q2, -⟩
    · rw [q1, q2]; simp
    · rw [q1, q2]; simp only [reduceCtorEq, iff_false]; exact nI_pos (by omega)
  · rcases a2 with ⟨q1, q2⟩ | ⟨a, P, q1, q2, -⟩
    · rw [q1, q2]; simp
    · rw [q1, q2]; simp
  · rcases b2 with ⟨q1, q2⟩ | ⟨q1, P, q2, -⟩
    · rw [q2, q1]; simp
    · rw [q2]; simp [q1]
