-- LEVEL 3, part 68: the constructors: what the two objects are when they are made (by program: wip/whole/gen_start.py)
def aI : List (Nat × Nat × Int32) → Nat → Nat → Int32
  | [], _, _ => 0
  | e :: l, a, k => if a = e.1 ∧ k = e.2.1 then e.2.2 else aI l a k
def aP : List (Nat × Nat × Nat) → Nat → Nat → Option Nat
  | [], _, _ => none
  | e :: l, a, k => if a = e.1 ∧ k = e.2.1 then some e.2.2 else aP l a k
def Lc (k : Nat) (R : List (Nat × Nat × Nat)) : Lay := (k, (fun a => if a < k then TGf a else (0, 0)), fun a j => aP R a j)
def Mc (I : List (Nat × Nat × Int32)) (P : List (Nat × Nat × Nat)) : Mem := ((fun a k => aI I a k), (fun a k => aP P a k), fun _ _ => 0)
/-- k cells are made, R are the fixed references, I the ints and P the references written since -/
def St (k : Nat) (R : List (Nat × Nat × Nat)) (I : List (Nat × Nat × Int32)) (P : List (Nat × Nat × Nat)) (L : Lay) (M : Mem) : Prop :=
  L = Lc k R ∧ M = Mc I P ∧ (∀ e ∈ R, e.1 < k) ∧ (∀ e ∈ I, e.1 < k) ∧ ∀ e ∈ P, e.1 < k
theorem aP_no {P : List (Nat × Nat × Nat)} {a j : Nat} (h : ∀ e ∈ P, e.1 ≠ a) : aP P a j = none := by
  induction P with
  | nil => rfl
  | cons e l ih =>
    show (if a = e.1 ∧ j = e.2.1 then some e.2.2 else aP l a j) = none
    rw [if_neg (fun q => h e List.mem_cons_self q.1.symm)]
    exact ih (fun e he => h e (List.mem_cons_of_mem _ he))
theorem aI_no {I : List (Nat × Nat × Int32)} {a j : Nat} (h : ∀ e ∈ I, e.1 ≠ a) : aI I a j = 0 := by
  induction I with
  | nil => rfl
  | cons e l ih =>
    show (if a = e.1 ∧ j = e.2.1 then e.2.2 else aI l a j) = 0
    rw [if_neg (fun q => h e List.mem_cons_self q.1.symm)]
    exact ih (fun e he => h e (List.mem_cons_of_mem _ he))
section STX
variable {k : Nat} {R : List (Nat × Nat × Nat)} {I : List (Nat × Nat × Int32)} {P : List (Nat × Nat × Nat)} {L L' : Lay} {M M' : Mem}
theorem mem_lt {A : Type} {f : A → Nat} {l : List A} {x : A} {n : Nat} (hx : f x < n) (h : ∀ e ∈ l, f e < n) : ∀ e ∈ x :: l, f e < n := List.forall_mem_cons.mpr ⟨hx, h⟩
theorem st_alc {tg : Nat × Nat} (h : St k R I P L M) (e : (L', M') = alc (L, M) tg) (ht : TGf k = tg) : St (k + 1) R I P L' M' ∧ L.1 = k := by
  obtain ⟨rfl, rfl, h1, h2, h3⟩ := h
  have e1 : L' = (alc (Lc k R, Mc I P) tg).1 := congrArg Prod.fst e
  have e2 : M' = (alc (Lc k R, Mc I P) tg).2 := congrArg Prod.snd e
  refine ⟨⟨e1.trans ?_, e2.trans ?_, fun e he => Nat.lt_succ_of_lt (h1 e he), fun e he => Nat.lt_succ_of_lt (h2 e he), fun e he => Nat.lt_succ_of_lt (h3 e he)⟩, rfl⟩
  · refine Prod.ext rfl (Prod.ext (funext fun a => ?_) (funext fun a => ?_))
    · show (if a = k then tg else if a < k then TGf a else (0, 0)) = if a < k + 1 then TGf a else (0, 0)
      by_cases c : a = k
      · rw [if_pos c, if_pos (by omega), c, ht]
      · rw [if_neg c]
        by_cases d : a < k
        · rw [if_pos d, if_pos (by omega)]
        · rw [if_neg d, if_neg (by omega)]
    · show (if a = k then fun _ => none else fun j => aP R a j) = fun j => aP R a j
      by_cases c : a = k
      · rw [if_pos c]
        funext j
        rw [aP_no (fun e he => by have := h1 e he; omega)]
      · rw [if_neg c]
  · refine Prod.ext (funext fun a => ?_) (Prod.ext (funext fun a => ?_) (funext fun a => ?_))
    · show (if a = k then fun _ => 0 else fun j => aI I a j) = fun j => aI I a j
      by_cases c : a = k
      · rw [if_pos c]
        funext j
        rw [aI_no (fun e he => by have := h2 e he; omega)]
      · rw [if_neg c]
    · show (if a = k then fun _ => none else fun j => aP P a j) = fun j => aP P a j
      by_cases c : a = k
      · rw [if_pos c]
        funext j
        rw [aP_no (fun e he => by have := h3 e he; omega)]
      · rw [if_neg c]
    · show (if a = k then fun _ => 0 else fun _ => (0 : Int64)) = fun _ => 0
      by_cases c : a = k
      · rw [if_pos c]
      · rw [if_neg c]
theorem st_sr {a j y x : Nat} (h : St k R I P L M) (e : L' = sr L a j (some y)) (hy : y = x) (ha : a < k) : St k ((a, j, x) :: R) I P L' M := by
  subst hy
  obtain ⟨rfl, h2, h3, h4, h5⟩ := h
  exact ⟨e, h2, mem_lt ha h3, h4, h5⟩
theorem st_si {a j : Nat} {x : Int32} (h : St k R I P L M) (e : M' = si M a j x) (ha : a < k) : St k R ((a, j, x) :: I) P L M' := by
  obtain ⟨h1, rfl, h3, h4, h5⟩ := h
  exact ⟨h1, e, h3, mem_lt ha h4, h5⟩
theorem st_sq {a j x : Nat} {y : Option Nat} (h : St k R I P L M) (e : M' = sq M a j y) (hy : y = some x) (ha : a < k) : St k R I ((a, j, x) :: P) L M' := by
  subst hy
  obtain ⟨h1, rfl, h3, h4, h5⟩ := h
  exact ⟨h1, e, h3, h4, mem_lt ha h5⟩
theorem st_LG {k' : Nat} {R' : List (Nat × Nat × Nat)} {I' : List (Nat × Nat × Int32)} {P' : List (Nat × Nat × Nat)} (h : St k R I P L M) (h' : St k' R' I' P' L' M') (hk : k ≤ k') : LG L L' := by
  obtain ⟨rfl, -⟩ := h
  obtain ⟨rfl, -⟩ := h'
  refine ⟨hk, fun a ha => ?_⟩
  have ha : a < k := ha
  show (if a < k' then TGf a else (0, 0)) = if a < k then TGf a else (0, 0)
  rw [if_pos ha, if_pos (by omega)]
theorem st_lr {a j x : Nat} (h : St k R I P L M) (e : aP R a j = some x) : lr L a j = some x := by obtain ⟨rfl, -⟩ := h; exact e
theorem st_ar {a t n : Nat} (h : St k R I P L M) (ha : a < k) (e : TGf a = (20 + t, n)) : AR L a t n := by
  obtain ⟨rfl, -⟩ := h
  exact ⟨ha, by show (if a < k then TGf a else (0, 0)) = _; rw [if_pos ha, e]⟩
theorem st_ob {a c : Nat} (h : St k R I P L M) (ha : a < k) (e : TGf a = (c, 0)) : OB L a c := by
  obtain ⟨rfl, -⟩ := h
  exact ⟨ha, by show (if a < k then TGf a else (0, 0)) = _; rw [if_pos ha, e]⟩
theorem st_mp {a j x : Nat} (h : St k R I P L M) (e : aP P a j = some x) : mp M a j = some x := by obtain ⟨-, rfl, -⟩ := h; exact e

theorem i_X6 {th rc rs : Nat} {Q : Lay → Mem → Prop} (h : St k R I P L M) (hth : th < k) (t0 : TGf (k) = (20, 14)) (t1 : TGf (k + 1) = (20, 64)) (hrc : rc = 2) (hrs : rs = 78)
    (hQ : ∀ L' M', St (k + 2) ((th, 1, k + 1) :: (th, 0, k) :: R) I P L' M' → Q L' M') : w_X6_init th L rc rs M Q := by
  unfold w_X6_init
  subst hrc; subst hrs
  refine ⟨by decide, by decide, fun La0 Ma0 e => ?_⟩
  obtain ⟨h, l⟩ := st_alc h e t0
  intro Lb0 e
  have h := st_sr h e l (by omega)
  refine ⟨by decide, by decide, fun La1 Ma1 e => ?_⟩
  obtain ⟨h, l⟩ := st_alc h e t1
  intro Lb1 e
  have h := st_sr h e l (by omega)
  exact hQ _ _ h

theorem i_X9 {th rc rs : Nat} {Q : Lay → Mem → Prop} (h : St k R I P L M) (hth : th < k) (t0 : TGf (k) = (20, 12)) (hrc : rc = 1) (hrs : rs = 12)
    (hQ : ∀ L' M', St (k + 1) ((th, 6, k) :: R) I P L' M' → Q L' M') : w_X9_init th L rc rs M Q := by
  unfold w_X9_init
  subst hrc; subst hrs
  refine ⟨by decide, by decide, fun La0 Ma0 e => ?_⟩
  obtain ⟨h, l⟩ := st_alc h e t0
  intro Lb0 e
  have h := st_sr h e l (by omega)
  exact hQ _ _ h

theorem i_X5 {th rc rs : Nat} {Q : Lay → Mem → Prop} (h : St k R I P L M) (hth : th < k) (t0 : TGf (k) = (23, 1000)) (t1 : TGf (k + 1) = (20, 1000)) (t2 : TGf (k + 2) = (20, 64)) (hrc : rc = 3) (hrs : rs = 2064)
    (hQ : ∀ L' M', St (k + 3) ((th, 9, k + 2) :: (th, 7, k + 1) :: (th, 0, k) :: R) I P L' M' → Q L' M') : w_X5_init th L rc rs M Q := by
  unfold w_X5_init
  subst hrc; subst hrs
  refine ⟨by decide, by decide, fun La0 Ma0 e => ?_⟩
  obtain ⟨h, l⟩ := st_alc h e t0
  intro Lb0 e
  have h := st_sr h e l (by omega)
  refine ⟨by decide, by decide, fun La1 Ma1 e => ?_⟩
  obtain ⟨h, l⟩ := st_alc h e t1
  intro Lb1 e
  have h := st_sr h e l (by omega)
  refine ⟨by decide, by decide, fun La2 Ma2 e => ?_⟩
  obtain ⟨h, l⟩ := st_alc h e t2
  intro Lb2 e
  have h := st_sr h e l (by omega)
  exact hQ _ _ h

theorem i_X2 {th rc rs : Nat} {Q : Lay → Mem → Prop} (h : St k R I P L M) (hth : th < k) (t0 : TGf (k) = (27, 24)) (t1 : TGf (k + 1) = (20, 240)) (t2 : TGf (k + 2) = (20, 240)) (t3 : TGf (k + 3) = (21, 240)) (hrc : rc = 4) (hrs : rs = 744)
    (hQ : ∀ L' M', St (k + 4) ((th, 3, k + 3) :: (th, 2, k + 2) :: (th, 1, k + 1) :: (th, 0, k) :: R) I P L' M' → Q L' M') : w_X2_init th L rc rs M Q := by
  unfold w_X2_init
  subst hrc; subst hrs
  refine ⟨by decide, by decide, fun La0 Ma0 e => ?_⟩
  obtain ⟨h, l⟩ := st_alc h e t0
  intro Lb0 e
  have h := st_sr h e l (by omega)
  refine ⟨by decide, by decide, fun La1 Ma1 e => ?_⟩
  obtain ⟨h, l⟩ := st_alc h e t1
  intro Lb1 e
  have h := st_sr h e l (by omega)
  refine ⟨by decide, by decide, fun La2 Ma2 e => ?_⟩
  obtain ⟨h, l⟩ := st_alc h e t2
  intro Lb2 e
  have h := st_sr h e l (by omega)
  refine ⟨by decide, by decide, fun La3 Ma3 e => ?_⟩
  obtain ⟨h, l⟩ := st_alc h e t3
  intro Lb3 e
  have h := st_sr h e l (by omega)
  exact hQ _ _ h

theorem i_X7 {th rc rs : Nat} {Q : Lay → Mem → Prop} (h : St k R I P L M) (hth : th < k) (t0 : TGf (k) = (20, 200)) (t1 : TGf (k + 1) = (20, 200)) (t2 : TGf (k + 2) = (20, 200)) (t3 : TGf (k + 3) = (20, 200)) (hrc : rc = 4) (hrs : rs = 800)
    (hQ : ∀ L' M', St (k + 4) ((th, 6, k + 3) :: (th, 5, k + 2) :: (th, 4, k + 1) :: (th, 3, k) :: R) I P L' M' → Q L' M') : w_X7_init th L rc rs M Q := by
  unfold w_X7_init
  subst hrc; subst hrs
  refine ⟨by decide, by decide, fun La0 Ma0 e => ?_⟩
  obtain ⟨h, l⟩ := st_alc h e t0
  intro Lb0 e
  have h := st_sr h e l (by omega)
  refine ⟨by decide, by decide, fun La1 Ma1 e => ?_⟩
  obtain ⟨h, l⟩ := st_alc h e t1
  intro Lb1 e
  have h := st_sr h e l (by omega)
  refine ⟨by decide, by decide, fun La2 Ma2 e => ?_⟩
  obtain ⟨h, l⟩ := st_alc h e t2
  intro Lb2 e
  have h := st_sr h e l (by omega)
  refine ⟨by decide, by decide, fun La3 Ma3 e => ?_⟩
  obtain ⟨h, l⟩ := st_alc h e t3
  intro Lb3 e
  have h := st_sr h e l (by omega)
  exact hQ _ _ h

theorem i_X8 {th rc rs : Nat} {Q : Lay → Mem → Prop} (h : St k R I P L M) (hth : th < k) (t0 : TGf (k) = (20, 60)) (t1 : TGf (k + 1) = (20, 60)) (t2 : TGf (k + 2) = (20, 60)) (t3 : TGf (k + 3) = (20, 60)) (hrc : rc = 4) (hrs : rs = 240)
    (hQ : ∀ L' M', St (k + 4) ((th, 4, k + 3) :: (th, 3, k + 2) :: (th, 2, k + 1) :: (th, 1, k) :: R) I P L' M' → Q L' M') : w_X8_init th L rc rs M Q := by
  unfold w_X8_init
  subst hrc; subst hrs
  refine ⟨by decide, by decide, fun La0 Ma0 e => ?_⟩
  obtain ⟨h, l⟩ := st_alc h e t0
  intro Lb0 e
  have h := st_sr h e l (by omega)
  refine ⟨by decide, by decide, fun La1 Ma1 e => ?_⟩
  obtain ⟨h, l⟩ := st_alc h e t1
  intro Lb1 e
  have h := st_sr h e l (by omega)
  refine ⟨by decide, by decide, fun La2 Ma2 e => ?_⟩
  obtain ⟨h, l⟩ := st_alc h e t2
  intro Lb2 e
  have h := st_sr h e l (by omega)
  refine ⟨by decide, by decide, fun La3 Ma3 e => ?_⟩
  obtain ⟨h, l⟩ := st_alc h e t3
  intro Lb3 e
  have h := st_sr h e l (by omega)
  exact hQ _ _ h

def oR (w : Nat) : Nat → List (Nat × Nat × Nat)
  | 0 => []
  | i + 1 => (w + 1, i, w + 9 + i) :: oR w i
def sR (w : Nat) : Nat → List (Nat × Nat × Nat)
  | 0 => []
  | i + 1 => (w + 2, i, w + 19 + 2 * i) :: (w + 19 + 2 * i, 6, w + 20 + 2 * i) :: sR w i
def hR (w : Nat) : List (Nat × Nat × Nat) := [(w, 16, w + 8), (w, 15, w + 5), (w + 5, 1, w + 7), (w + 5, 0, w + 6), (w, 8, w + 3), (w, 3, w + 2), (w, 1, w + 1)]
def wI (w : Nat) : List (Nat × Nat × Int32) := [(w, 14, -1), (w + 4, 1, 0), (w + 4, 0, 0), (w + 3, 2, 100), (w + 3, 1, 20), (w, 5, 2)]
def wP (w : Nat) : List (Nat × Nat × Nat) := [(w, 10, w + 4), (w, 9, w + 4)]
theorem aP_sk {A B : List (Nat × Nat × Nat)} {a j : Nat} (h : ∀ e ∈ A, e.1 ≠ a) : aP (A ++ B) a j = aP B a j := by
  induction A with
  | nil => rfl
  | cons e l ih =>
    show (if a = e.1 ∧ j = e.2.1 then some e.2.2 else aP (l ++ B) a j) = aP B a j
    rw [if_neg (fun q => h e List.mem_cons_self q.1.symm)]
    exact ih (fun e he => h e (List.mem_cons_of_mem _ he))
theorem oR_1 {w : Nat} : ∀ n, ∀ e ∈ oR w n, e.1 = w + 1 := by
  intro n
  induction n with
  | zero => intro e he; cases he
  | succ n ih => exact List.forall_mem_cons.mpr ⟨rfl, ih⟩
theorem sR_1 {w : Nat} : ∀ n, ∀ e ∈ sR w n, w + 2 ≤ e.1 := by
  intro n
  induction n with
  | zero => intro e he; cases he
  | succ n ih => exact List.forall_mem_cons.mpr ⟨Nat.le_refl _, List.forall_mem_cons.mpr ⟨by show w + 2 ≤ w + 19 + 2 * n; omega, ih⟩⟩
theorem tg_w {w j : Nat} (hw : IsW w) (hj : j < 35) : TGf (w + j) = TGf (1 + j) := by
  rcases hw with rfl | rfl
  · rfl
  · exact (by decide +kernel : ∀ j, j < 35 → TGf (36 + j) = TGf (1 + j)) j hj
theorem tg_o : ∀ i, i < 10 → TGf (1 + (9 + i)) = (3, 0) := by decide +kernel
theorem tg_s : ∀ i, i < 8 → TGf (1 + (19 + 2 * i)) = (9, 0) ∧ TGf (1 + (20 + 2 * i)) = (20, 12) := by decide +kernel
theorem i_X10_s {w rc rs : Nat} {Q : Lay → Mem → Prop} (hw : IsW w) (h : St (w + 19) (oR w 10 ++ (hR w ++ R)) I P L M) (hrc : rc = 16) (hrs : rs = 152)
    (hQ : ∀ L' M', St (w + 35) (sR w 8 ++ (oR w 10 ++ (hR w ++ R))) I P L' M' → Q L' M') : LP5 (fun K112 v1 L rc rs M => w_X10_init_112 w K112 v1 L rc rs M Q) (0 : Int32) L rc rs M := by
  refine LP5_c0 0 8 (fun i L rc rs M => St (w + 19 + 2 * i) (sR w i ++ (oR w 10 ++ (hR w ++ R))) I P L M ∧ rc = 2 * (8 - i) ∧ rs = 19 * (8 - i)) rfl (by decide) ⟨h, hrc, hrs⟩ ?_
  intro i L rc rs M hi _ hp K hK
  obtain ⟨h, hrc, hrs⟩ := hp
  unfold w_X10_init_112
  refine ⟨fun c => ?_, fun c => ?_⟩
  · have hi8 : i < 8 := by
      have : nI i < nI 8 := c
      rw [nI_lt' (by omega) (by decide)] at this; exact this
    obtain ⟨t1, t2⟩ := tg_s i hi8
    have t1 : TGf (w + 19 + 2 * i) = (9, 0) := by rw [show w + 19 + 2 * i = w + (19 + 2 * i) by omega, tg_w hw (by omega)]; exact t1
    have t2 : TGf (w + 19 + 2 * i + 1) = (20, 12) := by rw [show w + 19 + 2 * i + 1 = w + (20 + 2 * i) by omega, tg_w hw (by omega)]; exact t2
    refine ⟨w + 2, st_lr h ?_, st_ar h (by omega) (by rw [tg_w hw (by decide)]; rfl), by omega, by omega, fun La Ma e => ?_⟩
    · rw [aP_sk (fun e he => by have := sR_1 i e he; omega), aP_sk (fun e he => by have := oR_1 10 e he; omega)]
      unfold hR
      simp [aP]
    obtain ⟨h, l⟩ := st_alc h e t1
    refine ⟨1, 12, by omega, by omega, ?_⟩
    rw [l]
    refine i_X9 h (by omega) t2 rfl rfl (fun Lb Mb hb => ⟨st_LG h hb (by omega), vp_in_nI hi8 (by decide), fun Lc ec x ex => ?_⟩)
    rw [tn_nI (by omega)] at ec
    have hc := st_sr hb ec rfl (by omega)
    rw [ex, nI_1]
    refine hK hi8 _ _ _ _ ⟨?_, by omega, by omega⟩
    rw [show w + 19 + 2 * (i + 1) = w + 19 + 2 * i + 1 + 1 by omega]
    have : w + 20 + 2 * i = w + 19 + 2 * i + 1 := by omega
    unfold sR
    rw [this]
    exact hc
  · have : i = 8 := by
      have : ¬ nI i < nI 8 := c
      rw [nI_lt' (by omega) (by decide)] at this; omega
    subst this
    exact hQ _ _ h
theorem i_X10_o {w rc rs : Nat} {Q : Lay → Mem → Prop} (hw : IsW w) (h : St (w + 9) (hR w ++ R) I P L M) (hrc : rc = 26) (hrs : rs = 292)
    (hQ : ∀ L' M', St (w + 35) (sR w 8 ++ (oR w 10 ++ (hR w ++ R))) I P L' M' → Q L' M') : LP5 (fun K85 v1 L rc rs M => w_X10_init_85 w K85 v1 L rc rs M Q) (0 : Int32) L rc rs M := by
  refine LP5_c0 0 10 (fun i L rc rs M => St (w + 9 + i) (oR w i ++ (hR w ++ R)) I P L M ∧ rc = 16 + (10 - i) ∧ rs = 152 + 14 * (10 - i)) rfl (by decide) ⟨h, hrc, hrs⟩ ?_
  intro i L rc rs M hi _ hp K hK
  obtain ⟨h, hrc, hrs⟩ := hp
  unfold w_X10_init_85
  refine ⟨fun c => ?_, fun c => ?_⟩
  · have hi8 : i < 10 := by
      have : nI i < nI 10 := c
      rw [nI_lt' (by omega) (by decide)] at this; exact this
    have t1 := tg_o i hi8
    have t1 : TGf (w + 9 + i) = (3, 0) := by rw [show w + 9 + i = w + (9 + i) by omega, tg_w hw (by omega)]; exact t1
    refine ⟨w + 1, st_lr h ?_, st_ar h (by omega) (by rw [tg_w hw (by decide)]; rfl), by omega, by omega, fun La Ma e => ?_⟩
    · rw [aP_sk (fun e he => by have := oR_1 i e he; omega)]
      unfold hR
      simp [aP]
    obtain ⟨h, l⟩ := st_alc h e t1
    unfold w_X3_init
    refine ⟨vp_in_nI hi8 (by decide), fun Lc ec x ex => ?_⟩
    rw [tn_nI (by omega)] at ec
    have hc := st_sr h ec l (by omega)
    rw [ex, nI_1]
    exact hK hi8 _ _ _ _ ⟨hc, by omega, by omega⟩
  · have : i = 10 := by
      have : ¬ nI i < nI 10 := c
      rw [nI_lt' (by omega) (by decide)] at this; omega
    subst this
    exact i_X10_s hw h (by omega) (by omega) hQ
set_option maxRecDepth 20000 in
theorem i_X10 {w rc rs : Nat} {Q : Lay → Mem → Prop} (hw : IsW w) (h : St (w + 1) R I P L M) (hrc : rc = 34) (hrs : rs = 405)
    (hQ : ∀ L' M', St (w + 35) (sR w 8 ++ (oR w 10 ++ (hR w ++ R))) (wI w ++ I) (wP w ++ P) L' M' → Q L' M') : w_X10_init w L rc rs M Q := by
  have T : ∀ j, j < 35 → TGf (w + j) = TGf (1 + j) := fun j hj => tg_w hw hj
  unfold w_X10_init
  subst hrc; subst hrs
  refine ⟨by decide, by decide, fun La Ma e => ?_⟩
  obtain ⟨h, l⟩ := st_alc h e (T 1 (by decide))
  intro Lb e
  have h := st_sr h e l (by omega)
  refine ⟨by decide, by decide, fun Lc Mc e => ?_⟩
  obtain ⟨h, l⟩ := st_alc h e (T 2 (by decide))
  intro Ld e
  have h := st_sr h e l (by omega)
  intro Me e
  have h := st_si h e (by omega)
  refine ⟨by decide, by decide, fun Lf Mf e => ?_⟩
  obtain ⟨h, l⟩ := st_alc h e (T 3 (by decide))
  rw [l]
  unfold w_X0_init
  intro Mg e
  have h := st_si h e (by omega)
  intro Mh e
  have h := st_si h e (by omega)
  intro Li e
  have h := st_sr h e rfl (by omega)
  refine ⟨by decide, by decide, fun Lj Mj e => ?_⟩
  obtain ⟨h, l⟩ := st_alc h e (T 4 (by decide))
  rw [l]
  unfold w_X1_init
  intro Mk e
  have h := st_si h e (by omega)
  intro Ml e
  have h := st_si h e (by omega)
  intro Mm e
  have h := st_sq h e rfl (by omega)
  intro Mn e
  have h := st_sq (x := w + 4) h e (st_mp h (by simp [aP])) (by omega)
  intro Mo e
  have h := st_si h e (by omega)
  refine ⟨by decide, by decide, fun Lp Mp e => ?_⟩
  obtain ⟨h, l⟩ := st_alc h e (T 5 (by decide))
  refine ⟨2, 78, by decide, by decide, ?_⟩
  rw [l]
  refine i_X6 h (by omega) (T 6 (by decide)) (T 7 (by decide)) rfl rfl (fun Lq Mq hq => ⟨st_LG h hq (by omega), fun Lr e => ?_⟩)
  have h := st_sr hq e rfl (by omega)
  refine ⟨by decide, by decide, fun Ls Ms e => ?_⟩
  obtain ⟨h, l⟩ := st_alc h e (T 8 (by decide))
  intro Lt e
  have h := st_sr h e l (by omega)
  exact i_X10_o hw h (by decide) (by decide) hQ

def cR : List (Nat × Nat × Nat) := [(0, 8, 91), (0, 6, 90), (0, 5, 85), (85, 4, 89), (85, 3, 88), (85, 2, 87), (85, 1, 86), (0, 4, 80), (80, 6, 84), (80, 5, 83), (80, 4, 82), (80, 3, 81), (0, 3, 75), (75, 3, 79), (75, 2, 78), (75, 1, 77), (75, 0, 76), (0, 2, 71), (71, 9, 74), (71, 7, 73), (71, 0, 72), (0, 1, 36)] ++ (sR 36 8 ++ (oR 36 10 ++ (hR 36 ++ ((0, 0, 1) :: (sR 1 8 ++ (oR 1 10 ++ hR 1))))))
set_option maxRecDepth 20000 in
theorem i_X11 {rc rs : Nat} {Q : Lay → Mem → Prop} (h : St 1 [] [] [] L M) (hrc : rc = 91) (hrs : rs = 5452) (hQ : ∀ L' M', St 92 cR (wI 36 ++ wI 1) (wP 36 ++ wP 1) L' M' → Q L' M') : w_X11_init 0 L rc rs M Q := by
  unfold w_X11_init
  subst hrc; subst hrs
  refine ⟨by decide, by decide, fun La Ma e => ?_⟩
  obtain ⟨h, l⟩ := st_alc h e rfl
  refine ⟨34, 405, by decide, by decide, ?_⟩
  rw [l]
  refine i_X10 (w := 1) (Or.inl rfl) h rfl rfl (fun Lb Mb hb => ⟨st_LG h hb (by decide), fun Lc e => ?_⟩)
  simp only [List.append_nil] at hb
  have h := st_sr hb e rfl (by decide)
  refine ⟨by decide, by decide, fun La Ma e => ?_⟩
  obtain ⟨h, l⟩ := st_alc h e rfl
  refine ⟨34, 405, by decide, by decide, ?_⟩
  rw [l]
  refine i_X10 (w := 36) (Or.inr rfl) h rfl rfl (fun Lb Mb hb => ⟨st_LG h hb (by decide), fun Lc e => ?_⟩)
  have h := st_sr hb e rfl (by decide)
  refine ⟨by decide, by decide, fun La Ma e => ?_⟩
  obtain ⟨h, l⟩ := st_alc h e rfl
  refine ⟨3, 2064, by decide, by decide, ?_⟩
  rw [l]
  refine i_X5 h (by decide) rfl rfl rfl rfl rfl (fun Lb Mb hb => ⟨st_LG h hb (by decide), fun Lc e => ?_⟩)
  have h := st_sr hb e rfl (by decide)
  refine ⟨by decide, by decide, fun La Ma e => ?_⟩
  obtain ⟨h, l⟩ := st_alc h e rfl
  refine ⟨4, 744, by decide, by decide, ?_⟩
  rw [l]
  refine i_X2 h (by decide) rfl rfl rfl rfl rfl rfl (fun Lb Mb hb => ⟨st_LG h hb (by decide), fun Lc e => ?_⟩)
  have h := st_sr hb e rfl (by decide)
  refine ⟨by decide, by decide, fun La Ma e => ?_⟩
  obtain ⟨h, l⟩ := st_alc h e rfl
  refine ⟨4, 800, by decide, by decide, ?_⟩
  rw [l]
  refine i_X7 h (by decide) rfl rfl rfl rfl rfl rfl (fun Lb Mb hb => ⟨st_LG h hb (by decide), fun Lc e => ?_⟩)
  have h := st_sr hb e rfl (by decide)
  refine ⟨by decide, by decide, fun La Ma e => ?_⟩
  obtain ⟨h, l⟩ := st_alc h e rfl
  refine ⟨4, 240, by decide, by decide, ?_⟩
  rw [l]
  refine i_X8 h (by decide) rfl rfl rfl rfl rfl rfl (fun Lb Mb hb => ⟨st_LG h hb (by decide), fun Lc e => ?_⟩)
  have h := st_sr hb e rfl (by decide)
  refine ⟨by decide, by decide, fun La Ma e => ?_⟩
  obtain ⟨h, l⟩ := st_alc h e rfl
  intro Lb e
  have h := st_sr h e l (by decide)
  refine ⟨by decide, by decide, fun La Ma e => ?_⟩
  obtain ⟨h, l⟩ := st_alc h e rfl
  intro Lb e
  have h := st_sr h e l (by decide)
  exact hQ _ _ h

def mR : List (Nat × Nat × Nat) := [(92, 83, 157), (92, 82, 156), (92, 81, 155), (92, 79, 154), (92, 78, 153), (92, 77, 152), (92, 76, 151), (92, 75, 150), (92, 74, 149), (92, 72, 148), (92, 71, 147), (92, 70, 146), (92, 67, 145), (92, 66, 144), (92, 65, 143), (92, 64, 142), (92, 63, 141), (92, 62, 140), (92, 61, 139), (92, 60, 138), (92, 59, 137), (92, 58, 136), (92, 56, 135), (92, 55, 134), (92, 54, 133), (92, 53, 132), (92, 52, 131), (92, 51, 130), (92, 43, 129), (92, 39, 128), (92, 38, 127), (92, 36, 126), (92, 35, 125), (92, 33, 124), (92, 32, 123), (92, 31, 122), (92, 30, 121), (92, 29, 120), (92, 27, 119), (92, 26, 118), (92, 25, 117), (92, 24, 116), (92, 23, 115), (92, 22, 114), (92, 21, 113), (92, 20, 112), (92, 19, 111), (92, 18, 110), (92, 17, 109), (92, 16, 108), (92, 15, 107), (92, 14, 106), (92, 13, 105), (92, 12, 104), (92, 11, 103), (92, 10, 102), (92, 9, 101), (92, 8, 100), (92, 7, 99), (92, 6, 98), (92, 5, 97), (92, 4, 96), (92, 3, 95), (92, 2, 94), (92, 1, 93)]
def mI : List (Nat × Nat × Int32) := [(99, 0, -1), (98, 0, 100), (97, 0, 20), (94, 0, 2)]
def nR : Nat → List (Nat × Nat × Int32)
  | 0 => []
  | i + 1 => (128, i, -1) :: nR i
theorem i_X12_l {rc rs : Nat} {Q : Lay → Mem → Prop} (h : St 158 (mR ++ R) I P L M)
    (hQ : ∀ L' M', St 158 (mR ++ R) (nR 24 ++ I) P L' M' → Q L' M') : LP5 (fun K557 v1 L rc rs M => w_X12_init_557 92 K557 v1 L rc rs M Q) (0 : Int32) L rc rs M := by
  refine LP5_c0 0 24 (fun i L _ _ M => St 158 (mR ++ R) (nR i ++ I) P L M) rfl (by decide) h ?_
  intro i L rc rs M hi _ h K hK
  unfold w_X12_init_557
  refine ⟨fun c => ?_, fun c => ?_⟩
  · have hi8 : i < 24 := by
      have : nI i < nI 24 := c
      rw [nI_lt' (by omega) (by decide)] at this; exact this
    refine ⟨128, st_lr h rfl, st_ar h (by decide) rfl, vp_in_nI hi8 (by decide), fun Ma e x ex => ?_⟩
    rw [tn_nI (by omega)] at e
    have h := st_si h e (by decide)
    rw [ex, nI_1]
    exact hK hi8 _ _ _ _ h
  · have : i = 24 := by
      have : ¬ nI i < nI 24 := c
      rw [nI_lt' (by omega) (by decide)] at this; omega
    subst this
    exact hQ _ _ h
set_option maxRecDepth 50000 in
theorem i_X12 {rc rs : Nat} {Q : Lay → Mem → Prop} (h : St 93 R I P L M) (hrc : rc = 65) (hrs : rs = 32753) (hQ : ∀ L' M', St 158 (mR ++ R) (nR 24 ++ (mI ++ I)) P L' M' → Q L' M') : w_X12_init 92 L rc rs M Q := by
  unfold w_X12_init
  subst hrc; subst hrs
  refine ⟨Nat.le_of_ble_eq_true rfl, Nat.le_of_ble_eq_true rfl, fun La Ma e => ?_⟩
  obtain ⟨h, l⟩ := st_alc h e rfl
  intro Lb e
  have h := st_sr h e l (by decide)
  refine ⟨Nat.le_of_ble_eq_true rfl, Nat.le_of_ble_eq_true rfl, fun La Ma e => ?_⟩
  obtain ⟨h, l⟩ := st_alc h e rfl
  intro Lb e
  have h := st_sr h e l (by decide)
  refine ⟨Nat.le_of_ble_eq_true rfl, Nat.le_of_ble_eq_true rfl, fun La Ma e => ?_⟩
  obtain ⟨h, l⟩ := st_alc h e rfl
  intro Lb e
  have h := st_sr h e l (by decide)
  refine ⟨Nat.le_of_ble_eq_true rfl, Nat.le_of_ble_eq_true rfl, fun La Ma e => ?_⟩
  obtain ⟨h, l⟩ := st_alc h e rfl
  intro Lb e
  have h := st_sr h e l (by decide)
  refine ⟨Nat.le_of_ble_eq_true rfl, Nat.le_of_ble_eq_true rfl, fun La Ma e => ?_⟩
  obtain ⟨h, l⟩ := st_alc h e rfl
  intro Lb e
  have h := st_sr h e l (by decide)
  refine ⟨Nat.le_of_ble_eq_true rfl, Nat.le_of_ble_eq_true rfl, fun La Ma e => ?_⟩
  obtain ⟨h, l⟩ := st_alc h e rfl
  intro Lb e
  have h := st_sr h e l (by decide)
  refine ⟨Nat.le_of_ble_eq_true rfl, Nat.le_of_ble_eq_true rfl, fun La Ma e => ?_⟩
  obtain ⟨h, l⟩ := st_alc h e rfl
  intro Lb e
  have h := st_sr h e l (by decide)
  refine ⟨Nat.le_of_ble_eq_true rfl, Nat.le_of_ble_eq_true rfl, fun La Ma e => ?_⟩
  obtain ⟨h, l⟩ := st_alc h e rfl
  intro Lb e
  have h := st_sr h e l (by decide)
  refine ⟨Nat.le_of_ble_eq_true rfl, Nat.le_of_ble_eq_true rfl, fun La Ma e => ?_⟩
  obtain ⟨h, l⟩ := st_alc h e rfl
  intro Lb e
  have h := st_sr h e l (by decide)
  refine ⟨Nat.le_of_ble_eq_true rfl, Nat.le_of_ble_eq_true rfl, fun La Ma e => ?_⟩
  obtain ⟨h, l⟩ := st_alc h e rfl
  intro Lb e
  have h := st_sr h e l (by decide)
  refine ⟨Nat.le_of_ble_eq_true rfl, Nat.le_of_ble_eq_true rfl, fun La Ma e => ?_⟩
  obtain ⟨h, l⟩ := st_alc h e rfl
  intro Lb e
  have h := st_sr h e l (by decide)
  refine ⟨Nat.le_of_ble_eq_true rfl, Nat.le_of_ble_eq_true rfl, fun La Ma e => ?_⟩
  obtain ⟨h, l⟩ := st_alc h e rfl
  intro Lb e
  have h := st_sr h e l (by decide)
  refine ⟨Nat.le_of_ble_eq_true rfl, Nat.le_of_ble_eq_true rfl, fun La Ma e => ?_⟩
  obtain ⟨h, l⟩ := st_alc h e rfl
  intro Lb e
  have h := st_sr h e l (by decide)
  refine ⟨Nat.le_of_ble_eq_true rfl, Nat.le_of_ble_eq_true rfl, fun La Ma e => ?_⟩
  obtain ⟨h, l⟩ := st_alc h e rfl
  intro Lb e
  have h := st_sr h e l (by decide)
  refine ⟨Nat.le_of_ble_eq_true rfl, Nat.le_of_ble_eq_true rfl, fun La Ma e => ?_⟩
  obtain ⟨h, l⟩ := st_alc h e rfl
  intro Lb e
  have h := st_sr h e l (by decide)
  refine ⟨Nat.le_of_ble_eq_true rfl, Nat.le_of_ble_eq_true rfl, fun La Ma e => ?_⟩
  obtain ⟨h, l⟩ := st_alc h e rfl
  intro Lb e
  have h := st_sr h e l (by decide)
  refine ⟨Nat.le_of_ble_eq_true rfl, Nat.le_of_ble_eq_true rfl, fun La Ma e => ?_⟩
  obtain ⟨h, l⟩ := st_alc h e rfl
  intro Lb e
  have h := st_sr h e l (by decide)
  refine ⟨Nat.le_of_ble_eq_true rfl, Nat.le_of_ble_eq_true rfl, fun La Ma e => ?_⟩
  obtain ⟨h, l⟩ := st_alc h e rfl
  intro Lb e
  have h := st_sr h e l (by decide)
  refine ⟨Nat.le_of_ble_eq_true rfl, Nat.le_of_ble_eq_true rfl, fun La Ma e => ?_⟩
  obtain ⟨h, l⟩ := st_alc h e rfl
  intro Lb e
  have h := st_sr h e l (by decide)
  refine ⟨Nat.le_of_ble_eq_true rfl, Nat.le_of_ble_eq_true rfl, fun La Ma e => ?_⟩
  obtain ⟨h, l⟩ := st_alc h e rfl
  intro Lb e
  have h := st_sr h e l (by decide)
  refine ⟨Nat.le_of_ble_eq_true rfl, Nat.le_of_ble_eq_true rfl, fun La Ma e => ?_⟩
  obtain ⟨h, l⟩ := st_alc h e rfl
  intro Lb e
  have h := st_sr h e l (by decide)
  refine ⟨Nat.le_of_ble_eq_true rfl, Nat.le_of_ble_eq_true rfl, fun La Ma e => ?_⟩
  obtain ⟨h, l⟩ := st_alc h e rfl
  intro Lb e
  have h := st_sr h e l (by decide)
  refine ⟨Nat.le_of_ble_eq_true rfl, Nat.le_of_ble_eq_true rfl, fun La Ma e => ?_⟩
  obtain ⟨h, l⟩ := st_alc h e rfl
  intro Lb e
  have h := st_sr h e l (by decide)
  refine ⟨Nat.le_of_ble_eq_true rfl, Nat.le_of_ble_eq_true rfl, fun La Ma e => ?_⟩
  obtain ⟨h, l⟩ := st_alc h e rfl
  intro Lb e
  have h := st_sr h e l (by decide)
  refine ⟨Nat.le_of_ble_eq_true rfl, Nat.le_of_ble_eq_true rfl, fun La Ma e => ?_⟩
  obtain ⟨h, l⟩ := st_alc h e rfl
  intro Lb e
  have h := st_sr h e l (by decide)
  refine ⟨Nat.le_of_ble_eq_true rfl, Nat.le_of_ble_eq_true rfl, fun La Ma e => ?_⟩
  obtain ⟨h, l⟩ := st_alc h e rfl
  intro Lb e
  have h := st_sr h e l (by decide)
  refine ⟨Nat.le_of_ble_eq_true rfl, Nat.le_of_ble_eq_true rfl, fun La Ma e => ?_⟩
  obtain ⟨h, l⟩ := st_alc h e rfl
  intro Lb e
  have h := st_sr h e l (by decide)
  refine ⟨Nat.le_of_ble_eq_true rfl, Nat.le_of_ble_eq_true rfl, fun La Ma e => ?_⟩
  obtain ⟨h, l⟩ := st_alc h e rfl
  intro Lb e
  have h := st_sr h e l (by decide)
  refine ⟨Nat.le_of_ble_eq_true rfl, Nat.le_of_ble_eq_true rfl, fun La Ma e => ?_⟩
  obtain ⟨h, l⟩ := st_alc h e rfl
  intro Lb e
  have h := st_sr h e l (by decide)
  refine ⟨Nat.le_of_ble_eq_true rfl, Nat.le_of_ble_eq_true rfl, fun La Ma e => ?_⟩
  obtain ⟨h, l⟩ := st_alc h e rfl
  intro Lb e
  have h := st_sr h e l (by decide)
  refine ⟨Nat.le_of_ble_eq_true rfl, Nat.le_of_ble_eq_true rfl, fun La Ma e => ?_⟩
  obtain ⟨h, l⟩ := st_alc h e rfl
  intro Lb e
  have h := st_sr h e l (by decide)
  refine ⟨Nat.le_of_ble_eq_true rfl, Nat.le_of_ble_eq_true rfl, fun La Ma e => ?_⟩
  obtain ⟨h, l⟩ := st_alc h e rfl
  intro Lb e
  have h := st_sr h e l (by decide)
  refine ⟨Nat.le_of_ble_eq_true rfl, Nat.le_of_ble_eq_true rfl, fun La Ma e => ?_⟩
  obtain ⟨h, l⟩ := st_alc h e rfl
  intro Lb e
  have h := st_sr h e l (by decide)
  refine ⟨Nat.le_of_ble_eq_true rfl, Nat.le_of_ble_eq_true rfl, fun La Ma e => ?_⟩
  obtain ⟨h, l⟩ := st_alc h e rfl
  intro Lb e
  have h := st_sr h e l (by decide)
  refine ⟨Nat.le_of_ble_eq_true rfl, Nat.le_of_ble_eq_true rfl, fun La Ma e => ?_⟩
  obtain ⟨h, l⟩ := st_alc h e rfl
  intro Lb e
  have h := st_sr h e l (by decide)
  refine ⟨Nat.le_of_ble_eq_true rfl, Nat.le_of_ble_eq_true rfl, fun La Ma e => ?_⟩
  obtain ⟨h, l⟩ := st_alc h e rfl
  intro Lb e
  have h := st_sr h e l (by decide)
  refine ⟨Nat.le_of_ble_eq_true rfl, Nat.le_of_ble_eq_true rfl, fun La Ma e => ?_⟩
  obtain ⟨h, l⟩ := st_alc h e rfl
  intro Lb e
  have h := st_sr h e l (by decide)
  refine ⟨Nat.le_of_ble_eq_true rfl, Nat.le_of_ble_eq_true rfl, fun La Ma e => ?_⟩
  obtain ⟨h, l⟩ := st_alc h e rfl
  intro Lb e
  have h := st_sr h e l (by decide)
  refine ⟨Nat.le_of_ble_eq_true rfl, Nat.le_of_ble_eq_true rfl, fun La Ma e => ?_⟩
  obtain ⟨h, l⟩ := st_alc h e rfl
  intro Lb e
  have h := st_sr h e l (by decide)
  refine ⟨Nat.le_of_ble_eq_true rfl, Nat.le_of_ble_eq_true rfl, fun La Ma e => ?_⟩
  obtain ⟨h, l⟩ := st_alc h e rfl
  intro Lb e
  have h := st_sr h e l (by decide)
  refine ⟨Nat.le_of_ble_eq_true rfl, Nat.le_of_ble_eq_true rfl, fun La Ma e => ?_⟩
  obtain ⟨h, l⟩ := st_alc h e rfl
  intro Lb e
  have h := st_sr h e l (by decide)
  refine ⟨Nat.le_of_ble_eq_true rfl, Nat.le_of_ble_eq_true rfl, fun La Ma e => ?_⟩
  obtain ⟨h, l⟩ := st_alc h e rfl
  intro Lb e
  have h := st_sr h e l (by decide)
  refine ⟨Nat.le_of_ble_eq_true rfl, Nat.le_of_ble_eq_true rfl, fun La Ma e => ?_⟩
  obtain ⟨h, l⟩ := st_alc h e rfl
  intro Lb e
  have h := st_sr h e l (by decide)
  refine ⟨Nat.le_of_ble_eq_true rfl, Nat.le_of_ble_eq_true rfl, fun La Ma e => ?_⟩
  obtain ⟨h, l⟩ := st_alc h e rfl
  intro Lb e
  have h := st_sr h e l (by decide)
  refine ⟨Nat.le_of_ble_eq_true rfl, Nat.le_of_ble_eq_true rfl, fun La Ma e => ?_⟩
  obtain ⟨h, l⟩ := st_alc h e rfl
  intro Lb e
  have h := st_sr h e l (by decide)
  refine ⟨Nat.le_of_ble_eq_true rfl, Nat.le_of_ble_eq_true rfl, fun La Ma e => ?_⟩
  obtain ⟨h, l⟩ := st_alc h e rfl
  intro Lb e
  have h := st_sr h e l (by decide)
  refine ⟨Nat.le_of_ble_eq_true rfl, Nat.le_of_ble_eq_true rfl, fun La Ma e => ?_⟩
  obtain ⟨h, l⟩ := st_alc h e rfl
  intro Lb e
  have h := st_sr h e l (by decide)
  refine ⟨Nat.le_of_ble_eq_true rfl, Nat.le_of_ble_eq_true rfl, fun La Ma e => ?_⟩
  obtain ⟨h, l⟩ := st_alc h e rfl
  intro Lb e
  have h := st_sr h e l (by decide)
  refine ⟨Nat.le_of_ble_eq_true rfl, Nat.le_of_ble_eq_true rfl, fun La Ma e => ?_⟩
  obtain ⟨h, l⟩ := st_alc h e rfl
  intro Lb e
  have h := st_sr h e l (by decide)
  refine ⟨Nat.le_of_ble_eq_true rfl, Nat.le_of_ble_eq_true rfl, fun La Ma e => ?_⟩
  obtain ⟨h, l⟩ := st_alc h e rfl
  intro Lb e
  have h := st_sr h e l (by decide)
  refine ⟨Nat.le_of_ble_eq_true rfl, Nat.le_of_ble_eq_true rfl, fun La Ma e => ?_⟩
  obtain ⟨h, l⟩ := st_alc h e rfl
  intro Lb e
  have h := st_sr h e l (by decide)
  refine ⟨Nat.le_of_ble_eq_true rfl, Nat.le_of_ble_eq_true rfl, fun La Ma e => ?_⟩
  obtain ⟨h, l⟩ := st_alc h e rfl
  intro Lb e
  have h := st_sr h e l (by decide)
  refine ⟨Nat.le_of_ble_eq_true rfl, Nat.le_of_ble_eq_true rfl, fun La Ma e => ?_⟩
  obtain ⟨h, l⟩ := st_alc h e rfl
  intro Lb e
  have h := st_sr h e l (by decide)
  refine ⟨Nat.le_of_ble_eq_true rfl, Nat.le_of_ble_eq_true rfl, fun La Ma e => ?_⟩
  obtain ⟨h, l⟩ := st_alc h e rfl
  intro Lb e
  have h := st_sr h e l (by decide)
  refine ⟨Nat.le_of_ble_eq_true rfl, Nat.le_of_ble_eq_true rfl, fun La Ma e => ?_⟩
  obtain ⟨h, l⟩ := st_alc h e rfl
  intro Lb e
  have h := st_sr h e l (by decide)
  refine ⟨Nat.le_of_ble_eq_true rfl, Nat.le_of_ble_eq_true rfl, fun La Ma e => ?_⟩
  obtain ⟨h, l⟩ := st_alc h e rfl
  intro Lb e
  have h := st_sr h e l (by decide)
  refine ⟨Nat.le_of_ble_eq_true rfl, Nat.le_of_ble_eq_true rfl, fun La Ma e => ?_⟩
  obtain ⟨h, l⟩ := st_alc h e rfl
  intro Lb e
  have h := st_sr h e l (by decide)
  refine ⟨Nat.le_of_ble_eq_true rfl, Nat.le_of_ble_eq_true rfl, fun La Ma e => ?_⟩
  obtain ⟨h, l⟩ := st_alc h e rfl
  intro Lb e
  have h := st_sr h e l (by decide)
  refine ⟨Nat.le_of_ble_eq_true rfl, Nat.le_of_ble_eq_true rfl, fun La Ma e => ?_⟩
  obtain ⟨h, l⟩ := st_alc h e rfl
  intro Lb e
  have h := st_sr h e l (by decide)
  refine ⟨Nat.le_of_ble_eq_true rfl, Nat.le_of_ble_eq_true rfl, fun La Ma e => ?_⟩
  obtain ⟨h, l⟩ := st_alc h e rfl
  intro Lb e
  have h := st_sr h e l (by decide)
  refine ⟨Nat.le_of_ble_eq_true rfl, Nat.le_of_ble_eq_true rfl, fun La Ma e => ?_⟩
  obtain ⟨h, l⟩ := st_alc h e rfl
  intro Lb e
  have h := st_sr h e l (by decide)
  refine ⟨Nat.le_of_ble_eq_true rfl, Nat.le_of_ble_eq_true rfl, fun La Ma e => ?_⟩
  obtain ⟨h, l⟩ := st_alc h e rfl
  intro Lb e
  have h := st_sr h e l (by decide)
  refine ⟨Nat.le_of_ble_eq_true rfl, Nat.le_of_ble_eq_true rfl, fun La Ma e => ?_⟩
  obtain ⟨h, l⟩ := st_alc h e rfl
  intro Lb e
  have h := st_sr h e l (by decide)
  refine ⟨Nat.le_of_ble_eq_true rfl, Nat.le_of_ble_eq_true rfl, fun La Ma e => ?_⟩
  obtain ⟨h, l⟩ := st_alc h e rfl
  intro Lb e
  have h := st_sr h e l (by decide)
  refine ⟨Nat.le_of_ble_eq_true rfl, Nat.le_of_ble_eq_true rfl, fun La Ma e => ?_⟩
  obtain ⟨h, l⟩ := st_alc h e rfl
  intro Lb e
  have h := st_sr h e l (by decide)
  refine ⟨94, st_lr h rfl, st_ar h (by decide) rfl, fun Ma e => ?_⟩
  have h := st_si h e (by decide)
  refine ⟨97, st_lr h rfl, st_ar h (by decide) rfl, fun Ma e => ?_⟩
  have h := st_si h e (by decide)
  refine ⟨98, st_lr h rfl, st_ar h (by decide) rfl, fun Ma e => ?_⟩
  have h := st_si h e (by decide)
  refine ⟨99, st_lr h rfl, st_ar h (by decide) rfl, fun Ma e => ?_⟩
  have h := st_si h e (by decide)
  exact i_X12_l h hQ
end STX
