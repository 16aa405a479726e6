-- LEVEL 3, part 65: the law's own walk: the script, the rules
def sB (g : Ev) : Nat := g.2.2.2.2.1 9
/-- what the law's walk stands on: where the script lies, and that nothing was there before it -/
def GL (N : Nat) (xs : Nat → Int32) (g : Ev) (s : State) (args : Array Value) (R : Room) : Prop := g.1 = s.heap.size ∧ R = room_1 ∧ args = #[Value.ref (sB g)] ∧ va_X (sB g) N xs s s.heap ∧ sB g < s.heap.size
def FW (N : Nat) (xs : Nat → Int32) : Fin9 := fun g _ s args below R t => GL N xs g s args R → lw_Z below args s t
abbrev XL (N : Nat) (xs : Nat → Int32) (rc rs : Nat) (h : Hp) (pc : Nat) (ls st : List Value) : Prop := X (FN (FW N xs)) RL cL_law ret 7 "law" 12 rc rs h pc ls st
def bzz (x : Int32) : Int32 := if x = 0 then 0 else 1
theorem BZ_bzz (x : Int32) : BZ (bzz x) := by
  unfold bzz
  by_cases c : x = 0
  · rw [if_pos c]; exact Or.inl rfl
  · rw [if_neg c]; exact Or.inr rfl
theorem lcmp_rf (x : Int64) : lg_cmp x x = 0 := by
  unfold lg_cmp
  rw [if_neg (fun q => Int64.lt_irrefl q), if_pos rfl]
theorem x31 (x : Int32) : ∃ j, j < 32 ∧ x &&& 31 = nI j := by
  have e : x = nI x.toBitVec.toNat := by
    apply Int32.toBitVec_inj.mp
    show x.toBitVec = BitVec.ofNat 32 x.toBitVec.toNat
    simp
  refine ⟨x.toBitVec.toNat &&& 31, Nat.lt_of_le_of_lt Nat.and_le_right (by decide), ?_⟩
  rw [← nI_and, ← e]; rfl
theorem X_room {F : Fin9} {own : String} {b : ByteArray} {ret : Option FieldType} {mL : Nat} {nm : String} {d rc rs rc' rs' : Nat} {h : Hp} {pc : Nat} {ls st : List Value} (h1 : rc' ≤ rc) (h2 : rs' ≤ rs)
    (k : X F own b ret mL nm d rc' rs' h pc ls st) : X F own b ret mL nm d rc rs h pc ls st :=
  fun g p l e R s m args below meth c H locs LS cells slots C hR hS hL z1 z2 => k g p l e R s m args below meth c H locs LS cells slots C hR hS hL (by omega) (by omega)
section LR
variable {N : Nat} {xs : Nat → Int32} {rc rs : Nat} {h : Hp} {pc : Nat} {ls st : List Value}
theorem X_sld (q : Nat) {i : Int32} (hin : vp_in i N) (hd : decode cL_law pc = .ok (.iaload, 1)) (hp : pc + 1 = q) (k : XL N xs rc rs h q ls (.int (xs (tn i)) :: st)) : XL N xs rc rs h pc ls (.int i :: .float 9 :: st) := by
  subst hp
  intro g p l e R s m args below meth c H locs LS cells slots C hR hS hL h1 h2
  by_cases hG : GL N xs g s args R
  · exact va_sld (b := sB g) (L := N) C.1 C.2.1 hG.2.2.2.1 hG.2.2.2.2 (by show ¬ g.1 ≤ sB g; rw [hG.1]; exact Nat.not_le.mpr hG.2.2.2.2) hS hin hd (k g p l e R s m args below meth c H locs LS cells slots C hR hS hL h1 h2)
  · intro T hT S
    exact ⟨_, Steps.refl _, fun _ z => absurd z hG⟩
theorem X_slen (q : Nat) (hd : decode cL_law pc = .ok (.arraylength, 1)) (hp : pc + 1 = q) (k : XL N xs rc rs h q ls (.int (nI N) :: st)) : XL N xs rc rs h pc ls (.float 9 :: st) := by
  subst hp
  intro g p l e R s m args below meth c H locs LS cells slots C hR hS hL h1 h2
  by_cases hG : GL N xs g s args R
  · exact va_slen (b := sB g) (L := N) C.1 C.2.1 hG.2.2.2.1 hG.2.2.2.2 (by show ¬ g.1 ≤ sB g; rw [hG.1]; exact Nat.not_le.mpr hG.2.2.2.2) hS hd (k g p l e R s m args below meth c H locs LS cells slots C hR hS hL h1 h2)
  · intro T hT S
    exact ⟨_, Steps.refl _, fun _ z => absurd z hG⟩
/-- the law answers 1 -/
theorem X_end (hd : decode cL_law pc = .ok (.ireturn, 1)) : XL N xs rc rs h pc ls [.int 1] := by
  intro g p l e R s m args below meth c H locs LS cells slots C hR hS hL h1 h2
  by_cases hG : GL N xs g s args R
  · obtain ⟨c1, c2, c3, c4, c5, c6, c7, c8, -⟩ := C
    obtain ⟨g1, g2, g3, -⟩ := hG
    subst g2; subst g3
    have W0 : W p l e room_1 s m #[Value.ref (sB g)] below meth c H locs cells slots (lw_Z below #[Value.ref (sB g)] s) (F0 m pc LS [.int 1]) :=
      W.widen (k := 601024) (n := 7293034) (by have : room_1.cells = 601024 := rfl; omega) (by have : room_1.slots = 7293034 := rfl; omega) (va_forget (fun z hz => by have := hS.2.2 z hz; have : g.1 ≤ z.base := this; omega) (lw_ret c1 c2 c6 c7 hd))
    intro T hT S
    obtain ⟨t, a1, a2⟩ := W0 T hT S
    exact ⟨t, a1, fun _ _ => a2⟩
  · intro T hT S
    exact ⟨_, Steps.refl _, fun _ z => absurd z hG⟩
/-- script[i + k] -/
theorem Y_scr (q : Nat) {n j : Nat} {k : Int} (d0 : decode cL_law pc = .ok (.aload_n 0, 1)) (d1 : decode cL_law (pc + 1) = .ok (.iload 4, 2)) (d3 : decode cL_law (pc + 3) = .ok (.iconst k, 1)) (d4 : decode cL_law (pc + 4) = .ok (.iadd, 1)) (d5 : decode cL_law (pc + 5) = .ok (.iaload, 1)) (hp : pc + 6 = q)
    (l0 : ls[0]? = some (.float 9)) (l4 : ls[4]? = some (.int (nI n))) (hk : Int32.ofInt k = nI j) (hn : n + j < N) (hN : N ≤ 3584) (kk : XL N xs rc rs h q ls (.int (xs (n + j)) :: st)) : XL N xs rc rs h pc ls st := by
  subst hp
  refine X_aloadS_n (pc + 1) d0 rfl (by decide) l0 ?_
  refine X_iload (pc + 3) d1 rfl l4 ?_
  refine X_iconst (pc + 4) d3 rfl hk ?_
  refine X_iadd (pc + 5) d4 rfl ?_
  rw [nI_add]
  refine X_sld (pc + 6) (vp_in_nI hn (by omega)) d5 rfl ?_
  rw [tn_nI (by omega)]
  exact kk
theorem Y_scr6 (q : Nat) {n : Nat} (d0 : decode cL_law pc = .ok (.aload_n 0, 1)) (d1 : decode cL_law (pc + 1) = .ok (.iload 4, 2)) (d3 : decode cL_law (pc + 3) = .ok (.bipush 6, 2)) (d4 : decode cL_law (pc + 5) = .ok (.iadd, 1)) (d5 : decode cL_law (pc + 6) = .ok (.iaload, 1)) (hp : pc + 7 = q)
    (l0 : ls[0]? = some (.float 9)) (l4 : ls[4]? = some (.int (nI n))) (hn : n + 6 < N) (hN : N ≤ 3584) (kk : XL N xs rc rs h q ls (.int (xs (n + 6)) :: st)) : XL N xs rc rs h pc ls st := by
  subst hp
  refine X_aloadS_n (pc + 1) d0 rfl (by decide) l0 ?_
  refine X_iload (pc + 3) d1 rfl l4 ?_
  refine X_bipush (pc + 5) (v := nI 6) d3 rfl rfl ?_
  refine X_iadd (pc + 6) d4 rfl ?_
  rw [nI_add]
  refine X_sld (pc + 7) (vp_in_nI hn (by omega)) d5 rfl ?_
  rw [tn_nI (by omega)]
  exact kk
/-- != 0 -/
theorem Y_bool (u : Nat) {x : Int32} (d0 : decode cL_law pc = .ok (.ifCond .eq 7, 3)) (d3 : decode cL_law (pc + 3) = .ok (.iconst 1, 1)) (d4 : decode cL_law (pc + 4) = .ok (.goto 4, 3)) (d7 : decode cL_law (pc + 7) = .ok (.iconst 0, 1)) (hu : pc + 8 = u)
    (kk : XL N xs rc rs h u ls (.int (bzz x) :: st)) : XL N xs rc rs h pc ls (.int x :: st) := by
  subst hu
  refine X_if_eq (pc + 7) (pc + 3) (y := 0) d0 (by omega) rfl (fun c => ?_) (fun c => ?_)
  · refine X_iconst (pc + 8) (v := 0) d7 rfl rfl ?_
    rw [show bzz x = 0 from if_pos c] at kk; exact kk
  · refine X_iconst (pc + 4) (v := 1) d3 rfl rfl ?_
    refine X_goto (pc + 8) d4 (by omega) ?_
    rw [show bzz x = 1 from if_neg c] at kk; exact kk
/-- a call of one of the three helpers -/
theorem Y_hlp (q : Nat) {L : Lay} {M : Mem} {idx : Nat} {y : MethodName} {b' : ByteArray} {mL' n : Nat} {hh : List (Nat × Nat × Nat × Nat)} {as : List Value} {Q' : Option Value → Hp → Prop} (hcl : CTH RL idx y b' mL' (some .int) hh n) (hM : MXH y b' (some .int) mL' hh 10 1 6 as (L, M) Q') (hn : as.length = n) (hrc : 20 ≤ rc) (hrs : 9087 ≤ rs)
    (hd : decode cL_law pc = .ok (.invokestatic idx, 3)) (hp : pc + 3 = q) {st1 : List Value} (hst : as.reverse = st1)
    (k : ∀ (r : Int32) (h' : Hp), Q' (some (.int r)) h' → XL N xs (rc - 20) (rs - 9087) h' q ls [.int r]) (hQ : ∀ r h', Q' r h' → ∃ z, r = some (.int z)) : XL N xs rc rs (L, M) pc ls st1 :=
  X_callSH q hcl hM hn (by decide) (by omega) (by omega) (Nat.zero_le _) hd hp (by rw [List.append_nil]; exact hst) (fun r h' hq => by
    obtain ⟨z, rfl⟩ := hQ r h' hq
    exact X_room (by omega) (by omega) (k z h' hq))
end LR
theorem ml_sls {M : Mem} {a k : Nat} {x : Int64} : ml (sl M a k x) a k = x := by
  show (if a = a ∧ k = k then x else M.2.2 a k) = x
  rw [if_pos ⟨rfl, rfl⟩]
-- the calls that may throw, once more: out is written between the two sides
section LRT
variable {L : Lay} {M : Mem}
theorem m_tri2 {t n : Nat} {X : WS} {wd : Nat → Int32} {set iss : Int32} {Q : Mem → Prop} (h : RV L M t X wd) (hi : iss = -1 ∨ ∃ k, k ≤ 9999 ∧ iss = nI k) (hn : n < 2 ^ 30)
    (hQ : ∀ M', RV L M' t X wd → (∀ o, o < 10 → mi M' 110 (10 + o) = (trI wd iss t (bkX X set) n).1 110 o) → mi M' 92 0 = mi M 92 0 → M'.2 = M.2 → Q M') : w_X12_tries L set (nI n) 0 iss M Q := by
  obtain ⟨⟨h1, h2, h3, h4, h5, h6, -⟩, -⟩ := h.1
  refine m_tries h3 h4 h1 hi hn (fun M' y1 F1 => ?_)
  have etr : trI (fun d => if (0 : Int32) = 0 then mi M 127 d else 3) iss t (bkX X set) n = trI wd iss t (bkX X set) n := tr_cg (fun d d1 d2 => by rw [if_pos rfl]; exact (h.2 d d1 d2).2) n
  rw [etr] at y1
  refine hQ M' (RV_PT h F1) (fun o ho => ?_) (F1.1 92 0 (by unfold PT; omega)) F1.2
  rw [show 10 + o = 10 * 1 + o from rfl, rM_110 (s := 1) ho, y1.1]
theorem m_gains2 {t : Nat} {X : WS} {wd : Nat → Int32} {iss : Int32} {Q : Int32 → Mem → Prop} (h : RV L M t X wd) (hi : iss = -1 ∨ ∃ k, k ≤ 9999 ∧ iss = nI k) (hQ : ∀ M', RV L M' t X wd → mi M' 92 0 = mi M 92 0 → M'.2 = M.2 → Q (giF wd t X iss) M') : w_X12_triedWith L iss M Q := by
  have n10 := h.1.1.2.2.2.1.1.2.1
  unfold w_X12_triedWith
  refine m_brS (T := t) (by rw [h.1.1.2.2.1.1]; exact h.1.1.2.2.2.1.1) ?_
  rw [h.1.1.2.2.1.1, show (30 : Int32) = nI 30 from rfl]
  refine m_tri2 h hi (by omega) (fun M1 r1 g1 k1 l1 => ?_)
  refine LP3_c1 0 (tn (X.1 28 0)) (fun i (v : Int32) M' => M' = M1 ∧ v = smF (fun o => (trI wd iss t (bkX X (nI (bsN (brF X.1) (tn (X.1 28 0))))) 30).1 110 o) i) rfl (Nat.zero_le _) ⟨rfl, rfl⟩ ?_
  intro i v M2 hi2 _ ⟨e, ev⟩ K hK
  subst e ev
  unfold w_X12_triedWith_16
  rw [(RX_n r1.1).1.2.1, nI_lt' (by omega) (by omega), show (10 : Int32) = nI 10 from rfl, nI_add, tn_nI (n := 10 + i) (by omega)]
  refine ⟨fun hlt => ⟨vp_in_nI (by omega) (by decide), fun x hx y hy => ?_⟩, fun hge => ?_⟩
  · rw [hy, nI_1]
    refine hK hlt _ _ ⟨rfl, ?_⟩
    rw [hx, g1 i (by omega)]; rfl
  · have : i = tn (X.1 28 0) := by omega
    subst this
    exact hQ M2 r1 k1 l1
/-- the class's answer x is written to out, then the reference is asked -/
theorem k_whatIf {t : Nat} {X : WS} {p0 p1 p2 : Int32} (h : RX L M t X) (v : vWi X p0 p1 p2) : w_X11_whatIf L p0 p1 p2 M (fun a M1 => ∀ x : Int64, w_X12_whatIf L p0 p1 p2 (sl M1 158 0 x) (fun b M2 => a = b ∧ mi M2 92 0 = 0 ∧ ml M2 158 0 = x ∧ RR L M2)) := by
  obtain ⟨⟨n1, n2, n3⟩, -⟩ := RX_n h
  obtain ⟨v1, v2, v3⟩ := id v
  unfold w_X11_whatIf
  refine c_isSB n1 n3 (fun q => absurd v1 q) (fun q1 => c_ownB n1 n3 (fun q => absurd v2 q) (fun q2 => c_wiB (fun q => absurd v3 q) (fun q3 => ?_)))
  have q1' := q1
  have q2' := q2
  obtain ⟨s, hs, rfl⟩ := q1
  obtain ⟨o, ho, rfl⟩ := q2
  obtain ⟨n, -, hn, rfl⟩ := wi_nI (a := 0) (b := 60) (by decide) (by decide) q3
  refine c_wi (Q := fun a M1 => ∀ x : Int64, w_X12_whatIf L (nI s) (nI o) (nI n) (sl M1 158 0 x) (fun b M2 => a = b ∧ mi M2 92 0 = 0 ∧ ml M2 158 0 = x ∧ RR L M2)) (RV_of h) hs ho hn (fun M1 r1 x => ?_)
  unfold w_X12_whatIf
  intro M3 e3
  have r5 : RV L M3 t X (fun d => mi M 127 d) := RV_cg r1 (fun a k z => by rw [e3, mi_si, if_neg (fun w => z (by unfold PN; omega))]; rfl) (fun a k => by rw [e3]; rfl)
  have n2' := (RX_n r5.1).1.2.1
  have z3 : mi M3 92 0 = 0 := by rw [e3, mi_si, if_pos ⟨rfl, rfl⟩]
  have x3 : ml M3 158 0 = x := by rw [e3]; exact (ml_sls : ml (sl M1 158 0 x) 158 0 = x)
  refine m_isSB n2' n3 (fun z => absurd q1' z) (fun _ => m_ownB n2' n3 (fun z => absurd q2' z) (fun _ => m_wiB (fun z => absurd q3 z) (fun _ => m_tri2 r5 (Or.inl rfl) (by omega) (fun M4 r6 g6 z6 l6 => ?_))))
  rw [show (10 : Int32) = nI 10 from rfl, nI_add, tn_nI (n := 10 + o) (by omega), tn_nI (n := o) (by omega)]
  refine ⟨vp_in_nI (by omega) (by decide), vp_in_nI (by omega) (by decide), ?_, z6.trans z3, ?_, t, X, r6.1⟩
  · rw [g6 o (by omega), (RX_g r6.1 (by omega)).2]; rfl
  · rw [← x3]; unfold ml; rw [l6]
theorem k_tried {t : Nat} {X : WS} {p0 : Int32} (h : RX L M t X) (v : wi p0 0 9999) : w_X11_tried L p0 M (fun a M1 => ∀ x : Int64, w_X12_tried L p0 (sl M1 158 0 x) (fun b M2 => a = b ∧ mi M2 92 0 = 0 ∧ ml M2 158 0 = x ∧ RR L M2)) := by
  unfold w_X11_tried
  refine c_wiB (fun q => absurd v q) (fun q3 => ?_)
  obtain ⟨n, -, hn, rfl⟩ := wi_nI (a := 0) (b := 9999) (by decide) (by decide) q3
  refine c_gains (RV_of h) (Or.inr ⟨n, hn, rfl⟩) (fun M1 r1 x => ?_)
  unfold w_X12_tried
  intro M3 e3
  have r5 : RV L M3 t X (fun d => mi M 127 d) := RV_cg r1 (fun a k z => by rw [e3, mi_si, if_neg (fun w => z (by unfold PN; omega))]; rfl) (fun a k => by rw [e3]; rfl)
  have z3 : mi M3 92 0 = 0 := by rw [e3, mi_si, if_pos ⟨rfl, rfl⟩]
  have x3 : ml M3 158 0 = x := by rw [e3]; exact (ml_sls : ml (sl M1 158 0 x) 158 0 = x)
  refine m_wiB (fun z => absurd q3 z) (fun _ => m_gains2 r5 (Or.inr ⟨n, hn, rfl⟩) (fun M4 r6 z6 l6 => ⟨rfl, z6.trans z3, ?_, t, X, r6.1⟩))
  rw [← x3]; unfold ml; rw [l6]
theorem k_look {t : Nat} {X : WS} {p0 p1 : Int32} (h : RX L M t X) (v : vLk X p0 p1) : w_X11_look L p0 p1 M (fun a M1 => ∀ x : Int64, w_X12_look L p0 p1 (sl M1 158 0 x) (fun b M2 => a = b ∧ mi M2 92 0 = 0 ∧ ml M2 158 0 = x ∧ RR L M2)) := by
  obtain ⟨⟨n1, n2, n3⟩, -⟩ := RX_n h
  obtain ⟨v2, v3⟩ := id v
  obtain ⟨o, ho, rfl⟩ := id v2
  have o10 : o < 10 := by omega
  have pp := RX_p h
  have hx := h.1.2.1.1
  have hm := h.1.2.2.1.1
  have pos := h.1.2.2.2.1.2.2 o
  unfold w_X11_look
  refine c_ownB n1 n3 (fun q => absurd v2 q) (fun _ => c_wiB (fun q => absurd v3 q) (fun _ => ⟨vp_in_nI (by omega) (by decide), ?_⟩))
  rw [tn_nI (n := o) (by omega)]
  -- the reference's side, for each answer
  have C : ∀ k, k = 107 ∨ k = 108 ∨ k = 110 ∨ k = 111 ∨ k = 120 ∨ k = 121 ∨ k = 122 ∨ k = 123 ∨ k = 124 → mi M k o = X.1 k o := fun k q => by
    have z : ∀ f, mi M f (10 * 0 + o) = vwM 0 M f o → mi M f o = X.1 f o := fun f e => by
      rw [Nat.mul_zero, Nat.zero_add] at e; rw [e, hm]
    rcases q with rfl | rfl | rfl | rfl | rfl | rfl | rfl | rfl | rfl
    · exact z 107 (rM_107 o10)
    · exact z 108 (rM_108 o10)
    · exact z 110 (rM_110 o10)
    · exact z 111 (rM_111 o10)
    · rw [rM_120 (s := 0) o10, hm]
    · rw [rM_121 (s := 0) o10, hm]
    · rw [rM_122 (s := 0) o10, hm]
    · rw [rM_123 (s := 0) o10, hm]
    · rw [rM_124 (s := 0) o10, hm]
  have R : ∀ (x : Int64) (a : Int32), a = lkF X o p1 → w_X12_look L (nI o) p1 (sl M 158 0 x) (fun b M2 => a = b ∧ mi M2 92 0 = 0 ∧ ml M2 158 0 = x ∧ RR L M2) := fun x a ha => by
    unfold w_X12_look
    intro M1 e1
    obtain ⟨rx, z0⟩ := th_0 (RX_sl h) e1
    have xx : ml M1 158 0 = x := by rw [e1]; exact (ml_sls : ml (sl M 158 0 x) 158 0 = x)
    have i1 : ∀ b k, b ≠ 92 → mi M1 b k = mi M b k := fun b k z => by rw [e1, mi_si, if_neg (by omega)]; rfl
    have n2' : mi M1 92 28 = nI (tn (X.1 28 0)) := by rw [e1]; exact n2
    have rr : RR L M1 := ⟨t, X, rx⟩
    refine m_ownB n2' n3 (fun z => absurd v2 z) (fun _ => m_wiB (fun z => absurd v3 z) (fun _ => ?_))
    rw [tn_nI (n := o) (by omega), i1 107 o (by decide), i1 108 o (by decide), i1 109 o (by decide), i1 110 o (by decide), i1 111 o (by decide), i1 120 o (by decide), i1 121 o (by decide), i1 122 o (by decide), i1 123 o (by decide), i1 124 o (by decide), i1 99 0 (by decide), C 107 (by simp), C 108 (by simp), C 110 (by simp), C 111 (by simp), C 120 (by simp), C 121 (by simp), C 122 (by simp), C 123 (by simp), C 124 (by simp)]
    have v20 : vp_in (nI o) 20 := vp_in_nI (by omega) (by decide)
    have v10 : vp_in (nI o) 10 := vp_in_nI (by omega) (by decide)
    unfold lkF at ha
    refine ⟨fun c => ⟨v20, ?_, z0, xx, rr⟩, fun c0 => ⟨fun c => ⟨v20, ?_, z0, xx, rr⟩, fun c1 => ⟨fun c => ⟨fun w => ⟨?_, z0, xx, rr⟩, fun w => ⟨v20, ?_, z0, xx, rr⟩⟩, fun c2 => ⟨fun c => ⟨v20, ?_, z0, xx, rr⟩, fun c3 => ⟨fun c => ⟨v20, fun y ex => ⟨?_, z0, xx, rr⟩⟩, fun c4 => ⟨fun c => ⟨v10, ?_, z0, xx, rr⟩, fun c5 => ⟨fun c => ⟨v10, ?_, z0, xx, rr⟩, fun c6 => ⟨fun c => ⟨v10, ?_, z0, xx, rr⟩, fun c7 => ⟨fun c => ⟨v10, ?_, z0, xx, rr⟩, fun c8 => ⟨v10, ?_, z0, xx, rr⟩⟩⟩⟩⟩⟩⟩⟩⟩⟩
    · rw [ha, if_pos c]
    · rw [ha, if_neg c0, if_pos c]
    · rw [ha, if_neg c0, if_neg c1, if_pos c, if_pos (pp.2.1.mp w)]
    · have e109 : mi M 109 o = X.1 109 o := by
        have := rM_109 (s := 0) (M := M) o10 w
        rw [Nat.mul_zero, Nat.zero_add] at this
        rw [this, hm]
      rw [ha, if_neg c0, if_neg c1, if_pos c, if_neg (fun z => w (pp.2.1.mpr z)), e109, jmax0 pos]
    · rw [ha, if_neg c0, if_neg c1, if_neg c2, if_pos c]
    · rw [ha, if_neg c0, if_neg c1, if_neg c2, if_neg c3, if_pos c, ex]
    · rw [ha, if_neg c0, if_neg c1, if_neg c2, if_neg c3, if_neg c4, if_pos c]
    · rw [ha, if_neg c0, if_neg c1, if_neg c2, if_neg c3, if_neg c4, if_neg c5, if_pos c]
    · rw [ha, if_neg c0, if_neg c1, if_neg c2, if_neg c3, if_neg c4, if_neg c5, if_neg c6, if_pos c]
    · rw [ha, if_neg c0, if_neg c1, if_neg c2, if_neg c3, if_neg c4, if_neg c5, if_neg c6, if_neg c7, if_pos c]
    · rw [ha, if_neg c0, if_neg c1, if_neg c2, if_neg c3, if_neg c4, if_neg c5, if_neg c6, if_neg c7, if_neg c8]
  rw [rC_107 o10, rC_108 o10, rC_110 o10, rC_111 o10, rC_120 o10, rC_121 o10, rC_122 o10, rC_123 o10, rC_124 o10, hx]
  refine ⟨fun c => (fun x => R x _ ?_), fun c0 => ⟨fun c => (fun x => R x _ ?_), fun c1 => ⟨fun c => ⟨fun w => (fun x => R x _ ?_), fun a w => (fun x => R x _ ?_)⟩, fun c2 => ⟨fun c => (fun x => R x _ ?_), fun c3 => ⟨fun c y ex => (fun x => R x _ ?_), fun c4 => ⟨fun c => (fun x => R x _ ?_), fun c5 => ⟨fun c => (fun x => R x _ ?_), fun c6 => ⟨fun c => (fun x => R x _ ?_), fun c7 => ⟨fun c => (fun x => R x _ ?_), fun c8 => (fun x => R x _ ?_)⟩⟩⟩⟩⟩⟩⟩⟩⟩
  · unfold lkF; rw [if_pos c]
  · unfold lkF; rw [if_neg c0, if_pos c]
  · unfold lkF; rw [if_neg c0, if_neg c1, if_pos c, if_pos (pp.1.mp w)]
  · unfold lkF
    rw [if_neg c0, if_neg c1, if_pos c, if_neg (fun z => by have := pp.1.mpr z; rw [this] at w; cases w), rC_109 w o10, hx]
  · unfold lkF; rw [if_neg c0, if_neg c1, if_neg c2, if_pos c]
  · unfold lkF; rw [if_neg c0, if_neg c1, if_neg c2, if_neg c3, if_pos c, ex]
  · unfold lkF; rw [if_neg c0, if_neg c1, if_neg c2, if_neg c3, if_neg c4, if_pos c]
  · unfold lkF; rw [if_neg c0, if_neg c1, if_neg c2, if_neg c3, if_neg c4, if_neg c5, if_pos c]
  · unfold lkF; rw [if_neg c0, if_neg c1, if_neg c2, if_neg c3, if_neg c4, if_neg c5, if_neg c6, if_pos c]
  · unfold lkF; rw [if_neg c0, if_neg c1, if_neg c2, if_neg c3, if_neg c4, if_neg c5, if_neg c6, if_neg c7, if_pos c]
  · unfold lkF; rw [if_neg c0, if_neg c1, if_neg c2, if_neg c3, if_neg c4, if_neg c5, if_neg c6, if_neg c7, if_neg c8]
end LRT
