-- further rules that the printed walks use
section XS2
variable {F : Fin9} {own : String} {b : ByteArray} {ret : Option FieldType} {mL : Nat} {nm : String} {d rc rs : Nat} {L : Lay} {M : Mem} {pc : Nat} {ls st : List Value}
theorem Y_tableIn (t : Nat) {k : Int32} {dflt lo hi : Int} {offs : Array Int} {len : Nat} {x : Int32} {off : Int} {h : Hp} (hx : x = k) (hd : decode b pc = .ok (.tableswitch dflt lo hi offs, len)) (z1 : ¬ k.toInt < lo) (z2 : ¬ hi < k.toInt) (ho : offs[(k.toInt - lo).toNat]? = some off) (ht : (pc : Int) + off = (t : Int)) (kk : X F own b ret mL nm d rc rs h t ls st) : X F own b ret mL nm d rc rs h pc ls (.int x :: st) := by
  subst hx; exact X_tableIn t hd z1 z2 ho ht kk
theorem Y_lookIn (t : Nat) {k : Int32} {dflt : Int} {ps : Array (Int × Int)} {len : Nat} {x : Int32} {off : Int} {h : Hp} (hx : x = k) (hd : decode b pc = .ok (.lookupswitch dflt ps, len)) (hq : (ps.toList.zip (ps.toList.drop 1)).all (fun (a, next) => a.1 < next.1) = true) (ho : Op.lookupswitch.offset ps.toList dflt k.toInt = off) (ht : (pc : Int) + off = (t : Int)) (kk : X F own b ret mL nm d rc rs h t ls st) : X F own b ret mL nm d rc rs h pc ls (.int x :: st) := by
  subst hx; exact X_lookup t hd hq ho ht kk
theorem X_aastO (q : Nat) {a n : Nat} {i : Int32} {o : Option Nat} (ha : AR L a 7 n) (hin : vp_in i n) (ho : ∀ v, o = some v → OB L v 4) (hd : decode b pc = .ok (.aastore, 1)) (hp : pc + 1 = q)
    (k : X F own b ret mL nm d rc rs (L, sq M a (tn i) o) q ls st) : X F own b ret mL nm d rc rs (L, M) pc ls (va_rf o :: .int i :: .ref a :: st) := by
  cases o with
  | none => exact X_aastN q ha hin hd hp k
  | some v => exact X_aastQ q ha hin (ho v rfl) (by decide) ⟨TX4, 7, rfl⟩ hd hp k
end XS2
/-- a stretch of ints is copied -/
def cpy (M : Mem) (a b sp dp n : Nat) : Mem := (fun z j => if z = b then va_cpy (M.1 a) (M.1 b) sp dp n j else M.1 z j, M.2.1, M.2.2)
section XS3
variable {F : Fin9} {own : String} {b : ByteArray} {ret : Option FieldType} {mL : Nat} {nm : String} {d rc rs : Nat} {L : Lay} {M : Mem} {pc : Nat} {ls st : List Value}
theorem cell_cpy {g : Ev} {a c sp dp n z : Nat} (hz : z ≠ c) : cellE g (L, cpy M a c sp dp n) z = cellE g (L, M) z := by
  show cellR g (L.2.1 z) ((cpy M a c sp dp n).1 z) (M.2.1 z) (M.2.2 z) (L.2.2 z) = _
  have : (cpy M a c sp dp n).1 z = M.1 z := by funext j; exact if_neg hz
  rw [this]; rfl
theorem row_cpy_self {a c sp dp n : Nat} : (cpy M a c sp dp n).1 c = va_cpy (M.1 a) (M.1 c) sp dp n := by funext j; exact if_pos rfl
theorem X_acopy (q : Nat) {idx a c n0 n1 : Nat} {sp dp n : Int32} (hw : Cond.methodLink own idx arraycopyName ∈ GW ∧ Cond.native arraycopyName ∈ GW ∧ Cond.static arraycopyName ∈ GW ∧ Cond.initialized "java/lang/System" ∈ GW) (ha : AR L a 0 n0) (hc : AR L c 0 n1)
    (hin : ¬ sp < 0 ∧ ¬ dp < 0 ∧ ¬ n < 0 ∧ tn sp + tn n ≤ n0 ∧ tn dp + tn n ≤ n1) (hd2 : 2 ≤ d) (hs : st.length ≤ 4) (hd : decode b pc = .ok (.invokestatic idx, 3)) (hp : pc + 3 = q)
    (kk : X F own b ret mL nm d rc rs (L, cpy M a c (tn sp) (tn dp) (tn n)) q ls st) : X F own b ret mL nm d rc rs (L, M) pc ls (.int n :: .int dp :: .ref c :: .int sp :: .ref a :: st) := by
  subst hp
  intro g p l e R s m args below meth cc H locs LS cells slots C hR hS hL z1 z2
  have hK := C.2.2.2.2.2.2.2.2.1.1
  obtain ⟨-, hb, hml, hown, hts, -, -, -, hKX, hdR, hlR⟩ := id C
  obtain ⟨w1, w2, w3, w4⟩ := hw
  obtain ⟨h1, h2, h3, h4, h5⟩ := hin
  have hcs := catsum (KX.sio hKX) hs
  have nn : ∀ z : Int32, ¬ z < 0 → z.toInt = (z.toNatClampNeg : Int) := by
    intro z hz
    have hz0 : (0 : Int) ≤ z.toInt := by
      have := Int32.not_lt.mp hz
      simpa using Int32.le_iff_toInt_le.mp this
    show z.toInt = ((z.toInt.toNat : Nat) : Int)
    omega
  intro T hT Xs
  have hc0 := Rep.ar hR ha
  have hc1 := Rep.ar hR hc
  rw [arr_i (by decide)] at hc0 hc1
  obtain ⟨-, k0, hk0, cm0, hkk0⟩ := (hK.2 0 _ (tysL_at (by decide))).1 n0 (fun j => .int (M.1 a j))
  obtain ⟨-, k1, hk1, cm1, hkk1⟩ := (hK.2 0 _ (tysL_at (by decide))).1 n1 (fun j => .int (M.1 c j))
  obtain ⟨vm', X', step⟩ := Xs.arraycopy C.1 hown (hts _ w1) (hts _ w2) (hts _ w3) (hts _ w4) (src := g.1 + a) (dst := g.1 + c) (cs := vp_cell (g.2.2.2.1 0) (n0, .inl (M.1 a))) (cd := vp_cell (g.2.2.2.1 0) (n1, .inl (M.1 c))) (srcPos := sp) (destPos := dp) (n := n) (by rw [hT]; exact hc0) (by rw [hT]; exact hc1)
    (fun _ h => by cases h) (fun _ h => by cases h) (fun h => by cases h) (fun h => by cases h) hk0 hk1 hkk0 hkk1 (by simp [AT, refKind]) h1 h2 h3
    (by rw [nn sp h1, nn n h3]; show ¬ _ > ((arrV _ n0 (fun j => .int (M.1 a j))).slots.size : Int); rw [arrV_size]; show ¬ _ > (n0 : Int); have : sp.toNatClampNeg + n.toNatClampNeg ≤ n0 := h4; omega)
    (by rw [nn dp h2, nn n h3]; show ¬ _ > ((arrV _ n1 (fun j => .int (M.1 c j))).slots.size : Int); rw [arrV_size]; show ¬ _ > (n1 : Int); have : dp.toNatClampNeg + n.toNatClampNeg ≤ n1 := h5; omega)
    (fun vm₁ _ i hi => by
      have e : (vp_cell (g.2.2.2.1 0) (n0, .inl (M.1 a))).slots.getD (sp.toNatClampNeg + i) .null = .int (M.1 a (sp.toNatClampNeg + i)) := by
        show (arrV _ n0 (fun j => .int (M.1 a j))).slots.getD _ _ = _
        have : sp.toNatClampNeg + n.toNatClampNeg ≤ n0 := h4
        rw [Array.getD_eq_getD_getElem?, arrV_read _ _ (by omega)]
        rfl
      refine ⟨?_, ?_⟩
      · rw [e]
        rfl
      · rw [e]
        exact trivial)
    (g := F0 m pc LS (.int n :: .int dp :: .ref (g.1 + c) :: .int sp :: .ref (g.1 + a) :: st.map (cv g))) rfl (by rw [hml]; exact hL.1) (rest := st.map (cv g)) rfl (by rw [hb]; exact hd) (by omega) (by
      show 2 * 0 + _ + _ ≤ _
      have : nativeFrameWords "java/lang/System" "arraycopy" 5 + 11 ≤ 60 := by decide +kernel
      omega)
  have e1 : copied (vp_cell (g.2.2.2.1 0) (n0, .inl (M.1 a))) (vp_cell (g.2.2.2.1 0) (n1, .inl (M.1 c))) sp dp n = vp_cell (g.2.2.2.1 0) (n1, .inl (va_cpy (M.1 a) (M.1 c) sp.toNatClampNeg dp.toNatClampNeg n.toNatClampNeg)) := va_copied (fun z => .int z) _ _ (M.1 a) (M.1 c) h4
  rw [e1] at X' step
  have hl : g.1 + c < H.size := (Array.getElem?_eq_some_iff.mp hc1).1
  have hheap : ((T.setVm vm').setCell (g.1 + c) (vp_cell (g.2.2.2.1 0) (n1, .inl (va_cpy (M.1 a) (M.1 c) sp.toNatClampNeg dp.toNatClampNeg n.toNatClampNeg)))).heap = H.setIfInBounds (g.1 + c) (vp_cell (g.2.2.2.1 0) (n1, .inl (va_cpy (M.1 a) (M.1 c) sp.toNatClampNeg dp.toNatClampNeg n.toNatClampNeg))) := by rw [← hT]; rfl
  have oq : ∀ q : Nat, q ≠ g.1 + c → (H.setIfInBounds (g.1 + c) (vp_cell (g.2.2.2.1 0) (n1, .inl (va_cpy (M.1 a) (M.1 c) sp.toNatClampNeg dp.toNatClampNeg n.toNatClampNeg))))[q]? = H[q]? := fun q hq => by simp [Array.getElem?_setIfInBounds, Ne.symm hq]
  have hrep : Rep g (L, cpy M a c (tn sp) (tn dp) (tn n)) (H.setIfInBounds (g.1 + c) (vp_cell (g.2.2.2.1 0) (n1, .inl (va_cpy (M.1 a) (M.1 c) sp.toNatClampNeg dp.toNatClampNeg n.toNatClampNeg)))) := by
    refine Rep.upd (h' := (L, cpy M a c (tn sp) (tn dp) (tn n))) hR rfl rfl hc.1 (by simp) oq (fun z hz => cell_cpy hz) ?_
    rw [cellE_ar (h := (L, cpy M a c (tn sp) (tn dp) (tn n))) hc]
    show (H.setIfInBounds (g.1 + c) _)[g.1 + c]? = some (vp_cell (g.2.2.2.1 0) (n1, arrc g 0 ((cpy M a c (tn sp) (tn dp) (tn n)).1 c) (M.2.1 c) (M.2.2 c) (L.2.2 c)))
    rw [arr_i (by decide), row_cpy_self]
    simp [Array.getElem?_setIfInBounds, hl]
  obtain ⟨t, a1, b1⟩ := kk g p l e R s m args below meth cc _ _ LS cells slots C hrep ⟨by simp; exact hS.1, fun q g1 g2 => by
      rw [oq q (fun e => g2 (by rw [e]; exact Nat.le_add_right _ _))]
      exact hS.2.1 q g1 g2, fun q hq => by
      rcases List.mem_append.mp hq with h | h
      · exact hS.2.2 q h
      · obtain ⟨z, -, hz⟩ := List.mem_map.mp h
        rw [← hz]
        exact Nat.le_add_right _ _⟩ hL z1 z2 _ hheap X'
  exact ⟨t, step t a1, b1⟩
end XS3
theorem w_X4_40 : Cond.methodLink RX4 40 arraycopyName ∈ GW ∧ Cond.native arraycopyName ∈ GW ∧ Cond.static arraycopyName ∈ GW ∧ Cond.initialized "java/lang/System" ∈ GW := ⟨gw_t4 24 (by decide +kernel) (by decide +kernel), gw_t4 18 (by decide +kernel) (by decide +kernel), gw_t4 17 (by decide +kernel) (by decide +kernel), gw_t1 21 (by decide +kernel) (by decide +kernel)⟩
theorem w_X9_38 : Cond.methodLink RX9 38 arraycopyName ∈ GW ∧ Cond.native arraycopyName ∈ GW ∧ Cond.static arraycopyName ∈ GW ∧ Cond.initialized "java/lang/System" ∈ GW := ⟨gw_t5 62 (by decide +kernel) (by decide +kernel), gw_t4 18 (by decide +kernel) (by decide +kernel), gw_t4 17 (by decide +kernel) (by decide +kernel), gw_t1 21 (by decide +kernel) (by decide +kernel)⟩
theorem w_J7_150 : Cond.methodLink RJ7 150 arraycopyName ∈ GW ∧ Cond.native arraycopyName ∈ GW ∧ Cond.static arraycopyName ∈ GW ∧ Cond.initialized "java/lang/System" ∈ GW := ⟨gw_t4 16 (by decide +kernel) (by decide +kernel), gw_t4 18 (by decide +kernel) (by decide +kernel), gw_t4 17 (by decide +kernel) (by decide +kernel), gw_t1 21 (by decide +kernel) (by decide +kernel)⟩
