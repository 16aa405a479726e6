-- LEVEL 3, part 70: what the Statement gives of the start is what every walk stands on (KX) (by program: wip/whole/gen_kx.py)
section KXS
variable {s : State} {args : Array Value}
theorem nw_i (hgv : (Jvm.Cond.and given_1 narrow_1).before args s = true) (i : Nat) {w : Cond} (h : (flatC (Jvm.Cond.and given_1 narrow_1))[i]? = some w) : w.before args s = true := flat_of_before _ hgv w (List.mem_of_getElem? h)
theorem tb_i (hts : ∀ w ∈ lw_tbl, w.before args s = true) (i : Nat) {w : Cond} (h : tables_1[i]? = some w) : w.before args s = true := hts w (List.mem_append_right _ (List.mem_of_getElem? h))
theorem kn_of (hg : ∀ w ∈ GW, w.before args s = true) {c N : Nat} {C : String} {T : u_T} {ty : Nat → FieldType} (h : CB c C T N ty) : ∃ p : ClassId × (Nat → Nat), ∀ q : vw_C, vwCl[c]? = some q → u_Kn s q.1 q.2.1 q.2.2 p.1 p.2 := by
  obtain ⟨cC, iS, k⟩ := u_known (C := C) (T := T) (N := N) (n := N) hg h.2.1 (hg _ h.2.2.2.2.2.2.1)
  refine ⟨(cC, iS), fun q e => ?_⟩
  rw [h.1] at e
  cases e
  exact k
theorem kn_all (hg : ∀ w ∈ GW, w.before args s = true) (c : Nat) : ∃ p : ClassId × (Nat → Nat), ∀ q : vw_C, vwCl[c]? = some q → u_Kn s q.1 q.2.1 q.2.2 p.1 p.2 := by
  match c with
  | 0 => exact kn_of hg cb0
  | 1 => exact kn_of hg cb1
  | 2 => exact kn_of hg cb2
  | 3 => exact kn_of hg cb3
  | 4 => exact kn_of hg cb4
  | 5 => exact kn_of hg cb5
  | 6 => exact kn_of hg cb6
  | 7 => exact kn_of hg cb7
  | 8 => exact kn_of hg cb8
  | 9 => exact kn_of hg cb9
  | 10 => exact kn_of hg cb10
  | 11 => exact kn_of hg cb11
  | 12 => exact kn_of hg cb12
  | c + 13 => exact ⟨(0, fun _ => 0), fun q e => by cases e⟩
theorem ar_c (hg : ∀ w ∈ GW, w.before args s = true) {ty : FieldType} (h : Cond.arrayClass ty ∈ GW) : ∃ cA : ClassId, ArrOfT s cA ty ∧ s.vm.findClass ("[" ++ ty.toString) = some cA := by
  obtain ⟨cA, kA, comp, h1, h2, h3⟩ := Cond.arrayClass_spec (args := args) (first := s) (o := none) (s := s) (idx := []) (hg _ h)
  exact ⟨cA, fun n z => ⟨(fun k e => by cases e), kA, h2, comp, h3⟩, h1⟩
theorem ar_o {C : String} (h : (Cond.arrayOver (.object C)).before args s = true) : ∃ cA : ClassId, ArrOfT s cA (.object C) ∧ va_RA s cA (.object C) := by
  obtain ⟨comp, cA, kA, h1, -, h3, h4, h5⟩ := Cond.arrayOver_spec (args := args) (first := s) (o := none) (s := s) (idx := []) h
  exact ⟨cA, fun n z => ⟨(fun k e => by cases e), kA, h3, comp, h4⟩, kA, comp, h3, h4, h1, h5⟩
theorem ar_all (hg : ∀ w ∈ GW, w.before args s = true) (h5 : (Cond.arrayOver (.object RX3)).before args s = true) (h6 : (Cond.arrayOver (.object RX9)).before args s = true) (h7 : (Cond.arrayOver (.object RX4)).before args s = true) (t : Nat) : ∃ cA : ClassId, t < 8 → ArrOfT s cA (AT t) ∧ va_RA s cA (AT t) := by
  match t with
  | 0 => exact (fun ⟨cA, a, b⟩ => ⟨cA, fun _ => ⟨a, b⟩⟩) (ar_c hg ac0)
  | 1 => exact (fun ⟨cA, a, b⟩ => ⟨cA, fun _ => ⟨a, b⟩⟩) (ar_c hg ac1)
  | 2 => exact (fun ⟨cA, a, b⟩ => ⟨cA, fun _ => ⟨a, b⟩⟩) (ar_c hg ac2)
  | 3 => exact (fun ⟨cA, a, b⟩ => ⟨cA, fun _ => ⟨a, b⟩⟩) (ar_c hg ac3)
  | 4 => exact (fun ⟨cA, a, b⟩ => ⟨cA, fun _ => ⟨a, b⟩⟩) (ar_c hg ac4)
  | 5 => exact (fun ⟨cA, a, b⟩ => ⟨cA, fun _ => ⟨a, b⟩⟩) (ar_o h5)
  | 6 => exact (fun ⟨cA, a, b⟩ => ⟨cA, fun _ => ⟨a, b⟩⟩) (ar_o h6)
  | 7 => exact (fun ⟨cA, a, b⟩ => ⟨cA, fun _ => ⟨a, b⟩⟩) (ar_o h7)
  | t + 8 => exact ⟨0, fun h => absurd h (by omega)⟩
theorem el_0 : ∀ j, j < 9 → (flatC (Jvm.Cond.and given_1 narrow_1))[293 + j]? = some (Cond.eq (.elem (.field (.string RX5 163) "java/lang/String" "value" "[B") (.int (Int32.ofNat j))) (.int ((sby.getD 0 []).getD j 0))) := by decide +kernel
theorem el_1 : ∀ j, j < 216 → (flatC (Jvm.Cond.and given_1 narrow_1))[73 + j]? = some (Cond.eq (.elem (.field (.string RX5 173) "java/lang/String" "value" "[B") (.int (Int32.ofNat j))) (.int ((sby.getD 1 []).getD j 0))) := by decide +kernel
def tmS (i : Nat) : Term := if i = 0 then .string RX5 163 else .string RX5 173
theorem two {P : Nat → Prop} (h0 : P 0) (h1 : P 1) : ∀ i, i < 2 → P i := fun i hi => by
  match i, hi with
  | 0, _ => exact h0
  | 1, _ => exact h1
theorem vk_2 (hgv : (Jvm.Cond.and given_1 narrow_1).before args s = true) {A : Nat → Prop} (hA : ∀ a : Nat, a < s.heap.size → ¬ A a) : ∃ adK adV : Nat → Nat, vk_S 2 sln sby adK adV A s s.heap ∧ ∀ i : Nat, i < 2 → (tmS i).eval args s none [] s = some (.ref (adK i)) := by
  refine vk_Sof (tm := tmS) (two (by decide) (by decide)) (two (nw_i hgv 289 (by decide +kernel)) (nw_i hgv 69 (by decide +kernel))) (two (nw_i hgv 290 (by decide +kernel)) (nw_i hgv 70 (by decide +kernel))) (two (nw_i hgv 291 (by decide +kernel)) (nw_i hgv 71 (by decide +kernel))) (two (nw_i hgv 292 (by decide +kernel)) (nw_i hgv 72 (by decide +kernel)))
    (two (fun j hj => nw_i hgv (293 + j) (el_0 j hj)) (fun j hj => nw_i hgv (73 + j) (el_1 j hj))) (fun i j hi hj hn => ?_) hA
  have h := nw_i hgv 302 (w := Cond.not (Cond.eq (tmS 1) (tmS 0))) (by decide +kernel)
  match i, j, hi, hj, hn with
  | 0, 0, _, _, hn => exact absurd rfl hn
  | 0, 1, _, _, _ => exact Or.inr h
  | 1, 0, _, _, _ => exact Or.inl h
  | 1, 1, _, _, hn => exact absurd rfl hn
theorem ex_at {t : Term} (h : (Cond.exactly t "java/lang/String").before args s = true) : ∃ a, t.eval args s none [] s = some (.ref a) := by
  obtain ⟨a, c, cA, kA, q1, -⟩ := Cond.exactly_spec (args := args) (first := s) (o := none) (s := s) (idx := []) (t := t) (cls := "java/lang/String") h
  exact ⟨a, q1⟩
theorem nest_ok (hts : ∀ w ∈ lw_tbl, w.before args s = true) : ∀ q ∈ NWL, va_Nw (.methodLinkNest q.1 q.2.1 q.2.2.1 q.2.2.2) s := by
  unfold NWL
  refine List.forall_mem_cons.mpr ⟨?_, List.forall_mem_cons.mpr ⟨?_, List.forall_mem_cons.mpr ⟨?_, List.forall_mem_cons.mpr ⟨?_, List.forall_mem_cons.mpr ⟨?_, List.forall_mem_cons.mpr ⟨?_, List.forall_mem_cons.mpr ⟨?_, List.forall_mem_cons.mpr ⟨?_, List.forall_mem_cons.mpr ⟨?_, fun _ h => absurd h List.not_mem_nil⟩⟩⟩⟩⟩⟩⟩⟩⟩
  · exact va_Nw.of rfl (tb_i hts 47 (by decide +kernel))
  · exact va_Nw.of rfl (tb_i hts 89 (by decide +kernel))
  · exact va_Nw.of rfl (tb_i hts 102 (by decide +kernel))
  · exact va_Nw.of rfl (tb_i hts 180 (by decide +kernel))
  · exact va_Nw.of rfl (tb_i hts 290 (by decide +kernel))
  · exact va_Nw.of rfl (tb_i hts 342 (by decide +kernel))
  · exact va_Nw.of rfl (tb_i hts 368 (by decide +kernel))
  · exact va_Nw.of rfl (tb_i hts 399 (by decide +kernel))
  · exact va_Nw.of rfl (tb_i hts 642 (by decide +kernel))
set_option maxRecDepth 20000 in
/-- the start: an environment of the walks in which the script is the ninth reference -/
theorem kx_start (hts : ∀ w ∈ lw_tbl, w.before args s = true) (hgv : (Jvm.Cond.and given_1 narrow_1).before args s = true) (b : Nat) : ∃ g : Ev, g.1 = s.heap.size ∧ sB g = b ∧ KX g s := by
  have hg : ∀ w ∈ GW, w.before args s = true := fun w hw => hts w (gw_tb hw)
  have o3 : (Cond.arrayOver (.object RX3)).before args s = true := tb_i hts 42 (by decide +kernel)
  have o9 : (Cond.arrayOver (.object RX9)).before args s = true := tb_i hts 44 (by decide +kernel)
  have o4 : (Cond.arrayOver (.object RX4)).before args s = true := tb_i hts 347 (by decide +kernel)
  obtain ⟨dK, hdK⟩ := Classical.axiomOfChoice (kn_all hg)
  obtain ⟨dA, hdA⟩ := Classical.axiomOfChoice (ar_all hg o3 o9 o4)
  have hA : ∀ a : Nat, a < s.heap.size → ¬ (fun q : Nat => s.heap.size ≤ q) a := fun a ha => Nat.not_le.mpr ha
  obtain ⟨adK, adV, hvk, hev⟩ := vk_2 hgv hA
  obtain ⟨a6, e6⟩ := ex_at (nw_i hgv 303 (w := .exactly (.string RX11 236) "java/lang/String") (by decide +kernel))
  obtain ⟨a7, e7⟩ := ex_at (nw_i hgv 332 (w := .exactly (.string RX11 251) "java/lang/String") (by decide +kernel))
  obtain ⟨a8, e8⟩ := ex_at (nw_i hgv 352 (w := .exactly (.string RX11 263) "java/lang/String") (by decide +kernel))
  obtain ⟨v, hv, hvr⟩ : ∃ v : Value, va_Z RJ3 "SIOOBE_FORMATTER" "Ljava/util/function/BiFunction;" v (fun q : Nat => s.heap.size ≤ q) s s.heap ∧ (v = .null ∨ ∃ a, v = .ref a) := by
    rcases va_Zqof (C := RJ3) (n := "SIOOBE_FORMATTER") (d := "Ljava/util/function/BiFunction;") (A := fun q : Nat => s.heap.size ≤ q) (tb_i hts 543 (by decide +kernel)) (tb_i hts 15 (by decide +kernel)) (nw_i hgv 5 (by decide +kernel)) hA with h | ⟨t, h⟩
    · exact ⟨_, h, Or.inl rfl⟩
    · exact ⟨_, h, Or.inr ⟨t, rfl⟩⟩
  refine ⟨(s.heap.size, (fun c => (dK c).1), (fun c => (dK c).2), dA, (fun k => if k = 1 then adK 0 else if k = 2 then adK 1 else if k = 3 then adV 0 else if k = 4 then adV 1 else if k = 6 then a6 else if k = 7 then a7 else if k = 8 then a8 else b), v), rfl, rfl, ⟨fun c q hq => hdK c q hq, fun k q hq => ?_⟩, nest_ok hts, ?_, o3, o9, o4, ?_, ?_, ?_, ?_, ?_, ?_, ?_, hv, hvr, ?_, ?_, ?_⟩
  · have hk : k < 8 := by
      have := (List.getElem?_eq_some_iff.mp hq).1
      simp only [tysL, List.length_map, List.length_range] at this
      exact this
    rw [tysL_at hk] at hq
    cases hq
    exact hdA k hk
  · exact List.forall_mem_cons.mpr ⟨va_Nw.of rfl (tb_i hts 1092 (by decide +kernel)), List.forall_mem_cons.mpr ⟨va_Nw.of rfl (tb_i hts 733 (by decide +kernel)), fun _ h => absurd h List.not_mem_nil⟩⟩
  · have e : ∀ i, i < 2 → (fun i => (fun k => if k = 1 then adK 0 else if k = 2 then adK 1 else if k = 3 then adV 0 else if k = 4 then adV 1 else if k = 6 then a6 else if k = 7 then a7 else if k = 8 then a8 else b) (1 + i)) i = adK i := two rfl rfl
    have e2 : ∀ i, i < 2 → (fun i => (fun k => if k = 1 then adK 0 else if k = 2 then adK 1 else if k = 3 then adV 0 else if k = 4 then adV 1 else if k = 6 then a6 else if k = 7 then a7 else if k = 8 then a8 else b) (3 + i)) i = adV i := two rfl rfl
    refine ⟨fun i hi => ?_, fun i j hi hj q => ?_⟩
    · have := hvk.1 i hi
      rw [← e i hi, ← e2 i hi] at this
      exact this
    · exact hvk.2 i j hi hj ((e i hi).symm.trans (q.trans (e j hj)))
  · exact vk_R.of (tb_i hts 573 (by decide +kernel)) (hev 0 (by decide))
  · exact vk_R.of (tb_i hts 525 (by decide +kernel)) (hev 1 (by decide))
  · exact vk_R.of (tb_i hts 1129 (by decide +kernel)) e6
  · exact vk_R.of (tb_i hts 1162 (by decide +kernel)) e7
  · exact vk_R.of (tb_i hts 1170 (by decide +kernel)) e8
  · exact va_Zof (tb_i hts 535 (by decide +kernel)) (tb_i hts 13 (by decide +kernel)) (va_eqt (nw_i hgv 4 (by decide +kernel))) hA
  · exact vx_Zqof (tb_i hts 1117 (by decide +kernel)) (tb_i hts 23 (by decide +kernel)) (nw_i hgv 9 (by decide +kernel)) hA
  · exact vx_Zqof (tb_i hts 1119 (by decide +kernel)) (tb_i hts 23 (by decide +kernel)) (nw_i hgv 10 (by decide +kernel)) hA
  · exact List.forall_mem_cons.mpr ⟨va_Nw.of rfl (tb_i hts 1094 (by decide +kernel)), List.forall_mem_cons.mpr ⟨va_Nw.of rfl (tb_i hts 1096 (by decide +kernel)), List.forall_mem_cons.mpr ⟨va_Nw.of rfl (tb_i hts 1098 (by decide +kernel)), fun _ h => absurd h List.not_mem_nil⟩⟩⟩
end KXS
