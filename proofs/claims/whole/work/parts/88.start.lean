-- LEVEL 3, part 71: the law's walk at the machine
theorem whole_start {p : Program} {e : Env} {s : State} {m : MethodId} {below : List Frame} {meth : Method} {c : Code} (l : Launch) (hflags : l.flags = flags0) {b L : Nat} {xs : Nat → Int32} (hL : L ≤ 3584) (C0 : lw_At p s m meth c b L xs) : W p l e room_1 s m #[Value.ref b] below meth c s.heap [] 0 0 (lw_Z below #[Value.ref b] s) (entryFrame m ([Value.ref b] : List Value).toArray 7) := by
  obtain ⟨hx, hb, hr, hml, hown, hts, hX, hbl, hlocks, hgv, hnm⟩ := C0
  obtain ⟨g, eg, eb, hK⟩ := kx_start hts hgv b
  have htr : l.stackTraces = false := by
    unfold Launch.stackTraces
    rw [hflags]
    decide +kernel
  have hR : Rep g (Lc 0 [], Mc [] []) s.heap := ⟨by rw [eg]; rfl, fun a ha => absurd ha (Nat.not_lt_zero a)⟩
  have hl := lv_entry ([.ref b]) (n := 7) (Nat.le_of_ble_eq_true rfl)
  rw [lg_entry_eq]
  generalize (lg_sl ([.ref b]) ++ List.replicate (7 - (lg_sl ([.ref b])).length) Slot.unset).toArray = ls at hl ⊢
  have hl : lv_has ls 7 [(0, .ref b)] := hl
  have ecv : cv g (.float 9) = .ref b := by rw [← eb]; rfl
  have hLR : LRl g 7 [.float 9, junk, junk, junk, junk, junk, junk] ls := by
    refine ⟨hl.1, hl.2.1, Nat.le_refl _, fun i v hi hv => ?_⟩
    match i, hi with
    | 0, hi => cases hi; rw [ecv]; exact hl.2.2 _ List.mem_cons_self
    | 1, hi => cases hi; exact absurd rfl hv
    | 2, hi => cases hi; exact absurd rfl hv
    | 3, hi => cases hi; exact absurd rfl hv
    | 4, hi => cases hi; exact absurd rfl hv
    | 5, hi => cases hi; exact absurd rfl hv
    | 6, hi => cases hi; exact absurd rfl hv
    | i + 7, hi => cases hi
  have hC : XC g RL cL_law ret 7 "law" 12 p room_1 s m #[Value.ref b] meth c :=
    ⟨hx, hb, hml, hown, fun w hw => hts w (gw_tb hw), hr, hlocks, hnm, hK, Nat.le_of_ble_eq_true rfl, Nat.le_of_ble_eq_true rfl⟩
  have K := law_body (N := L) (xs := xs) hL g p l e room_1 s m #[Value.ref b] below meth c s.heap [] ls 0 0 hC hR va_S.rf hLR (Nat.le_of_ble_eq_true rfl) (Nat.le_of_ble_eq_true rfl)
  intro T hT S
  obtain ⟨t, a1, a2⟩ := K T hT S
  exact ⟨t, a1, a2 htr ⟨eg, rfl, by rw [eb], by rw [eb]; exact hX, by rw [eb]; exact hbl⟩⟩
