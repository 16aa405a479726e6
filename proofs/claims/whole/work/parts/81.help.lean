-- LEVEL 3, part 64: the law's three helpers, that catch what the class throws
theorem RX_lay {L L' : Lay} {M : Mem} {t : Nat} {X : WS} (h : RX L M t X) (hL : 159 ≤ L.1) (hE : LE L L') : RX L' M t X :=
  RX_gr (h' := X.2.2.2.2) h hL hE (fun _ _ _ _ _ _ _ _ => rfl) (fun _ _ _ _ => rfl) h.2.2.1 (optC_lay hE h.1.2.1.2.2.2.2.1) h.1.2.2.1.2.2.2.2.2.2.2.1 h.1.2.2.2.2.2.2.2.2.2.2
theorem LE.jnk {L : Lay} {n : Nat} : LE L (jnk L n) := ⟨Nat.le_add_right _ _, fun _ ha => if_pos ha, fun _ _ _ => rfl⟩
theorem RX_sl {L : Lay} {M : Mem} {t a k : Nat} {x : Int64} {X : WS} (h : RX L M t X) : RX L (sl M a k x) t X := RX_cg h (fun _ _ _ => rfl) (fun _ _ => rfl)
theorem RR_sl {L : Lay} {M : Mem} {a k : Nat} {x : Int64} (h : RR L M) : RR L (sl M a k x) := by
  obtain ⟨t, X, h⟩ := h
  exact ⟨t, X, RX_sl h⟩
theorem X_retH {own : String} {b : ByteArray} {ret : Option FieldType} {mL : Nat} {nm : String} {d rc rs : Nat} {h : Hp} {pc : Nat} {ls : List Value} {hh : List (Nat × Nat × Nat × Nat)} {Q : Option Value → Hp → Prop} {v : Int32} {ty : FieldType}
    (hr : ret = some ty) (hn : narrow ty (.int v) = .int v) (hd : decode b pc = .ok (.ireturn, 1)) (hq : Q (some (.int v)) h) : X (FH hh Q) own b ret mL nm d rc rs h pc ls [.int v] := by
  intro g p l e R s m args below meth cc H locs LS cells slots C hR hS hL h1 h2 T hT S
  obtain ⟨t, a1, a2⟩ := X_ret (Q := Q) (mL := mL) (nm := nm) (ls := ls) (own := own) (d := d) (rc := rc) (rs := rs) hr hn hd hq g p l e R s m args below meth cc H locs LS cells slots C hR hS hL h1 h2 T hT S
  exact ⟨t, a1, fun _ _ => a2⟩
abbrev hhW : List (Nat × Nat × Nat × Nat) := [(0, 12, 15, 13)]
abbrev hhT : List (Nat × Nat × Nat × Nat) := [(0, 9, 12, 13)]
abbrev hhK : List (Nat × Nat × Nat × Nat) := [(0, 10, 13, 13)]
theorem hl_cl : Cond.classLink RL 13 NSE ∈ GW := by decide +kernel
theorem m_L_112 : CTH RL 112 yL_whatIf cL_whatIf 6 (some .int) hhW 5 := ⟨by decide +kernel, by decide +kernel, by decide +kernel, by decide +kernel, by decide, by decide, by decide +kernel, by decide⟩
theorem m_L_129 : CTH RL 129 yL_tried cL_tried 4 (some .int) hhT 3 := ⟨by decide +kernel, by decide +kernel, by decide +kernel, by decide +kernel, by decide, by decide, by decide +kernel, by decide⟩
theorem m_L_142 : CTH RL 142 yL_look cL_look 5 (some .int) hhK 4 := ⟨by decide +kernel, by decide +kernel, by decide +kernel, by decide +kernel, by decide, by decide, by decide +kernel, by decide⟩
/-- it answered a: out holds it, 0 comes back -/
def qOK (L : Lay) (Q : Int32 → Mem → Prop) : Option Value → Hp → Prop := fun r h' => ∃ (a : Int32) (M1 : Mem), r = some (.int 0) ∧ h' = (L, sl M1 158 0 a.toInt64) ∧ Q a M1
/-- it threw: 1 comes back -/
def qNO (L : Lay) (M : Mem) : Option Value → Hp → Prop := fun r h' => ∃ n : Nat, r = some (.int 1) ∧ h' = (jnk L n, M)
section HLP
variable {L : Lay} {M : Mem}
theorem h_whatIf (hL : LY L) {p0 p1 p2 : Int32} {Q : Int32 → Mem → Prop} (hw : w_X11_whatIf L p0 p1 p2 M Q) : MXH yL_whatIf cL_whatIf (some .int) 6 hhW 10 1 6 [.ref 0, .int p0, .int p1, .int p2, .ref 158] (L, M) (qOK L Q) := by
  refine MXH_of (by decide) [.ref 0, .int p0, .int p1, .int p2, .ref 158, junk] (by rfl) (by exact Nat.le_of_ble_eq_true rfl) ?_
  show X (FH hhW (qOK L Q)) RL cL_whatIf (some .int) 6 "whatIf" 10 1 6 (L, M) 0 [.ref 0, .int p0, .int p1, .int p2, .ref 158, junk] []
  refine X_aload 2 dL_whatIf_0 rfl rfl ?_
  refine X_iconst 3 (v := 0) dL_whatIf_2 rfl rfl ?_
  refine X_aload_n 4 dL_whatIf_3 rfl rfl ?_
  refine X_iload_n 5 dL_whatIf_4 rfl rfl ?_
  refine X_iload_n 6 dL_whatIf_5 rfl rfl ?_
  refine X_iload_n 7 dL_whatIf_6 rfl rfl ?_
  refine Y_cVI 10 (as := [.int p0, .int p1, .int p2]) m_L_7 (s_X11_whatIf hL hw) (hL.ob (c := 11) (by decide) rfl) rfl (by decide) (Nat.le_of_ble_eq_true rfl) dL_whatIf_7 rfl rfl (fun a M1 hq => ?_)
  refine X_i2l 11 dL_whatIf_10 rfl ?_
  refine Y_last 12 (k := 0) (hL.ar (t := 4) (n := 1) (by decide) rfl) (vlit (by decide)) rfl dL_whatIf_11 rfl ?_
  refine X_goto 19 dL_whatIf_12 rfl ?_
  refine X_iconst 20 (v := 0) dL_whatIf_19 rfl rfl ?_
  exact X_retH rfl rfl dL_whatIf_20 ⟨a, M1, rfl, rfl, hq⟩
theorem h_tried (hL : LY L) {p0 : Int32} {Q : Int32 → Mem → Prop} (hw : w_X11_tried L p0 M Q) : MXH yL_tried cL_tried (some .int) 4 hhT 10 1 6 [.ref 0, .int p0, .ref 158] (L, M) (qOK L Q) := by
  refine MXH_of (by decide) [.ref 0, .int p0, .ref 158, junk] (by rfl) (by exact Nat.le_of_ble_eq_true rfl) ?_
  show X (FH hhT (qOK L Q)) RL cL_tried (some .int) 4 "tried" 10 1 6 (L, M) 0 [.ref 0, .int p0, .ref 158, junk] []
  refine X_aload_n 1 dL_tried_0 rfl rfl ?_
  refine X_iconst 2 (v := 0) dL_tried_1 rfl rfl ?_
  refine X_aload_n 3 dL_tried_2 rfl rfl ?_
  refine X_iload_n 4 dL_tried_3 rfl rfl ?_
  refine Y_cVI 7 (as := [.int p0]) m_L_15 (s_X11_tried hL hw) (hL.ob (c := 11) (by decide) rfl) rfl (by decide) (Nat.le_of_ble_eq_true rfl) dL_tried_4 rfl rfl (fun a M1 hq => ?_)
  refine X_i2l 8 dL_tried_7 rfl ?_
  refine Y_last 9 (k := 0) (hL.ar (t := 4) (n := 1) (by decide) rfl) (vlit (by decide)) rfl dL_tried_8 rfl ?_
  refine X_goto 15 dL_tried_9 rfl ?_
  refine X_iconst 16 (v := 0) dL_tried_15 rfl rfl ?_
  exact X_retH rfl rfl dL_tried_16 ⟨a, M1, rfl, rfl, hq⟩
theorem h_look (hL : LY L) {p0 p1 : Int32} {Q : Int32 → Mem → Prop} (hw : w_X11_look L p0 p1 M Q) : MXH yL_look cL_look (some .int) 5 hhK 10 1 6 [.ref 0, .int p0, .int p1, .ref 158] (L, M) (qOK L Q) := by
  refine MXH_of (by decide) [.ref 0, .int p0, .int p1, .ref 158, junk] (by rfl) (by exact Nat.le_of_ble_eq_true rfl) ?_
  show X (FH hhK (qOK L Q)) RL cL_look (some .int) 5 "look" 10 1 6 (L, M) 0 [.ref 0, .int p0, .int p1, .ref 158, junk] []
  refine X_aload_n 1 dL_look_0 rfl rfl ?_
  refine X_iconst 2 (v := 0) dL_look_1 rfl rfl ?_
  refine X_aload_n 3 dL_look_2 rfl rfl ?_
  refine X_iload_n 4 dL_look_3 rfl rfl ?_
  refine X_iload_n 5 dL_look_4 rfl rfl ?_
  refine Y_cVI 8 (as := [.int p0, .int p1]) m_L_19 (s_X11_look hL hw) (hL.ob (c := 11) (by decide) rfl) rfl (by decide) (Nat.le_of_ble_eq_true rfl) dL_look_5 rfl rfl (fun a M1 hq => ?_)
  refine X_i2l 9 dL_look_8 rfl ?_
  refine Y_last 10 (k := 0) (hL.ar (t := 4) (n := 1) (by decide) rfl) (vlit (by decide)) rfl dL_look_9 rfl ?_
  refine X_goto 17 dL_look_10 rfl ?_
  refine X_iconst 18 (v := 0) dL_look_17 rfl rfl ?_
  exact X_retH rfl rfl dL_look_18 ⟨a, M1, rfl, rfl, hq⟩
theorem t_whatIf (hL : LY L) {t : Nat} {X9 : WS} {p0 p1 p2 : Int32} (h : RX L M t X9) (v : ¬ vWi X9 p0 p1 p2) : MXH yL_whatIf cL_whatIf (some .int) 6 hhW 10 1 6 [.ref 0, .int p0, .int p1, .int p2, .ref 158] (L, M) (qNO L M) := by
  refine MXH_of (by decide) [.ref 0, .int p0, .int p1, .int p2, .ref 158, junk] (by rfl) (by exact Nat.le_of_ble_eq_true rfl) ?_
  show X (FH hhW (qNO L M)) RL cL_whatIf (some .int) 6 "whatIf" 10 1 6 (L, M) 0 [.ref 0, .int p0, .int p1, .int p2, .ref 158, junk] []
  refine X_aload 2 dL_whatIf_0 rfl rfl ?_
  refine X_iconst 3 (v := 0) dL_whatIf_2 rfl rfl ?_
  refine X_aload_n 4 dL_whatIf_3 rfl rfl ?_
  refine X_iload_n 5 dL_whatIf_4 rfl rfl ?_
  refine X_iload_n 6 dL_whatIf_5 rfl rfl ?_
  refine X_iload_n 7 dL_whatIf_6 rfl rfl ?_
  refine X_callCatch 17 (hp := 15) (ct := 13) (i := 5) (f9 := 0) (t9 := 12) (as := [.int p0, .int p1, .int p2]) m_L_7 (mx_whatIf hL h v) (hL.ob (c := 11) (by decide) rfl) rfl (by decide) (Nat.le_refl _) (Nat.le_refl _) (Nat.le_of_ble_eq_true rfl) dL_whatIf_7 rfl (fun x e => by cases e; exact ⟨by decide, rfl, rfl⟩) ⟨_, rfl⟩ (by decide) hl_cl (Or.inl ⟨dL_whatIf_15, rfl⟩) (by decide) rfl (fun n => ?_)
  refine X_iconst 18 (v := 1) dL_whatIf_17 rfl rfl ?_
  exact X_retH rfl rfl dL_whatIf_18 ⟨n, rfl, rfl⟩
theorem t_tried (hL : LY L) {p0 : Int32} (v : ¬ wi p0 0 9999) : MXH yL_tried cL_tried (some .int) 4 hhT 10 1 6 [.ref 0, .int p0, .ref 158] (L, M) (qNO L M) := by
  refine MXH_of (by decide) [.ref 0, .int p0, .ref 158, junk] (by rfl) (by exact Nat.le_of_ble_eq_true rfl) ?_
  show X (FH hhT (qNO L M)) RL cL_tried (some .int) 4 "tried" 10 1 6 (L, M) 0 [.ref 0, .int p0, .ref 158, junk] []
  refine X_aload_n 1 dL_tried_0 rfl rfl ?_
  refine X_iconst 2 (v := 0) dL_tried_1 rfl rfl ?_
  refine X_aload_n 3 dL_tried_2 rfl rfl ?_
  refine X_iload_n 4 dL_tried_3 rfl rfl ?_
  refine X_callCatch 13 (hp := 12) (ct := 13) (i := 3) (f9 := 0) (t9 := 9) (as := [.int p0]) m_L_15 (mx_tried hL v) (hL.ob (c := 11) (by decide) rfl) rfl (by decide) (Nat.le_refl _) (Nat.le_refl _) (Nat.le_of_ble_eq_true rfl) dL_tried_4 rfl (fun x e => by cases e; exact ⟨by decide, rfl, rfl⟩) ⟨_, rfl⟩ (by decide) hl_cl (Or.inr ⟨3, dL_tried_12, rfl, rfl⟩) (by decide) rfl (fun n => ?_)
  refine X_iconst 14 (v := 1) dL_tried_13 rfl rfl ?_
  exact X_retH rfl rfl dL_tried_14 ⟨n, rfl, rfl⟩
theorem t_look (hL : LY L) {t : Nat} {X9 : WS} {p0 p1 : Int32} (h : RX L M t X9) (v : ¬ vLk X9 p0 p1) : MXH yL_look cL_look (some .int) 5 hhK 10 1 6 [.ref 0, .int p0, .int p1, .ref 158] (L, M) (qNO L M) := by
  refine MXH_of (by decide) [.ref 0, .int p0, .int p1, .ref 158, junk] (by rfl) (by exact Nat.le_of_ble_eq_true rfl) ?_
  show X (FH hhK (qNO L M)) RL cL_look (some .int) 5 "look" 10 1 6 (L, M) 0 [.ref 0, .int p0, .int p1, .ref 158, junk] []
  refine X_aload_n 1 dL_look_0 rfl rfl ?_
  refine X_iconst 2 (v := 0) dL_look_1 rfl rfl ?_
  refine X_aload_n 3 dL_look_2 rfl rfl ?_
  refine X_iload_n 4 dL_look_3 rfl rfl ?_
  refine X_iload_n 5 dL_look_4 rfl rfl ?_
  refine X_callCatch 15 (hp := 13) (ct := 13) (i := 4) (f9 := 0) (t9 := 10) (as := [.int p0, .int p1]) m_L_19 (mx_look hL h v) (hL.ob (c := 11) (by decide) rfl) rfl (by decide) (Nat.le_refl _) (Nat.le_refl _) (Nat.le_of_ble_eq_true rfl) dL_look_5 rfl (fun x e => by cases e; exact ⟨by decide, rfl, rfl⟩) ⟨_, rfl⟩ (by decide) hl_cl (Or.inl ⟨dL_look_13, rfl⟩) (by decide) rfl (fun n => ?_)
  refine X_iconst 16 (v := 1) dL_look_15 rfl rfl ?_
  exact X_retH rfl rfl dL_look_16 ⟨n, rfl, rfl⟩
end HLP
