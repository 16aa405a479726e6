theorem dJ3_checkIndex_8e157_0 : decode cJ3_checkIndex_8e157 0 = .ok (.iload_n 0, 1) := by decide +kernel
theorem dJ3_checkIndex_8e157_1 : decode cJ3_checkIndex_8e157 1 = .ok (.ifCond .lt 8, 3) := by decide +kernel
theorem dJ3_checkIndex_8e157_4 : decode cJ3_checkIndex_8e157 4 = .ok (.iload_n 0, 1) := by decide +kernel
theorem dJ3_checkIndex_8e157_5 : decode cJ3_checkIndex_8e157 5 = .ok (.iload_n 1, 1) := by decide +kernel
theorem dJ3_checkIndex_8e157_6 : decode cJ3_checkIndex_8e157 6 = .ok (.if_icmp .lt 10, 3) := by decide +kernel
theorem dJ3_checkIndex_8e157_9 : decode cJ3_checkIndex_8e157 9 = .ok (.aload_n 2, 1) := by decide +kernel
theorem dJ3_checkIndex_8e157_10 : decode cJ3_checkIndex_8e157 10 = .ok (.iload_n 0, 1) := by decide +kernel
theorem dJ3_checkIndex_8e157_11 : decode cJ3_checkIndex_8e157 11 = .ok (.iload_n 1, 1) := by decide +kernel
theorem dJ3_checkIndex_8e157_12 : decode cJ3_checkIndex_8e157 12 = .ok (.invokestatic 95, 3) := by decide +kernel
theorem dJ3_checkIndex_8e157_15 : decode cJ3_checkIndex_8e157 15 = .ok (.athrow, 1) := by decide +kernel
theorem dJ3_checkIndex_8e157_16 : decode cJ3_checkIndex_8e157 16 = .ok (.iload_n 0, 1) := by decide +kernel
theorem dJ3_checkIndex_8e157_17 : decode cJ3_checkIndex_8e157 17 = .ok (.ireturn, 1) := by decide +kernel
-- the two text constants: a char of the words, the place of a sign (the JDK's methods are walked here)
def jword (x : Int32) : Int32 := (sby.getD 1 []).getD (tn x) 0
def jsgF (c : Int32) : List Int32 → Nat → Int32
  | [], _ => -1
  | b :: l, k => if b = c then nI k else jsgF c l (k + 1)
def jsign (c : Int32) : Int32 := jsgF c (sby.getD 0 []) 0
def QK (v : Int32) (h : Hp) : Option Value → Hp → Prop := fun r h' => r = some (.int v) ∧ h' = h
def QN (h : Hp) : Option Value → Hp → Prop := fun r h' => r = none ∧ h' = h
/-- a link to a method of a text -/
def CVt (own : String) (idx : Nat) (y : MethodName) (b : ByteArray) (mL : Nat) (ret : Option FieldType) (n : Nat) : Prop :=
  Cond.methodLink own idx y ∈ GW ∧ Cond.instanceMethod y ∈ GW ∧ Cond.selects y.cls y y ∈ GW ∧ Cond.initialized y.cls ∈ GW ∧ Cond.code y b mL ret ∈ GW ∧ y.cls = "java/lang/String" ∧ y.cls ≠ "java/lang/invoke/MethodHandle" ∧ y.cls ≠ "java/lang/invoke/VarHandle" ∧
  (parseMethodDescriptor y.desc).map (fun d => d.parameters.length) = some n ∧ mL ≤ 26
theorem mt_isLatin1 : CVt RJ0 492 yJ0_isLatin1_aae02 cJ0_isLatin1_aae02 1 (some .boolean) 0 := ⟨gw_t3 50 (by decide +kernel) (by decide +kernel), gw_t3 51 (by decide +kernel) (by decide +kernel), gw_t3 52 (by decide +kernel) (by decide +kernel), gw_t1 13 (by decide +kernel) (by decide +kernel), gw_t3 53 (by decide +kernel) (by decide +kernel), rfl, by decide, by decide, by decide +kernel, by decide⟩
theorem mt_indexOf2 : CVt RJ0 633 yJ0_indexOf_7cf53 cJ0_indexOf_7cf53 3 (some .int) 2 := ⟨gw_t3 98 (by decide +kernel) (by decide +kernel), gw_t3 99 (by decide +kernel) (by decide +kernel), gw_t3 100 (by decide +kernel) (by decide +kernel), gw_t1 13 (by decide +kernel) (by decide +kernel), gw_t3 101 (by decide +kernel) (by decide +kernel), rfl, by decide, by decide, by decide +kernel, by decide⟩
theorem mt_length : CVt RJ0 505 yJ0_length_8abf5 cJ0_length_8abf5 1 (some .int) 0 := ⟨gw_t3 102 (by decide +kernel) (by decide +kernel), gw_t3 103 (by decide +kernel) (by decide +kernel), gw_t3 104 (by decide +kernel) (by decide +kernel), gw_t1 13 (by decide +kernel) (by decide +kernel), gw_t3 105 (by decide +kernel) (by decide +kernel), rfl, by decide, by decide, by decide +kernel, by decide⟩
theorem mt_coder : CVt RJ0 335 yJ0_coder_7d493 cJ0_coder_7d493 1 (some .byte) 0 := ⟨gw_t3 106 (by decide +kernel) (by decide +kernel), gw_t3 107 (by decide +kernel) (by decide +kernel), gw_t3 108 (by decide +kernel) (by decide +kernel), gw_t1 13 (by decide +kernel) (by decide +kernel), gw_t3 109 (by decide +kernel) (by decide +kernel), rfl, by decide, by decide, by decide +kernel, by decide⟩
theorem mt_charAt : CVt RX5 175 yJ0_charAt_5068e cJ0_charAt_5068e 2 (some .char) 1 := ⟨gw_t3 46 (by decide +kernel) (by decide +kernel), gw_t3 47 (by decide +kernel) (by decide +kernel), gw_t3 48 (by decide +kernel) (by decide +kernel), gw_t1 13 (by decide +kernel) (by decide +kernel), gw_t3 49 (by decide +kernel) (by decide +kernel), rfl, by decide, by decide, by decide +kernel, by decide⟩
theorem mt_indexOf : CVt RX5 165 yJ0_indexOf_0f7a4 cJ0_indexOf_0f7a4 2 (some .int) 1 := ⟨gw_t3 94 (by decide +kernel) (by decide +kernel), gw_t3 95 (by decide +kernel) (by decide +kernel), gw_t3 96 (by decide +kernel) (by decide +kernel), gw_t1 13 (by decide +kernel) (by decide +kernel), gw_t3 97 (by decide +kernel) (by decide +kernel), rfl, by decide, by decide, by decide +kernel, by decide⟩
theorem tw_38 : Cond.fieldLink RJ0 38 RJ0 "COMPACT_STRINGS" "Z" ∈ GW := gw_t3 54 (by decide +kernel) (by decide +kernel)
theorem tw_15 : Cond.fieldLink RJ0 15 RJ0 "coder" "B" ∈ GW := gw_t8 89 (by decide +kernel) (by decide +kernel)
theorem tw_9 : Cond.fieldLink RJ0 9 RJ0 "value" "[B" ∈ GW := gw_t8 90 (by decide +kernel) (by decide +kernel)
theorem tw_1053 : Cond.fieldLink RJ0 1053 RJ3 "SIOOBE_FORMATTER" "Ljava/util/function/BiFunction;" ∈ GW := gw_t3 62 (by decide +kernel) (by decide +kernel)
theorem sby_all : ∀ i, i < 2 → sln.getD i 0 = (sby.getD i []).length ∧ ∀ j, j < (sby.getD i []).length → ((sby.getD i []).getD j 0).toInt8.toInt32 = (sby.getD i []).getD j 0 ∧ narrow .char (.int (jchr ((sby.getD i []).getD j 0 &&& 255))) = .int ((sby.getD i []).getD j 0) ∧ jchr ((sby.getD i []).getD j 0 &&& 255) = (sby.getD i []).getD j 0 := by decide +kernel
section XT
variable {F : Fin9} {own : String} {ret : Option FieldType} {mL : Nat} {nm : String} {d rc rs : Nat} {h : Hp} {pc : Nat} {ls st : List Value} {b : ByteArray}
theorem X_ldcT (q : Nat) {i : UInt32} {idx : Nat} (hd : decode b pc = .ok (.ldc idx, 2)) (hp : pc + 2 = q) (hi : (i.toNat = 1 ∧ idx = 163) ∨ (i.toNat = 2 ∧ idx = 173)) (h5 : ¬ i.toNat = 5) (k : X F RX5 b ret mL nm d rc rs h q ls (.float i :: st)) : X F RX5 b ret mL nm d rc rs h pc ls st := by
  subst hp
  intro g p l e R s m args below meth cc H locs LS cells slots C hR hS hL h1 h2
  have kk := k g p l e R s m args below meth cc H locs LS cells slots C hR hS hL h1 h2
  rw [List.map_cons, show cv g (.float i) = .ref (g.2.2.2.2.1 i.toNat) from if_neg h5] at kk
  obtain ⟨-, -, -, -, -, -, -, k8, k9, -⟩ := C.2.2.2.2.2.2.2.2.1
  rcases hi with ⟨e1, rfl⟩ | ⟨e1, rfl⟩
  · rw [e1] at kk; exact va_ldcS C.1 C.2.1 C.2.2.2.1 k8 hd kk
  · rw [e1] at kk; exact va_ldcS C.1 C.2.1 C.2.2.2.1 k9 hd kk
theorem X_gcs (q : Nat) (hd : decode b pc = .ok (.getstatic 38, 3)) (hp : pc + 3 = q) (k : X F RJ0 b ret mL nm d rc rs h q ls (.int 1 :: st)) : X F RJ0 b ret mL nm d rc rs h pc ls st := by
  subst hp
  intro g p l e R s m args below meth cc H locs LS cells slots C hR hS hL h1 h2
  obtain ⟨-, -, -, -, -, -, -, -, -, -, -, -, hd1, -⟩ := C.2.2.2.2.2.2.2.2.1
  exact va_gets C.1 C.2.1 hd1 hS C.2.2.2.1 (C.2.2.2.2.1 _ tw_38) (fun _ h9 => h9) hd (k g p l e R s m args below meth cc H locs LS cells slots C hR hS hL h1 h2)
theorem X_gsio (q : Nat) (hd : decode b pc = .ok (.getstatic 1053, 3)) (hp : pc + 3 = q) (k : X F RJ0 b ret mL nm d rc rs h q ls (.float 5 :: st)) : X F RJ0 b ret mL nm d rc rs h pc ls st := by
  subst hp
  intro g p l e R s m args below meth cc H locs LS cells slots C hR hS hL h1 h2
  obtain ⟨-, -, -, -, -, -, -, -, -, -, -, -, -, hd1, -⟩ := C.2.2.2.2.2.2.2.2.1
  exact va_gets C.1 C.2.1 hd1 hS C.2.2.2.1 (C.2.2.2.2.1 _ tw_1053) (fun _ h9 => h9) hd (k g p l e R s m args below meth cc H locs LS cells slots C hR hS hL h1 h2)
theorem X_tcod (q : Nat) {i : UInt32} (hi : i.toNat = 1 ∨ i.toNat = 2) (hd : decode b pc = .ok (.getfield 15, 3)) (hp : pc + 3 = q) (k : X F RJ0 b ret mL nm d rc rs h q ls (.int 0 :: st)) : X F RJ0 b ret mL nm d rc rs h pc ls (.float i :: st) := by
  subst hp
  intro g p l e R s m args below meth cc H locs LS cells slots C hR hS hL h1 h2
  obtain ⟨-, -, -, -, -, -, h7, -⟩ := C.2.2.2.2.2.2.2.2.1
  have hv := (h7.1 (i.toNat - 1) (by omega)).2.1
  dsimp only at hv
  rw [show 1 + (i.toNat - 1) = i.toNat by omega] at hv
  rw [List.map_cons, show cv g (.float i) = .ref (g.2.2.2.2.1 i.toNat) from if_neg (by omega)]
  exact vk_getf C.1 C.2.1 hv hS C.2.2.2.1 (C.2.2.2.2.1 _ tw_15) (fun _ h9 => h9) hd (k g p l e R s m args below meth cc H locs LS cells slots C hR hS hL h1 h2)
theorem X_tval (q : Nat) {i i2 : UInt32} (hi : i.toNat = 1 ∨ i.toNat = 2) (h2 : i2.toNat = i.toNat + 2) (hd : decode b pc = .ok (.getfield 9, 3)) (hp : pc + 3 = q) (k : X F RJ0 b ret mL nm d rc rs h q ls (.float i2 :: st)) : X F RJ0 b ret mL nm d rc rs h pc ls (.float i :: st) := by
  subst hp
  intro g p l e R s m args below meth cc H locs LS cells slots C hR hS hL z1 z2
  obtain ⟨-, -, -, -, -, -, h7, -⟩ := C.2.2.2.2.2.2.2.2.1
  have hv := (h7.1 (i.toNat - 1) (by omega)).2.2.1
  dsimp only at hv
  rw [show 1 + (i.toNat - 1) = i.toNat by omega, show 3 + (i.toNat - 1) = i2.toNat by omega] at hv
  have kk := k g p l e R s m args below meth cc H locs LS cells slots C hR hS hL z1 z2
  rw [List.map_cons, show cv g (.float i2) = .ref (g.2.2.2.2.1 i2.toNat) from if_neg (by omega)] at kk
  rw [List.map_cons, show cv g (.float i) = .ref (g.2.2.2.2.1 i.toNat) from if_neg (by omega)]
  exact vk_getf C.1 C.2.1 hv hS C.2.2.2.1 (C.2.2.2.2.1 _ tw_9) (fun _ h9 => h9) hd kk
theorem X_tlen (q : Nat) {i : UInt32} (t : Nat) (ht : t < 2) (hi : i.toNat = 3 + t) (hd : decode b pc = .ok (.arraylength, 1)) (hp : pc + 1 = q) (k : X F own b ret mL nm d rc rs h q ls (.int (nI (sln.getD t 0)) :: st)) : X F own b ret mL nm d rc rs h pc ls (.float i :: st) := by
  subst hp
  intro g p l e R s m args below meth cc H locs LS cells slots C hR hS hL z1 z2
  obtain ⟨-, -, -, -, -, -, h7, -⟩ := C.2.2.2.2.2.2.2.2.1
  have hv := (h7.1 t ht).2.2.2
  dsimp only at hv
  rw [← hi] at hv
  rw [List.map_cons, show cv g (.float i) = .ref (g.2.2.2.2.1 i.toNat) from if_neg (by omega)]
  exact va_tlen C.1 C.2.1 hv hS rfl hd (k g p l e R s m args below meth cc H locs LS cells slots C hR hS hL z1 z2)
theorem X_tbal (q : Nat) {i : UInt32} {j : Int32} (t : Nat) (ht : t < 2) (hi : i.toNat = 3 + t) (hin : vp_in j (sln.getD t 0)) (hd : decode b pc = .ok (.baload, 1)) (hp : pc + 1 = q) (k : X F own b ret mL nm d rc rs h q ls (.int ((sby.getD t []).getD (tn j) 0) :: st)) : X F own b ret mL nm d rc rs h pc ls (.int j :: .float i :: st) := by
  subst hp
  intro g p l e R s m args below meth cc H locs LS cells slots C hR hS hL z1 z2
  obtain ⟨-, -, -, -, -, -, h7, -⟩ := C.2.2.2.2.2.2.2.2.1
  have hv := (h7.1 t ht).2.2.2
  dsimp only at hv
  rw [← hi] at hv
  rw [List.map_cons, List.map_cons, show cv g (.float i) = .ref (g.2.2.2.2.1 i.toNat) from if_neg (by omega)]
  exact va_tb C.1 C.2.1 hv hS hin rfl hd (k g p l e R s m args below meth cc H locs LS cells slots C hR hS hL z1 z2)
theorem X_callT (q : Nat) {idx : Nat} {y : MethodName} {b' : ByteArray} {ret' : Option FieldType} {mL' d' n : Nat} {i : UInt32} {as : List Value} {v : Int32} (hi : i.toNat = 1 ∨ i.toNat = 2)
    (hcl : CVt own idx y b' mL' ret' n) (hM : MX y b' ret' mL' d' 0 0 (.float i :: as) h (QK v h)) (hn : as.length = n) (hd' : d' + 1 ≤ d) (hw : st.length ≤ 4)
    (hd : decode b pc = .ok (.invokevirtual idx, 3)) (hp : pc + 3 = q) {st1 : List Value} (hst : as.reverse ++ .float i :: st = st1)
    (k : X F own b ret mL nm d rc rs h q ls (.int v :: st)) : X F own b ret mL nm d rc rs h pc ls st1 := by
  subst hp; subst hst
  intro g p l e R s m args below meth cc H locs LS cells slots C hR hS hL h1 h2
  obtain ⟨w1, w2, w3, w4, w5, w0, w6, w7, w8, w9⟩ := hcl
  obtain ⟨-, -, -, -, -, -, -, -, hKX, hdR, hlR⟩ := id C
  obtain ⟨-, -, -, -, -, -, h7, -⟩ := id hKX
  have hrecv := vk_recv h7 (i := i.toNat - 1) (by omega) hS
  rw [show 1 + (i.toNat - 1) = i.toNat by omega] at hrecv
  have ecv : cv g (.float i) = .ref (g.2.2.2.2.1 i.toNat) := if_neg (by omega)
  have hrun : va_Run p l e R s m args below meth cc H locs cells slots 0 0 (F0 m pc LS ((as.map (cv g)).reverse ++ .ref (g.2.2.2.2.1 i.toNat) :: st.map (cv g))) (st.map (cv g)) (QcX g (QK v h) (Value.ref (g.2.2.2.2.1 i.toNat) :: as.map (cv g)).toArray) (eA g) := va_runV (As := as.map (cv g)) (rest := st.map (cv g)) (C := y.cls) (g := F0 m pc LS ((as.map (cv g)).reverse ++ .ref (g.2.2.2.2.1 i.toNat) :: st.map (cv g))) ⟨C.1, C.2.1, C.2.2.1, C.2.2.2.1, C.2.2.2.2.1⟩ (hM l g)
    (cwV n C.2.2.2.2.1 (app_in (by intro w hw; simp only [List.mem_cons, List.not_mem_nil, or_false] at hw; rcases hw with rfl | rfl | rfl | rfl <;> assumption) (wsX_in w5)) rfl rfl rfl ⟨rfl, w6, w7, w8⟩ ⟨by show d' + 1 ≤ R.frames; omega, by show 8 + (mL' + 11) + 45 * d' ≤ R.locals; omega⟩)
    ⟨fblind, (by rw [w0]; exact hrecv), fun U hU hW => ⟨(by rw [List.map_cons, ecv]), by rw [hU]; exact hR, KX.moved hW (fun z h5 h6 => by rw [hU]; exact hS.2.1 z h5 h6) hKX⟩⟩ rfl (by rw [List.length_map]; exact hn) hL.1 rfl (lv_room (catsum (KX.sio hKX) hw)) hd ⟨by omega, by omega⟩
  have hgo := run_go (Qf := F g l s args below R) hrun hS (fun r h' H' locs' hR' hq hS' => by
    obtain ⟨rfl, rfl⟩ := hq
    exact k g p l e R s m args below meth cc H' locs' LS (cells + 0) (slots + 0) C hR' hS' hL (by omega) (by omega))
  have est : (as.reverse ++ Value.float i :: st).map (cv g) = (as.map (cv g)).reverse ++ .ref (g.2.2.2.2.1 i.toNat) :: st.map (cv g) := by
    rw [List.map_append, List.map_reverse, List.map_cons, ecv]
  rw [est]
  exact hgo
end XT
section XT2
variable {h : Hp}
theorem st_isLatin1 {i : UInt32} (hi : i.toNat = 1 ∨ i.toNat = 2) : MX yJ0_isLatin1_aae02 cJ0_isLatin1_aae02 (some .boolean) 1 1 0 0 [.float i] h (QK 1 h) := by
  refine MX_of (by decide) [.float i] rfl (Nat.le_of_ble_eq_true rfl) ?_
  show X (FM (QK 1 h)) RJ0 cJ0_isLatin1_aae02 (some .boolean) 1 "isLatin1" 1 0 0 h 0 [.float i] []
  refine X_gcs 3 dJ0_isLatin1_aae02_0 rfl ?_
  refine X_if_eq 17 6 (y := 0) dJ0_isLatin1_aae02_3 rfl rfl (fun c => absurd c (by decide)) (fun c => ?_)
  refine X_aloadS_n 7 dJ0_isLatin1_aae02_6 rfl (by omega) rfl ?_
  refine X_tcod 10 hi dJ0_isLatin1_aae02_7 rfl ?_
  refine X_if_ne 17 13 (y := 0) dJ0_isLatin1_aae02_10 rfl rfl (fun c => absurd rfl c) (fun c => ?_)
  refine X_iconst 14 (v := 1) dJ0_isLatin1_aae02_13 rfl rfl ?_
  refine X_goto 18 dJ0_isLatin1_aae02_14 rfl ?_
  exact X_ret rfl rfl dJ0_isLatin1_aae02_18 ⟨rfl, rfl⟩
theorem st_coder {i : UInt32} (hi : i.toNat = 1 ∨ i.toNat = 2) : MX yJ0_coder_7d493 cJ0_coder_7d493 (some .byte) 1 1 0 0 [.float i] h (QK 0 h) := by
  refine MX_of (by decide) [.float i] rfl (Nat.le_of_ble_eq_true rfl) ?_
  show X (FM (QK 0 h)) RJ0 cJ0_coder_7d493 (some .byte) 1 "coder" 1 0 0 h 0 [.float i] []
  refine X_gcs 3 dJ0_coder_7d493_0 rfl ?_
  refine X_if_eq 13 6 (y := 0) dJ0_coder_7d493_3 rfl rfl (fun c => absurd c (by decide)) (fun c => ?_)
  refine X_aloadS_n 7 dJ0_coder_7d493_6 rfl (by omega) rfl ?_
  refine X_tcod 10 hi dJ0_coder_7d493_7 rfl ?_
  refine X_goto 14 dJ0_coder_7d493_10 rfl ?_
  exact X_ret rfl rfl dJ0_coder_7d493_14 ⟨rfl, rfl⟩
theorem st_length1 : MX yJ0_length_8abf5 cJ0_length_8abf5 (some .int) 1 2 0 0 [.float 1] h (QK 9 h) := by
  refine MX_of (by decide) [.float 1] rfl (Nat.le_of_ble_eq_true rfl) ?_
  show X (FM (QK 9 h)) RJ0 cJ0_length_8abf5 (some .int) 1 "length" 2 0 0 h 0 [.float 1] []
  refine X_aloadS_n 1 dJ0_length_8abf5_0 rfl (by decide) rfl ?_
  refine X_tval 4 (i2 := 3) (by decide) (by decide) dJ0_length_8abf5_1 rfl ?_
  refine X_tlen 5 0 (by decide) (by decide) dJ0_length_8abf5_4 rfl ?_
  refine X_aloadS_n 6 dJ0_length_8abf5_5 rfl (by decide) rfl ?_
  refine X_callT 9 (as := []) (i := 1) (by decide) mt_coder (st_coder (by decide)) rfl (by decide) (Nat.le_of_ble_eq_true rfl) dJ0_length_8abf5_6 rfl rfl ?_
  refine Y_ishr 10 dJ0_length_8abf5_9 rfl ?_
  exact X_ret rfl rfl dJ0_length_8abf5_10 ⟨by decide, rfl⟩
theorem st_pre {x n : Int32} (h0 : ¬ x < 0) (h1 : x < n) : MX yJ3_checkIndex_8e157 cJ3_checkIndex_8e157 (some .int) 3 1 0 0 [.int x, .int n, .float 5] h (QK x h) := by
  refine MX_of (by decide) [.int x, .int n, .float 5] rfl (Nat.le_of_ble_eq_true rfl) ?_
  show X (FM (QK x h)) RJ3 cJ3_checkIndex_8e157 (some .int) 3 "checkIndex" 1 0 0 h 0 [.int x, .int n, .float 5] []
  refine X_iload_n 1 dJ3_checkIndex_8e157_0 rfl rfl ?_
  refine X_if_lt 9 4 (y := 0) dJ3_checkIndex_8e157_1 rfl rfl (fun c => absurd c h0) (fun c => ?_)
  refine X_iload_n 5 dJ3_checkIndex_8e157_4 rfl rfl ?_
  refine X_iload_n 6 dJ3_checkIndex_8e157_5 rfl rfl ?_
  refine X_icmp_lt 16 9 dJ3_checkIndex_8e157_6 rfl rfl (fun c => ?_) (fun c => absurd h1 c)
  refine X_iload_n 17 dJ3_checkIndex_8e157_16 rfl rfl ?_
  exact X_ret rfl rfl dJ3_checkIndex_8e157_17 ⟨rfl, rfl⟩
theorem st_chk {x n : Int32} (h0 : ¬ x < 0) (h1 : x < n) : MX yJ0_checkIndex_df160 cJ0_checkIndex_df160 none 2 2 0 0 [.int x, .int n] h (QN h) := by
  refine MX_of (by decide) [.int x, .int n] rfl (Nat.le_of_ble_eq_true rfl) ?_
  show X (FM (QN h)) RJ0 cJ0_checkIndex_df160 none 2 "checkIndex" 2 0 0 h 0 [.int x, .int n] []
  refine X_iload_n 1 dJ0_checkIndex_df160_0 rfl rfl ?_
  refine X_iload_n 2 dJ0_checkIndex_df160_1 rfl rfl ?_
  refine X_gsio 5 dJ0_checkIndex_df160_2 rfl ?_
  refine X_callS 8 (as := [.int x, .int n, .float 5]) m_J0_1059 (st_pre h0 h1) rfl (by decide) (Nat.le_refl 0) (Nat.le_refl 0) (Nat.le_of_ble_eq_true rfl) dJ0_checkIndex_df160_5 rfl rfl (fun r h' hq => ?_)
  obtain ⟨rfl, rfl⟩ := hq
  refine X_pop 9 dJ0_checkIndex_df160_8 rfl rfl ?_
  exact X_retV rfl dJ0_checkIndex_df160_9 ⟨rfl, rfl⟩
theorem st_charAt1 {j : Int32} (hj : vp_in j 216) : MX yJ1_charAt_3b067 cJ1_charAt_3b067 (some .char) 2 3 0 0 [.float 4, .int j] h (QK (jword j) h) := by
  obtain ⟨k, hk, rfl⟩ := vp_in_of hj (by decide)
  have hs := (sby_all 1 (by decide)).2 k hk
  refine MX_of (by decide) [.float 4, .int (nI k)] rfl (Nat.le_of_ble_eq_true rfl) ?_
  show X (FM (QK (jword (nI k)) h)) RJ1 cJ1_charAt_3b067 (some .char) 2 "charAt" 3 0 0 h 0 [.float 4, .int (nI k)] []
  refine X_iload_n 1 dJ1_charAt_3b067_0 rfl rfl ?_
  refine X_aloadS_n 2 dJ1_charAt_3b067_1 rfl (by decide) rfl ?_
  refine X_tlen 3 1 (by decide) (by decide) dJ1_charAt_3b067_2 rfl ?_
  refine X_callS 6 (as := [.int (nI k), .int (nI (sln.getD 1 0))]) m_J1_9 (st_chk (nI_pos (by omega)) (nI_lt hk (by decide))) rfl (by decide) (Nat.le_refl 0) (Nat.le_refl 0) (Nat.le_of_ble_eq_true rfl) dJ1_charAt_3b067_3 rfl rfl (fun r h' hq => ?_)
  obtain ⟨rfl, rfl⟩ := hq
  refine X_aloadS_n 7 dJ1_charAt_3b067_6 rfl (by decide) rfl ?_
  refine X_iload_n 8 dJ1_charAt_3b067_7 rfl rfl ?_
  refine X_tbal 9 1 (by decide) (by decide) hj dJ1_charAt_3b067_8 rfl ?_
  refine X_sipush 12 (v := 255) dJ1_charAt_3b067_9 rfl rfl ?_
  refine X_iand 13 dJ1_charAt_3b067_12 rfl ?_
  refine Y_i2c 14 dJ1_charAt_3b067_13 rfl ?_
  have e1 : jchr ((sby.getD 1 []).getD (tn (nI k)) 0 &&& 255) = jword (nI k) := by
    unfold jword; rw [show tn (nI k) = k from nI_clamp (by omega)]; exact hs.2.2
  rw [e1]
  refine X_ret rfl ?_ dJ1_charAt_3b067_14 ⟨rfl, rfl⟩
  have h2 := hs.2.1
  rw [hs.2.2] at h2
  unfold jword; rw [show tn (nI k) = k from nI_clamp (by omega)]; exact h2
theorem st_charAt {j : Int32} (hj : vp_in j 216) : MX yJ0_charAt_5068e cJ0_charAt_5068e (some .char) 2 4 0 0 [.float 2, .int j] h (QK (jword j) h) := by
  refine MX_of (by decide) [.float 2, .int j] rfl (Nat.le_of_ble_eq_true rfl) ?_
  show X (FM (QK (jword j) h)) RJ0 cJ0_charAt_5068e (some .char) 2 "charAt" 4 0 0 h 0 [.float 2, .int j] []
  refine X_aloadS_n 1 dJ0_charAt_5068e_0 rfl (by decide) rfl ?_
  refine X_callT 4 (as := []) (i := 2) (by decide) mt_isLatin1 (st_isLatin1 (by decide)) rfl (by decide) (Nat.le_of_ble_eq_true rfl) dJ0_charAt_5068e_1 rfl rfl ?_
  refine X_if_eq 16 7 (y := 0) dJ0_charAt_5068e_4 rfl rfl (fun c => absurd c (by decide)) (fun c => ?_)
  refine X_aloadS_n 8 dJ0_charAt_5068e_7 rfl (by decide) rfl ?_
  refine X_tval 11 (i2 := 4) (by decide) (by decide) dJ0_charAt_5068e_8 rfl ?_
  refine X_iload_n 12 dJ0_charAt_5068e_11 rfl rfl ?_
  refine X_callS 15 (as := [.float 4, .int j]) m_J0_495 (st_charAt1 hj) rfl (by decide) (Nat.le_refl 0) (Nat.le_refl 0) (Nat.le_of_ble_eq_true rfl) dJ0_charAt_5068e_12 rfl rfl (fun r h' hq => ?_)
  obtain ⟨rfl, rfl⟩ := hq
  obtain ⟨k, hk, rfl⟩ := vp_in_of hj (by decide)
  have hs := (sby_all 1 (by decide)).2 k hk
  refine X_ret rfl ?_ dJ0_charAt_5068e_15 ⟨rfl, rfl⟩
  have h2 := hs.2.1
  rw [hs.2.2] at h2
  unfold jword; rw [show tn (nI k) = k from nI_clamp (by omega)]; exact h2
theorem st_canEncode {c : Int32} : MX yJ1_canEncode_9a6ad cJ1_canEncode_9a6ad (some .boolean) 1 1 0 0 [.int c] h (QK (if c < 0 ∨ 255 < c then 0 else 1) h) := by
  refine MX_of (by decide) [.int c] rfl (Nat.le_of_ble_eq_true rfl) ?_
  show X (FM (QK (if c < 0 ∨ 255 < c then 0 else 1) h)) RJ1 cJ1_canEncode_9a6ad (some .boolean) 1 "canEncode" 1 0 0 h 0 [.int c] []
  refine X_iload_n 1 dJ1_canEncode_9a6ad_0 rfl rfl ?_
  refine X_if_lt 15 4 (y := 0) dJ1_canEncode_9a6ad_1 rfl rfl (fun z => ?_) (fun z => ?_)
  · rw [if_pos (Or.inl z)]
    refine X_iconst 16 (v := 0) dJ1_canEncode_9a6ad_15 rfl rfl ?_
    exact X_ret rfl rfl dJ1_canEncode_9a6ad_16 ⟨rfl, rfl⟩
  · refine X_iload_n 5 dJ1_canEncode_9a6ad_4 rfl rfl ?_
    refine X_sipush 8 (v := 255) dJ1_canEncode_9a6ad_5 rfl rfl ?_
    refine X_icmp_gt 15 11 dJ1_canEncode_9a6ad_8 rfl rfl (fun z2 => ?_) (fun z2 => ?_)
    · rw [if_pos (Or.inr z2)]
      refine X_iconst 16 (v := 0) dJ1_canEncode_9a6ad_15 rfl rfl ?_
      exact X_ret rfl rfl dJ1_canEncode_9a6ad_16 ⟨rfl, rfl⟩
    · rw [if_neg (fun q => q.elim z z2)]
      refine X_iconst 12 (v := 1) dJ1_canEncode_9a6ad_11 rfl rfl ?_
      refine X_goto 16 dJ1_canEncode_9a6ad_12 rfl ?_
      exact X_ret rfl rfl dJ1_canEncode_9a6ad_16 ⟨rfl, rfl⟩
theorem byt_eq : ∀ n, n < 256 → ∀ j, j < 9 → ((sby.getD 0 []).getD j 0 = (nI n).toInt8.toInt32 ↔ (sby.getD 0 []).getD j 0 = nI n) := by decide +kernel
theorem st_ioc {n : Nat} (hn : n < 256) : MX yJ1_indexOfChar_4cfef cJ1_indexOfChar_4cfef (some .int) 6 1 0 0 [.float 3, .int (nI n), .int 0, .int 9] h (QK (jsign (nI n)) h) := by
  refine MX_of (by decide) [.float 3, .int (nI n), .int 0, .int 9, junk, junk] rfl (Nat.le_of_ble_eq_true rfl) ?_
  show X (FM (QK (jsign (nI n)) h)) RJ1 cJ1_indexOfChar_4cfef (some .int) 6 "indexOfChar" 1 0 0 h 0 [.float 3, .int (nI n), .int 0, .int 9, junk, junk] []
  refine X_iload_n 1 dJ1_indexOfChar_4cfef_0 rfl rfl ?_
  refine Y_i2b 2 dJ1_indexOfChar_4cfef_1 rfl ?_
  refine X_istore 4 (ls' := [.float 3, .int (nI n), .int 0, .int 9, .int (jbyt (nI n)), junk]) dJ1_indexOfChar_4cfef_2 rfl (Nat.le_of_ble_eq_true rfl) rfl (Or.inr (Or.inr ⟨_, rfl, rfl⟩)) ?_
  refine X_iload_n 5 dJ1_indexOfChar_4cfef_4 rfl rfl ?_
  refine X_istore 7 (ls' := [.float 3, .int (nI n), .int 0, .int 9, .int (jbyt (nI n)), .int 0]) dJ1_indexOfChar_4cfef_5 rfl (Nat.le_of_ble_eq_true rfl) rfl (Or.inr (Or.inr ⟨_, rfl, rfl⟩)) ?_
  have key : ∀ (m k : Nat), k + m = 9 → jsgF (nI n) ((sby.getD 0 []).drop k) k = jsign (nI n) → X (FM (QK (jsign (nI n)) h)) RJ1 cJ1_indexOfChar_4cfef (some .int) 6 "indexOfChar" 1 0 0 h 7 [.float 3, .int (nI n), .int 0, .int 9, .int (jbyt (nI n)), .int (nI k)] [] := by
    intro m
    induction m with
    | zero =>
      intro k hk e
      obtain rfl : k = 9 := by omega
      refine X_iload 9 dJ1_indexOfChar_4cfef_7 rfl rfl ?_
      refine X_iload_n 10 dJ1_indexOfChar_4cfef_9 rfl rfl ?_
      refine X_icmp_ge 31 13 dJ1_indexOfChar_4cfef_10 rfl rfl (fun c => ?_) (fun c => absurd c (by decide))
      refine X_iconst 32 (v := -1) dJ1_indexOfChar_4cfef_31 rfl rfl ?_
      exact X_ret rfl rfl dJ1_indexOfChar_4cfef_32 ⟨by rw [← e]; rfl, rfl⟩
    | succ m ih =>
      intro k hk e
      have hk9 : k < 9 := by omega
      have ed : (sby.getD 0 []).drop k = (sby.getD 0 []).getD k 0 :: (sby.getD 0 []).drop (k + 1) := (by decide +kernel : ∀ k, k < 9 → (sby.getD 0 []).drop k = (sby.getD 0 []).getD k 0 :: (sby.getD 0 []).drop (k + 1)) k hk9
      rw [ed] at e
      have hin : vp_in (nI k) (sln.getD 0 0) := vp_in_nI hk9 (by decide)
      refine X_iload 9 dJ1_indexOfChar_4cfef_7 rfl rfl ?_
      refine X_iload_n 10 dJ1_indexOfChar_4cfef_9 rfl rfl ?_
      refine X_icmp_ge 31 13 dJ1_indexOfChar_4cfef_10 rfl rfl (fun c => absurd (nI_lt (b := 9) hk9 (by decide)) c) (fun c => ?_)
      refine X_aloadS_n 14 dJ1_indexOfChar_4cfef_13 rfl (by decide) rfl ?_
      refine X_iload 16 dJ1_indexOfChar_4cfef_14 rfl rfl ?_
      refine X_tbal 17 0 (by decide) (by decide) hin dJ1_indexOfChar_4cfef_16 rfl ?_
      rw [show tn (nI k) = k from nI_clamp (by omega)]
      refine X_iload 19 dJ1_indexOfChar_4cfef_17 rfl rfl ?_
      refine X_icmp_ne 25 22 dJ1_indexOfChar_4cfef_19 rfl rfl (fun c2 => ?_) (fun c2 => ?_)
      · have hne : ¬ (sby.getD 0 []).getD k 0 = nI n := fun z => c2 ((byt_eq n hn k hk9).mpr z)
        refine X_iinc 28 (v := nI (k + 1)) (ls' := [.float 3, .int (nI n), .int 0, .int 9, .int (jbyt (nI n)), .int (nI (k + 1))]) dJ1_indexOfChar_4cfef_25 rfl rfl (nI_1 k) rfl (Or.inr (Or.inr ⟨_, rfl, rfl⟩)) ?_
        refine X_goto 7 dJ1_indexOfChar_4cfef_28 rfl ?_
        refine ih (k + 1) (by omega) ?_
        rw [← e]
        show _ = (if _ then _ else _)
        rw [if_neg hne]
      · have heq : (sby.getD 0 []).getD k 0 = nI n := (byt_eq n hn k hk9).mp c2
        refine X_iload 24 dJ1_indexOfChar_4cfef_22 rfl rfl ?_
        refine X_ret rfl rfl dJ1_indexOfChar_4cfef_24 ⟨?_, rfl⟩
        rw [← e]
        show _ = some (Value.int (if _ then _ else _))
        rw [if_pos heq]
  exact key 9 0 rfl rfl
theorem jsg_out {c : Int32} (hc : c < 0 ∨ 255 < c) : jsign c = -1 := by
  have h1 : ∀ j, j < 9 → ¬ (sby.getD 0 []).getD j 0 = c := by
    intro j hj e
    have h2 : ∀ j, j < 9 → ¬ ((sby.getD 0 []).getD j 0 < 0 ∨ (255 : Int32) < (sby.getD 0 []).getD j 0) := by decide +kernel
    rw [← e] at hc
    exact h2 j hj hc
  have e0 : ¬ ((40 : Int32) = c) := h1 0 (by decide)
  have e1 : ¬ ((41 : Int32) = c) := h1 1 (by decide)
  have e2 : ¬ ((60 : Int32) = c) := h1 2 (by decide)
  have e3 : ¬ ((61 : Int32) = c) := h1 3 (by decide)
  have e4 : ¬ ((43 : Int32) = c) := h1 4 (by decide)
  have e5 : ¬ ((45 : Int32) = c) := h1 5 (by decide)
  have e6 : ¬ ((42 : Int32) = c) := h1 6 (by decide)
  have e7 : ¬ ((47 : Int32) = c) := h1 7 (by decide)
  have e8 : ¬ ((59 : Int32) = c) := h1 8 (by decide)
  show jsgF c [40, 41, 60, 61, 43, 45, 42, 47, 59] 0 = -1
  simp only [jsgF]
  rw [if_neg e0, if_neg e1, if_neg e2, if_neg e3, if_neg e4, if_neg e5, if_neg e6, if_neg e7, if_neg e8]
theorem st_ix1 {c : Int32} : MX yJ1_indexOf_4cfef cJ1_indexOf_4cfef (some .int) 4 2 0 0 [.float 3, .int c, .int 0, .int 9] h (QK (jsign c) h) := by
  refine MX_of (by decide) [.float 3, .int c, .int 0, .int 9] rfl (Nat.le_of_ble_eq_true rfl) ?_
  show X (FM (QK (jsign c) h)) RJ1 cJ1_indexOf_4cfef (some .int) 4 "indexOf" 2 0 0 h 0 [.float 3, .int c, .int 0, .int 9] []
  refine X_iload_n 1 dJ1_indexOf_4cfef_0 rfl rfl ?_
  refine X_callS 4 (as := [.int c]) m_J1_88 st_canEncode rfl (by decide) (Nat.le_refl 0) (Nat.le_refl 0) (Nat.le_of_ble_eq_true rfl) dJ1_indexOf_4cfef_1 rfl rfl (fun r h' hq => ?_)
  obtain ⟨rfl, rfl⟩ := hq
  refine X_if_ne 9 7 (y := 0) dJ1_indexOf_4cfef_4 rfl rfl (fun z => ?_) (fun z => ?_)
  · have hc : ¬ (c < 0 ∨ 255 < c) := fun q => z (if_pos q)
    obtain ⟨n, hn, rfl⟩ : ∃ n : Nat, n < 256 ∧ c = nI n := by
      obtain ⟨n, hn, e⟩ := nI_of2 (M := 255) (n := 255) (by decide) (fun q => hc (Or.inl q)) (Int32.not_lt.mp (fun q => hc (Or.inr q)))
      exact ⟨n, by omega, e⟩
    refine X_iload_n 10 dJ1_indexOf_4cfef_9 rfl rfl ?_
    refine X_iconst 11 (v := 0) dJ1_indexOf_4cfef_10 rfl rfl ?_
    refine Y_mmax 14 l_J1_92 (by decide) (Nat.le_of_ble_eq_true rfl) dJ1_indexOf_4cfef_11 rfl ?_
    rw [show jmax 0 0 = 0 by decide]
    refine X_istore_n 15 (ls' := [.float 3, .int (nI n), .int 0, .int 9]) dJ1_indexOf_4cfef_14 rfl rfl (Nat.le_of_ble_eq_true rfl) rfl (Or.inr (Or.inr ⟨_, rfl, rfl⟩)) ?_
    refine X_iload_n 16 dJ1_indexOf_4cfef_15 rfl rfl ?_
    refine X_aloadS_n 17 dJ1_indexOf_4cfef_16 rfl (by decide) rfl ?_
    refine X_tlen 18 0 (by decide) (by decide) dJ1_indexOf_4cfef_17 rfl ?_
    refine Y_mmin 21 l_J1_38 (by decide) (Nat.le_of_ble_eq_true rfl) dJ1_indexOf_4cfef_18 rfl ?_
    rw [show jmin 9 (nI (sln.getD 0 0)) = 9 by decide]
    refine X_istore_n 22 (ls' := [.float 3, .int (nI n), .int 0, .int 9]) dJ1_indexOf_4cfef_21 rfl rfl (Nat.le_of_ble_eq_true rfl) rfl (Or.inr (Or.inr ⟨_, rfl, rfl⟩)) ?_
    refine X_iload_n 23 dJ1_indexOf_4cfef_22 rfl rfl ?_
    refine X_iload_n 24 dJ1_indexOf_4cfef_23 rfl rfl ?_
    refine X_icmp_lt 29 27 dJ1_indexOf_4cfef_24 rfl rfl (fun _ => ?_) (fun q => absurd (by decide) q)
    refine X_aloadS_n 30 dJ1_indexOf_4cfef_29 rfl (by decide) rfl ?_
    refine X_iload_n 31 dJ1_indexOf_4cfef_30 rfl rfl ?_
    refine X_iload_n 32 dJ1_indexOf_4cfef_31 rfl rfl ?_
    refine X_iload_n 33 dJ1_indexOf_4cfef_32 rfl rfl ?_
    refine X_callS 36 (as := [.float 3, .int (nI n), .int 0, .int 9]) m_J1_95 (st_ioc hn) rfl (by decide) (Nat.le_refl 0) (Nat.le_refl 0) (Nat.le_of_ble_eq_true rfl) dJ1_indexOf_4cfef_33 rfl rfl (fun r h' hq => ?_)
    obtain ⟨rfl, rfl⟩ := hq
    exact X_ret rfl rfl dJ1_indexOf_4cfef_36 ⟨rfl, rfl⟩
  · have hc : c < 0 ∨ 255 < c := Classical.byContradiction fun q => by rw [if_neg q] at z; exact absurd z (by decide)
    refine X_iconst 8 (v := -1) dJ1_indexOf_4cfef_7 rfl rfl ?_
    exact X_ret rfl rfl dJ1_indexOf_4cfef_8 ⟨by rw [jsg_out hc], rfl⟩
theorem st_ix2 {c : Int32} : MX yJ0_indexOf_7cf53 cJ0_indexOf_7cf53 (some .int) 3 3 0 0 [.float 1, .int c, .int 0] h (QK (jsign c) h) := by
  refine MX_of (by decide) [.float 1, .int c, .int 0] rfl (Nat.le_of_ble_eq_true rfl) ?_
  show X (FM (QK (jsign c) h)) RJ0 cJ0_indexOf_7cf53 (some .int) 3 "indexOf" 3 0 0 h 0 [.float 1, .int c, .int 0] []
  refine X_aloadS_n 1 dJ0_indexOf_7cf53_0 rfl (by decide) rfl ?_
  refine X_callT 4 (as := []) (i := 1) (by decide) mt_isLatin1 (st_isLatin1 (by decide)) rfl (by decide) (Nat.le_of_ble_eq_true rfl) dJ0_indexOf_7cf53_1 rfl rfl ?_
  refine X_if_eq 23 7 (y := 0) dJ0_indexOf_7cf53_4 rfl rfl (fun z => absurd z (by decide)) (fun _ => ?_)
  refine X_aloadS_n 8 dJ0_indexOf_7cf53_7 rfl (by decide) rfl ?_
  refine X_tval 11 (i2 := 3) (by decide) (by decide) dJ0_indexOf_7cf53_8 rfl ?_
  refine X_iload_n 12 dJ0_indexOf_7cf53_11 rfl rfl ?_
  refine X_iload_n 13 dJ0_indexOf_7cf53_12 rfl rfl ?_
  refine X_aloadS_n 14 dJ0_indexOf_7cf53_13 rfl (by decide) rfl ?_
  refine X_callT 17 (as := []) (i := 1) (by decide) mt_length st_length1 rfl (by decide) (Nat.le_of_ble_eq_true rfl) dJ0_indexOf_7cf53_14 rfl rfl ?_
  refine X_callS 20 (as := [.float 3, .int c, .int 0, .int 9]) m_J0_637 st_ix1 rfl (by decide) (Nat.le_refl 0) (Nat.le_refl 0) (Nat.le_of_ble_eq_true rfl) dJ0_indexOf_7cf53_17 rfl rfl (fun r h' hq => ?_)
  obtain ⟨rfl, rfl⟩ := hq
  refine X_goto 36 dJ0_indexOf_7cf53_20 rfl ?_
  exact X_ret rfl rfl dJ0_indexOf_7cf53_36 ⟨rfl, rfl⟩
theorem st_ix {c : Int32} : MX yJ0_indexOf_0f7a4 cJ0_indexOf_0f7a4 (some .int) 2 4 0 0 [.float 1, .int c] h (QK (jsign c) h) := by
  refine MX_of (by decide) [.float 1, .int c] rfl (Nat.le_of_ble_eq_true rfl) ?_
  show X (FM (QK (jsign c) h)) RJ0 cJ0_indexOf_0f7a4 (some .int) 2 "indexOf" 4 0 0 h 0 [.float 1, .int c] []
  refine X_aloadS_n 1 dJ0_indexOf_0f7a4_0 rfl (by decide) rfl ?_
  refine X_iload_n 2 dJ0_indexOf_0f7a4_1 rfl rfl ?_
  refine X_iconst 3 (v := 0) dJ0_indexOf_0f7a4_2 rfl rfl ?_
  refine X_callT 6 (as := [.int c, .int 0]) (i := 1) (by decide) mt_indexOf2 st_ix2 rfl (by decide) (Nat.le_of_ble_eq_true rfl) dJ0_indexOf_0f7a4_3 rfl rfl ?_
  exact X_ret rfl rfl dJ0_indexOf_0f7a4_6 ⟨rfl, rfl⟩
end XT2
section XT3
variable {F : Fin9} {ret : Option FieldType} {mL : Nat} {nm : String} {d rc rs : Nat} {h : Hp} {pc : Nat} {ls st : List Value} {b : ByteArray}
theorem Y_charAt (q : Nat) {i : Int32} (hin : vp_in i 216) (hd4 : 5 ≤ d) (hs : st.length ≤ 4) (hd : decode b pc = .ok (.invokevirtual 175, 3)) (hp : pc + 3 = q) (k : X F RX5 b ret mL nm d rc rs h q ls (.int (jword i) :: st)) : X F RX5 b ret mL nm d rc rs h pc ls (.int i :: .float 2 :: st) :=
  X_callT q (as := [.int i]) (i := 2) (by decide) mt_charAt (st_charAt hin) rfl hd4 hs hd hp rfl k
theorem Y_indexOf (q : Nat) {c : Int32} (hd4 : 5 ≤ d) (hs : st.length ≤ 4) (hd : decode b pc = .ok (.invokevirtual 165, 3)) (hp : pc + 3 = q) (k : X F RX5 b ret mL nm d rc rs h q ls (.int (jsign c) :: st)) : X F RX5 b ret mL nm d rc rs h pc ls (.int c :: .float 1 :: st) :=
  X_callT q (as := [.int c]) (i := 1) (by decide) mt_indexOf st_ix rfl hd4 hs hd hp rfl k
end XT3
