-- LEVEL 3, part 66, 2: the law's cases
set_option maxRecDepth 20000 in
theorem lc_19 {N : Nat} {xs : Nat → Int32} {n rc rs : Nat} (hn : n + 7 ≤ N) (hN : N ≤ 3584) {L : Lay} {M : Mem} (hL : LY L) (h : RR L M) (hrc : 20 ≤ rc) (hrs : 9087 ≤ rs)
    (K : KL N xs n rc rs) : XL N xs rc rs (L, M) 1017 [.float 9, .ref 0, .ref 92, .ref 158, .int (nI n), junk, junk] [] := by
  refine X_aload_n 1018 dL_law_1017 rfl rfl ?_
  refine Y_scr 1024 (n := n) (j := 1) dL_law_1018 dL_law_1019 dL_law_1021 dL_law_1022 dL_law_1023 rfl rfl rfl rfl (by omega) hN ?_
  refine Y_scr 1030 (n := n) (j := 2) dL_law_1024 dL_law_1025 dL_law_1027 dL_law_1028 dL_law_1029 rfl rfl rfl rfl (by omega) hN ?_
  refine Y_scr 1036 (n := n) (j := 3) dL_law_1030 dL_law_1031 dL_law_1033 dL_law_1034 dL_law_1035 rfl rfl rfl rfl (by omega) hN ?_
  refine X_aload_n 1037 dL_law_1036 rfl rfl ?_
  obtain ⟨t, X9, hX⟩ := id h
  by_cases v : vWi X9 (xs (n + 1)) (xs (n + 2)) (xs (n + 3))
  · refine Y_hlp 1040 (as := [.ref 0, .int (xs (n + 1)), .int (xs (n + 2)), .int (xs (n + 3)), .ref 158]) m_L_112 (h_whatIf hL (k_whatIf hX v)) rfl hrc hrs dL_law_1037 rfl rfl (fun r h' hr => ?_) (fun r h' hr => (fun ⟨_, _, e, _⟩ => ⟨_, e⟩) hr)
    obtain ⟨a, M1, er, rfl, hw⟩ := hr
    obtain rfl : r = 0 := by cases er; rfl
    refine X_istore 1042 (ls' := [.float 9, .ref 0, .ref 92, .ref 158, .int (nI n), .int (0 : Int32), junk]) dL_law_1040 rfl (Nat.le_of_ble_eq_true rfl) rfl (Or.inr (Or.inr ⟨_, rfl, rfl⟩)) ?_
    refine X_aload_n 1043 dL_law_1042 rfl rfl ?_
    refine Y_scr 1049 (n := n) (j := 1) dL_law_1043 dL_law_1044 dL_law_1046 dL_law_1047 dL_law_1048 rfl rfl rfl rfl (by omega) hN ?_
    refine Y_scr 1055 (n := n) (j := 2) dL_law_1049 dL_law_1050 dL_law_1052 dL_law_1053 dL_law_1054 rfl rfl rfl rfl (by omega) hN ?_
    refine Y_scr 1061 (n := n) (j := 3) dL_law_1055 dL_law_1056 dL_law_1058 dL_law_1059 dL_law_1060 rfl rfl rfl rfl (by omega) hN ?_
    refine Y_cVI 1064 (as := [.int (xs (n + 1)), .int (xs (n + 2)), .int (xs (n + 3))]) m_L_117 (s_X12_whatIf hL (hw a.toInt64)) (hL.ob (c := 12) (by decide) rfl) rfl (by decide) (Nat.le_of_ble_eq_true rfl) dL_law_1061 rfl rfl (fun b M2 hq => ?_)
    refine X_istore 1066 (ls' := [.float 9, .ref 0, .ref 92, .ref 158, .int (nI n), .int (0 : Int32), .int b]) dL_law_1064 rfl (Nat.le_of_ble_eq_true rfl) rfl (Or.inr (Or.inr ⟨_, rfl, rfl⟩)) ?_
    refine X_aload_n 1067 dL_law_1066 rfl rfl ?_
    refine Y_cVI 1070 (as := []) (Q := fun x M' => x = mi M2 92 0 ∧ M' = M2) m_L_118 (s_X12_thrown hL ⟨rfl, rfl⟩) (hL.ob (c := 12) (by decide) rfl) rfl (by decide) (Nat.le_of_ble_eq_true rfl) dL_law_1067 rfl rfl (fun w M3 hx => ?_)
    obtain ⟨ex, rfl⟩ := hx
    refine X_iload 1072 dL_law_1070 rfl rfl ?_
    refine X_icmp_eq 1077 1075 dL_law_1072 rfl rfl (fun _ => ?_) (fun c => absurd (ex.trans hq.2.1) c)
    refine X_iload 1079 dL_law_1077 rfl rfl ?_
    refine X_if_ne 1094 1082 (y := 0) dL_law_1079 rfl rfl (fun c => absurd rfl c) (fun _ => ?_)
    refine X_aload_n 1083 dL_law_1082 rfl rfl ?_
    refine X_iconst 1084 (v := 0) dL_law_1083 rfl rfl ?_
    refine Y_lald 1085 (k := 0) (hL.ar (t := 4) (n := 1) (by decide) rfl) (vlit (by decide)) rfl dL_law_1084 rfl ?_
    refine X_iload 1087 dL_law_1085 rfl rfl ?_
    refine X_i2l 1088 dL_law_1087 rfl ?_
    refine X_lcmp 1089 dL_law_1088 rfl ?_
    rw [hq.2.2.1, hq.1, lcmp_rf]
    refine X_if_eq 1094 1092 (y := 0) dL_law_1089 rfl rfl (fun _ => ?_) (fun c => absurd rfl c)
    refine X_goto 1521 dL_law_1094 rfl ?_
    refine X_weak (ls' := [.float 9, .ref 0, .ref 92, .ref 158, .int (nI n), junk, junk]) (WK.s (WK.s (WK.s (WK.s (WK.s (WK.j (WK.j WK.n))))))) (Nat.le_of_ble_eq_true rfl) ?_
    exact K L M3 hL hq.2.2.2
  · refine Y_hlp 1040 (as := [.ref 0, .int (xs (n + 1)), .int (xs (n + 2)), .int (xs (n + 3)), .ref 158]) m_L_112 (t_whatIf hL hX v) rfl hrc hrs dL_law_1037 rfl rfl (fun r h' hr => ?_) (fun r h' hr => (fun ⟨_, e, _⟩ => ⟨_, e⟩) hr)
    obtain ⟨z, er, rfl⟩ := hr
    obtain rfl : r = 1 := by cases er; rfl
    have hL1 : LY (jnk L z) := LE.jnk.ly hL
    have hn : w_X12_whatIf (jnk L z) (xs (n + 1)) (xs (n + 2)) (xs (n + 3)) M (fun b M2 => mi M2 92 0 = 1 ∧ RR (jnk L z) M2) := n_whatIf (p0 := (xs (n + 1))) (p1 := (xs (n + 2))) (p2 := (xs (n + 3))) (RX_lay hX hL.1 LE.jnk) v (fun M2 z1 z2 => ⟨z1, t, X9, z2⟩)
    refine X_istore 1042 (ls' := [.float 9, .ref 0, .ref 92, .ref 158, .int (nI n), .int (1 : Int32), junk]) dL_law_1040 rfl (Nat.le_of_ble_eq_true rfl) rfl (Or.inr (Or.inr ⟨_, rfl, rfl⟩)) ?_
    refine X_aload_n 1043 dL_law_1042 rfl rfl ?_
    refine Y_scr 1049 (n := n) (j := 1) dL_law_1043 dL_law_1044 dL_law_1046 dL_law_1047 dL_law_1048 rfl rfl rfl rfl (by omega) hN ?_
    refine Y_scr 1055 (n := n) (j := 2) dL_law_1049 dL_law_1050 dL_law_1052 dL_law_1053 dL_law_1054 rfl rfl rfl rfl (by omega) hN ?_
    refine Y_scr 1061 (n := n) (j := 3) dL_law_1055 dL_law_1056 dL_law_1058 dL_law_1059 dL_law_1060 rfl rfl rfl rfl (by omega) hN ?_
    refine Y_cVI 1064 (as := [.int (xs (n + 1)), .int (xs (n + 2)), .int (xs (n + 3))]) m_L_117 (s_X12_whatIf hL1 hn) (hL1.ob (c := 12) (by decide) rfl) rfl (by decide) (Nat.le_of_ble_eq_true rfl) dL_law_1061 rfl rfl (fun b M2 hq => ?_)
    refine X_istore 1066 (ls' := [.float 9, .ref 0, .ref 92, .ref 158, .int (nI n), .int (1 : Int32), .int b]) dL_law_1064 rfl (Nat.le_of_ble_eq_true rfl) rfl (Or.inr (Or.inr ⟨_, rfl, rfl⟩)) ?_
    refine X_aload_n 1067 dL_law_1066 rfl rfl ?_
    refine Y_cVI 1070 (as := []) (Q := fun x M' => x = mi M2 92 0 ∧ M' = M2) m_L_118 (s_X12_thrown hL1 ⟨rfl, rfl⟩) (hL1.ob (c := 12) (by decide) rfl) rfl (by decide) (Nat.le_of_ble_eq_true rfl) dL_law_1067 rfl rfl (fun w M3 hx => ?_)
    obtain ⟨ex, rfl⟩ := hx
    refine X_iload 1072 dL_law_1070 rfl rfl ?_
    refine X_icmp_eq 1077 1075 dL_law_1072 rfl rfl (fun _ => ?_) (fun c => absurd (ex.trans hq.1) c)
    refine X_iload 1079 dL_law_1077 rfl rfl ?_
    refine X_if_ne 1094 1082 (y := 0) dL_law_1079 rfl rfl (fun _ => ?_) (fun c => absurd c (by decide))
    refine X_goto 1521 dL_law_1094 rfl ?_
    refine X_weak (ls' := [.float 9, .ref 0, .ref 92, .ref 158, .int (nI n), junk, junk]) (WK.s (WK.s (WK.s (WK.s (WK.s (WK.j (WK.j WK.n))))))) (Nat.le_of_ble_eq_true rfl) ?_
    exact K (jnk L z) M3 hL1 hq.2
set_option maxRecDepth 20000 in
theorem lc_20 {N : Nat} {xs : Nat → Int32} {n rc rs : Nat} (hn : n + 7 ≤ N) (hN : N ≤ 3584) {L : Lay} {M : Mem} (hL : LY L) (h : RR L M) (hrc : 20 ≤ rc) (hrs : 9087 ≤ rs)
    (K : KL N xs n rc rs) : XL N xs rc rs (L, M) 1097 [.float 9, .ref 0, .ref 92, .ref 158, .int (nI n), junk, junk] [] := by
  refine X_aload_n 1098 dL_law_1097 rfl rfl ?_
  refine Y_scr 1104 (n := n) (j := 1) dL_law_1098 dL_law_1099 dL_law_1101 dL_law_1102 dL_law_1103 rfl rfl rfl rfl (by omega) hN ?_
  refine Y_scr 1110 (n := n) (j := 2) dL_law_1104 dL_law_1105 dL_law_1107 dL_law_1108 dL_law_1109 rfl rfl rfl rfl (by omega) hN ?_
  refine Y_scr 1116 (n := n) (j := 3) dL_law_1110 dL_law_1111 dL_law_1113 dL_law_1114 dL_law_1115 rfl rfl rfl rfl (by omega) hN ?_
  refine Y_cVI 1119 (as := [.int (xs (n + 1)), .int (xs (n + 2)), .int (xs (n + 3))]) m_L_121 (s_X11_tempted hL (j_tempted h)) (hL.ob (c := 11) (by decide) rfl) rfl (by decide) (Nat.le_of_ble_eq_true rfl) dL_law_1116 rfl rfl (fun a M1 hw => ?_)
  refine X_aload_n 1120 dL_law_1119 rfl rfl ?_
  refine Y_scr 1126 (n := n) (j := 1) dL_law_1120 dL_law_1121 dL_law_1123 dL_law_1124 dL_law_1125 rfl rfl rfl rfl (by omega) hN ?_
  refine Y_scr 1132 (n := n) (j := 2) dL_law_1126 dL_law_1127 dL_law_1129 dL_law_1130 dL_law_1131 rfl rfl rfl rfl (by omega) hN ?_
  refine Y_scr 1138 (n := n) (j := 3) dL_law_1132 dL_law_1133 dL_law_1135 dL_law_1136 dL_law_1137 rfl rfl rfl rfl (by omega) hN ?_
  refine Y_cVI 1141 (as := [.int (xs (n + 1)), .int (xs (n + 2)), .int (xs (n + 3))]) m_L_124 (s_X12_tempted hL hw) (hL.ob (c := 12) (by decide) rfl) rfl (by decide) (Nat.le_of_ble_eq_true rfl) dL_law_1138 rfl rfl (fun b M2 hq => ?_)
  refine X_icmp_eq 1521 1144 dL_law_1141 rfl rfl (fun c => ?_) (fun c => absurd hq.1 c)
  exact X_room (by omega) (by omega) (K L M2 hL hq.2)
set_option maxRecDepth 20000 in
theorem lc_21 {N : Nat} {xs : Nat → Int32} {n rc rs : Nat} (hn : n + 7 ≤ N) (hN : N ≤ 3584) {L : Lay} {M : Mem} (hL : LY L) (h : RR L M) (hrc : 20 ≤ rc) (hrs : 9087 ≤ rs)
    (K : KL N xs n rc rs) : XL N xs rc rs (L, M) 1146 [.float 9, .ref 0, .ref 92, .ref 158, .int (nI n), junk, junk] [] := by
  refine X_aload_n 1147 dL_law_1146 rfl rfl ?_
  refine Y_scr 1153 (n := n) (j := 1) dL_law_1147 dL_law_1148 dL_law_1150 dL_law_1151 dL_law_1152 rfl rfl rfl rfl (by omega) hN ?_
  refine Y_scr 1159 (n := n) (j := 2) dL_law_1153 dL_law_1154 dL_law_1156 dL_law_1157 dL_law_1158 rfl rfl rfl rfl (by omega) hN ?_
  refine Y_cVI 1162 (as := [.int (xs (n + 1)), .int (xs (n + 2))]) m_L_125 (s_X11_slide hL (j_slide h)) (hL.ob (c := 11) (by decide) rfl) rfl (by decide) (Nat.le_of_ble_eq_true rfl) dL_law_1159 rfl rfl (fun a M1 hw => ?_)
  refine X_aload_n 1163 dL_law_1162 rfl rfl ?_
  refine Y_scr 1169 (n := n) (j := 1) dL_law_1163 dL_law_1164 dL_law_1166 dL_law_1167 dL_law_1168 rfl rfl rfl rfl (by omega) hN ?_
  refine Y_scr 1175 (n := n) (j := 2) dL_law_1169 dL_law_1170 dL_law_1172 dL_law_1173 dL_law_1174 rfl rfl rfl rfl (by omega) hN ?_
  refine Y_cVI 1178 (as := [.int (xs (n + 1)), .int (xs (n + 2))]) m_L_128 (s_X12_slide hL hw) (hL.ob (c := 12) (by decide) rfl) rfl (by decide) (Nat.le_of_ble_eq_true rfl) dL_law_1175 rfl rfl (fun b M2 hq => ?_)
  refine X_icmp_eq 1521 1181 dL_law_1178 rfl rfl (fun c => ?_) (fun c => absurd hq.1 c)
  exact X_room (by omega) (by omega) (K L M2 hL hq.2)
set_option maxRecDepth 20000 in
theorem lc_22 {N : Nat} {xs : Nat → Int32} {n rc rs : Nat} (hn : n + 7 ≤ N) (hN : N ≤ 3584) {L : Lay} {M : Mem} (hL : LY L) (h : RR L M) (hrc : 20 ≤ rc) (hrs : 9087 ≤ rs)
    (K : KL N xs n rc rs) : XL N xs rc rs (L, M) 1183 [.float 9, .ref 0, .ref 92, .ref 158, .int (nI n), junk, junk] [] := by
  refine X_aload_n 1184 dL_law_1183 rfl rfl ?_
  refine Y_scr 1190 (n := n) (j := 1) dL_law_1184 dL_law_1185 dL_law_1187 dL_law_1188 dL_law_1189 rfl rfl rfl rfl (by omega) hN ?_
  refine X_aload_n 1191 dL_law_1190 rfl rfl ?_
  obtain ⟨t, X9, hX⟩ := id h
  by_cases v : wi (xs (n + 1)) 0 9999
  · refine Y_hlp 1194 (as := [.ref 0, .int (xs (n + 1)), .ref 158]) m_L_129 (h_tried hL (k_tried hX v)) rfl hrc hrs dL_law_1191 rfl rfl (fun r h' hr => ?_) (fun r h' hr => (fun ⟨_, _, e, _⟩ => ⟨_, e⟩) hr)
    obtain ⟨a, M1, er, rfl, hw⟩ := hr
    obtain rfl : r = 0 := by cases er; rfl
    refine X_istore 1196 (ls' := [.float 9, .ref 0, .ref 92, .ref 158, .int (nI n), .int (0 : Int32), junk]) dL_law_1194 rfl (Nat.le_of_ble_eq_true rfl) rfl (Or.inr (Or.inr ⟨_, rfl, rfl⟩)) ?_
    refine X_aload_n 1197 dL_law_1196 rfl rfl ?_
    refine Y_scr 1203 (n := n) (j := 1) dL_law_1197 dL_law_1198 dL_law_1200 dL_law_1201 dL_law_1202 rfl rfl rfl rfl (by omega) hN ?_
    refine Y_cVI 1206 (as := [.int (xs (n + 1))]) m_L_132 (s_X12_tried hL (hw a.toInt64)) (hL.ob (c := 12) (by decide) rfl) rfl (by decide) (Nat.le_of_ble_eq_true rfl) dL_law_1203 rfl rfl (fun b M2 hq => ?_)
    refine X_istore 1208 (ls' := [.float 9, .ref 0, .ref 92, .ref 158, .int (nI n), .int (0 : Int32), .int b]) dL_law_1206 rfl (Nat.le_of_ble_eq_true rfl) rfl (Or.inr (Or.inr ⟨_, rfl, rfl⟩)) ?_
    refine X_aload_n 1209 dL_law_1208 rfl rfl ?_
    refine Y_cVI 1212 (as := []) (Q := fun x M' => x = mi M2 92 0 ∧ M' = M2) m_L_118 (s_X12_thrown hL ⟨rfl, rfl⟩) (hL.ob (c := 12) (by decide) rfl) rfl (by decide) (Nat.le_of_ble_eq_true rfl) dL_law_1209 rfl rfl (fun w M3 hx => ?_)
    obtain ⟨ex, rfl⟩ := hx
    refine X_iload 1214 dL_law_1212 rfl rfl ?_
    refine X_icmp_eq 1219 1217 dL_law_1214 rfl rfl (fun _ => ?_) (fun c => absurd (ex.trans hq.2.1) c)
    refine X_iload 1221 dL_law_1219 rfl rfl ?_
    refine X_if_ne 1236 1224 (y := 0) dL_law_1221 rfl rfl (fun c => absurd rfl c) (fun _ => ?_)
    refine X_aload_n 1225 dL_law_1224 rfl rfl ?_
    refine X_iconst 1226 (v := 0) dL_law_1225 rfl rfl ?_
    refine Y_lald 1227 (k := 0) (hL.ar (t := 4) (n := 1) (by decide) rfl) (vlit (by decide)) rfl dL_law_1226 rfl ?_
    refine X_iload 1229 dL_law_1227 rfl rfl ?_
    refine X_i2l 1230 dL_law_1229 rfl ?_
    refine X_lcmp 1231 dL_law_1230 rfl ?_
    rw [hq.2.2.1, hq.1, lcmp_rf]
    refine X_if_eq 1236 1234 (y := 0) dL_law_1231 rfl rfl (fun _ => ?_) (fun c => absurd rfl c)
    refine X_goto 1521 dL_law_1236 rfl ?_
    refine X_weak (ls' := [.float 9, .ref 0, .ref 92, .ref 158, .int (nI n), junk, junk]) (WK.s (WK.s (WK.s (WK.s (WK.s (WK.j (WK.j WK.n))))))) (Nat.le_of_ble_eq_true rfl) ?_
    exact K L M3 hL hq.2.2.2
  · refine Y_hlp 1194 (as := [.ref 0, .int (xs (n + 1)), .ref 158]) m_L_129 (t_tried hL v) rfl hrc hrs dL_law_1191 rfl rfl (fun r h' hr => ?_) (fun r h' hr => (fun ⟨_, e, _⟩ => ⟨_, e⟩) hr)
    obtain ⟨z, er, rfl⟩ := hr
    obtain rfl : r = 1 := by cases er; rfl
    have hL1 : LY (jnk L z) := LE.jnk.ly hL
    have hn : w_X12_tried (jnk L z) (xs (n + 1)) M (fun b M2 => mi M2 92 0 = 1 ∧ RR (jnk L z) M2) := n_tried (p0 := (xs (n + 1))) (RX_lay hX hL.1 LE.jnk) v (fun M2 z1 z2 => ⟨z1, t, X9, z2⟩)
    refine X_istore 1196 (ls' := [.float 9, .ref 0, .ref 92, .ref 158, .int (nI n), .int (1 : Int32), junk]) dL_law_1194 rfl (Nat.le_of_ble_eq_true rfl) rfl (Or.inr (Or.inr ⟨_, rfl, rfl⟩)) ?_
    refine X_aload_n 1197 dL_law_1196 rfl rfl ?_
    refine Y_scr 1203 (n := n) (j := 1) dL_law_1197 dL_law_1198 dL_law_1200 dL_law_1201 dL_law_1202 rfl rfl rfl rfl (by omega) hN ?_
    refine Y_cVI 1206 (as := [.int (xs (n + 1))]) m_L_132 (s_X12_tried hL1 hn) (hL1.ob (c := 12) (by decide) rfl) rfl (by decide) (Nat.le_of_ble_eq_true rfl) dL_law_1203 rfl rfl (fun b M2 hq => ?_)
    refine X_istore 1208 (ls' := [.float 9, .ref 0, .ref 92, .ref 158, .int (nI n), .int (1 : Int32), .int b]) dL_law_1206 rfl (Nat.le_of_ble_eq_true rfl) rfl (Or.inr (Or.inr ⟨_, rfl, rfl⟩)) ?_
    refine X_aload_n 1209 dL_law_1208 rfl rfl ?_
    refine Y_cVI 1212 (as := []) (Q := fun x M' => x = mi M2 92 0 ∧ M' = M2) m_L_118 (s_X12_thrown hL1 ⟨rfl, rfl⟩) (hL1.ob (c := 12) (by decide) rfl) rfl (by decide) (Nat.le_of_ble_eq_true rfl) dL_law_1209 rfl rfl (fun w M3 hx => ?_)
    obtain ⟨ex, rfl⟩ := hx
    refine X_iload 1214 dL_law_1212 rfl rfl ?_
    refine X_icmp_eq 1219 1217 dL_law_1214 rfl rfl (fun _ => ?_) (fun c => absurd (ex.trans hq.1) c)
    refine X_iload 1221 dL_law_1219 rfl rfl ?_
    refine X_if_ne 1236 1224 (y := 0) dL_law_1221 rfl rfl (fun _ => ?_) (fun c => absurd c (by decide))
    refine X_goto 1521 dL_law_1236 rfl ?_
    refine X_weak (ls' := [.float 9, .ref 0, .ref 92, .ref 158, .int (nI n), junk, junk]) (WK.s (WK.s (WK.s (WK.s (WK.s (WK.j (WK.j WK.n))))))) (Nat.le_of_ble_eq_true rfl) ?_
    exact K (jnk L z) M3 hL1 hq.2
set_option maxRecDepth 20000 in
theorem lc_23 {N : Nat} {xs : Nat → Int32} {n rc rs : Nat} (hn : n + 7 ≤ N) (hN : N ≤ 3584) {L : Lay} {M : Mem} (hL : LY L) (h : RR L M) (hrc : 20 ≤ rc) (hrs : 9087 ≤ rs)
    (K : KL N xs n rc rs) : XL N xs rc rs (L, M) 1239 [.float 9, .ref 0, .ref 92, .ref 158, .int (nI n), junk, junk] [] := by
  refine X_aload_n 1240 dL_law_1239 rfl rfl ?_
  refine Y_scr 1246 (n := n) (j := 1) dL_law_1240 dL_law_1241 dL_law_1243 dL_law_1244 dL_law_1245 rfl rfl rfl rfl (by omega) hN ?_
  refine Y_cVI 1249 (as := [.int (xs (n + 1))]) m_L_133 (s_X11_best hL (j_best h)) (hL.ob (c := 11) (by decide) rfl) rfl (by decide) (Nat.le_of_ble_eq_true rfl) dL_law_1246 rfl rfl (fun a M1 hw => ?_)
  refine X_aload_n 1250 dL_law_1249 rfl rfl ?_
  refine Y_scr 1256 (n := n) (j := 1) dL_law_1250 dL_law_1251 dL_law_1253 dL_law_1254 dL_law_1255 rfl rfl rfl rfl (by omega) hN ?_
  refine Y_cVI 1259 (as := [.int (xs (n + 1))]) m_L_136 (s_X12_best hL hw) (hL.ob (c := 12) (by decide) rfl) rfl (by decide) (Nat.le_of_ble_eq_true rfl) dL_law_1256 rfl rfl (fun b M2 hq => ?_)
  refine X_icmp_eq 1521 1262 dL_law_1259 rfl rfl (fun c => ?_) (fun c => absurd hq.1 c)
  exact X_room (by omega) (by omega) (K L M2 hL hq.2)
set_option maxRecDepth 20000 in
theorem lc_24 {N : Nat} {xs : Nat → Int32} {n rc rs : Nat} (hn : n + 7 ≤ N) (hN : N ≤ 3584) {L : Lay} {M : Mem} (hL : LY L) (h : RR L M) (hrc : 20 ≤ rc) (hrs : 9087 ≤ rs)
    (K : KL N xs n rc rs) : XL N xs rc rs (L, M) 1264 [.float 9, .ref 0, .ref 92, .ref 158, .int (nI n), junk, junk] [] := by
  refine X_aload_n 1265 dL_law_1264 rfl rfl ?_
  refine Y_scr 1271 (n := n) (j := 1) dL_law_1265 dL_law_1266 dL_law_1268 dL_law_1269 dL_law_1270 rfl rfl rfl rfl (by omega) hN ?_
  refine Y_bool 1279 dL_law_1271 dL_law_1274 dL_law_1275 dL_law_1278 rfl ?_
  refine Y_cVI 1282 (as := [.int (bzz (xs (n + 1)))]) m_L_137 (s_X11_foretold hL (j_foretold (BZ_bzz _) h)) (hL.ob (c := 11) (by decide) rfl) rfl (by decide) (Nat.le_of_ble_eq_true rfl) dL_law_1279 rfl rfl (fun a M1 hw => ?_)
  refine X_aload_n 1283 dL_law_1282 rfl rfl ?_
  refine Y_scr 1289 (n := n) (j := 1) dL_law_1283 dL_law_1284 dL_law_1286 dL_law_1287 dL_law_1288 rfl rfl rfl rfl (by omega) hN ?_
  refine Y_bool 1297 dL_law_1289 dL_law_1292 dL_law_1293 dL_law_1296 rfl ?_
  refine Y_cVI 1300 (as := [.int (bzz (xs (n + 1)))]) m_L_141 (s_X12_foretold hL hw) (hL.ob (c := 12) (by decide) rfl) rfl (by decide) (Nat.le_of_ble_eq_true rfl) dL_law_1297 rfl rfl (fun b M2 hq => ?_)
  refine X_icmp_eq 1521 1303 dL_law_1300 rfl rfl (fun c => ?_) (fun c => absurd hq.1 c)
  exact X_room (by omega) (by omega) (K L M2 hL hq.2)
set_option maxRecDepth 20000 in
theorem lc_25 {N : Nat} {xs : Nat → Int32} {n rc rs : Nat} (hn : n + 7 ≤ N) (hN : N ≤ 3584) {L : Lay} {M : Mem} (hL : LY L) (h : RR L M) (hrc : 20 ≤ rc) (hrs : 9087 ≤ rs)
    (K : KL N xs n rc rs) : XL N xs rc rs (L, M) 1305 [.float 9, .ref 0, .ref 92, .ref 158, .int (nI n), junk, junk] [] := by
  refine X_aload_n 1306 dL_law_1305 rfl rfl ?_
  refine Y_scr 1312 (n := n) (j := 1) dL_law_1306 dL_law_1307 dL_law_1309 dL_law_1310 dL_law_1311 rfl rfl rfl rfl (by omega) hN ?_
  refine Y_scr 1318 (n := n) (j := 2) dL_law_1312 dL_law_1313 dL_law_1315 dL_law_1316 dL_law_1317 rfl rfl rfl rfl (by omega) hN ?_
  refine X_aload_n 1319 dL_law_1318 rfl rfl ?_
  obtain ⟨t, X9, hX⟩ := id h
  by_cases v : vLk X9 (xs (n + 1)) (xs (n + 2))
  · refine Y_hlp 1322 (as := [.ref 0, .int (xs (n + 1)), .int (xs (n + 2)), .ref 158]) m_L_142 (h_look hL (k_look hX v)) rfl hrc hrs dL_law_1319 rfl rfl (fun r h' hr => ?_) (fun r h' hr => (fun ⟨_, _, e, _⟩ => ⟨_, e⟩) hr)
    obtain ⟨a, M1, er, rfl, hw⟩ := hr
    obtain rfl : r = 0 := by cases er; rfl
    refine X_istore 1324 (ls' := [.float 9, .ref 0, .ref 92, .ref 158, .int (nI n), .int (0 : Int32), junk]) dL_law_1322 rfl (Nat.le_of_ble_eq_true rfl) rfl (Or.inr (Or.inr ⟨_, rfl, rfl⟩)) ?_
    refine X_aload_n 1325 dL_law_1324 rfl rfl ?_
    refine Y_scr 1331 (n := n) (j := 1) dL_law_1325 dL_law_1326 dL_law_1328 dL_law_1329 dL_law_1330 rfl rfl rfl rfl (by omega) hN ?_
    refine Y_scr 1337 (n := n) (j := 2) dL_law_1331 dL_law_1332 dL_law_1334 dL_law_1335 dL_law_1336 rfl rfl rfl rfl (by omega) hN ?_
    refine Y_cVI 1340 (as := [.int (xs (n + 1)), .int (xs (n + 2))]) m_L_145 (s_X12_look hL (hw a.toInt64)) (hL.ob (c := 12) (by decide) rfl) rfl (by decide) (Nat.le_of_ble_eq_true rfl) dL_law_1337 rfl rfl (fun b M2 hq => ?_)
    refine X_istore 1342 (ls' := [.float 9, .ref 0, .ref 92, .ref 158, .int (nI n), .int (0 : Int32), .int b]) dL_law_1340 rfl (Nat.le_of_ble_eq_true rfl) rfl (Or.inr (Or.inr ⟨_, rfl, rfl⟩)) ?_
    refine X_aload_n 1343 dL_law_1342 rfl rfl ?_
    refine Y_cVI 1346 (as := []) (Q := fun x M' => x = mi M2 92 0 ∧ M' = M2) m_L_118 (s_X12_thrown hL ⟨rfl, rfl⟩) (hL.ob (c := 12) (by decide) rfl) rfl (by decide) (Nat.le_of_ble_eq_true rfl) dL_law_1343 rfl rfl (fun w M3 hx => ?_)
    obtain ⟨ex, rfl⟩ := hx
    refine X_iload 1348 dL_law_1346 rfl rfl ?_
    refine X_icmp_eq 1353 1351 dL_law_1348 rfl rfl (fun _ => ?_) (fun c => absurd (ex.trans hq.2.1) c)
    refine X_iload 1355 dL_law_1353 rfl rfl ?_
    refine X_if_ne 1370 1358 (y := 0) dL_law_1355 rfl rfl (fun c => absurd rfl c) (fun _ => ?_)
    refine X_aload_n 1359 dL_law_1358 rfl rfl ?_
    refine X_iconst 1360 (v := 0) dL_law_1359 rfl rfl ?_
    refine Y_lald 1361 (k := 0) (hL.ar (t := 4) (n := 1) (by decide) rfl) (vlit (by decide)) rfl dL_law_1360 rfl ?_
    refine X_iload 1363 dL_law_1361 rfl rfl ?_
    refine X_i2l 1364 dL_law_1363 rfl ?_
    refine X_lcmp 1365 dL_law_1364 rfl ?_
    rw [hq.2.2.1, hq.1, lcmp_rf]
    refine X_if_eq 1370 1368 (y := 0) dL_law_1365 rfl rfl (fun _ => ?_) (fun c => absurd rfl c)
    refine X_goto 1521 dL_law_1370 rfl ?_
    refine X_weak (ls' := [.float 9, .ref 0, .ref 92, .ref 158, .int (nI n), junk, junk]) (WK.s (WK.s (WK.s (WK.s (WK.s (WK.j (WK.j WK.n))))))) (Nat.le_of_ble_eq_true rfl) ?_
    exact K L M3 hL hq.2.2.2
  · refine Y_hlp 1322 (as := [.ref 0, .int (xs (n + 1)), .int (xs (n + 2)), .ref 158]) m_L_142 (t_look hL hX v) rfl hrc hrs dL_law_1319 rfl rfl (fun r h' hr => ?_) (fun r h' hr => (fun ⟨_, e, _⟩ => ⟨_, e⟩) hr)
    obtain ⟨z, er, rfl⟩ := hr
    obtain rfl : r = 1 := by cases er; rfl
    have hL1 : LY (jnk L z) := LE.jnk.ly hL
    have hn : w_X12_look (jnk L z) (xs (n + 1)) (xs (n + 2)) M (fun b M2 => mi M2 92 0 = 1 ∧ RR (jnk L z) M2) := n_look (p0 := (xs (n + 1))) (p1 := (xs (n + 2))) (RX_lay hX hL.1 LE.jnk) v (fun M2 z1 z2 => ⟨z1, t, X9, z2⟩)
    refine X_istore 1324 (ls' := [.float 9, .ref 0, .ref 92, .ref 158, .int (nI n), .int (1 : Int32), junk]) dL_law_1322 rfl (Nat.le_of_ble_eq_true rfl) rfl (Or.inr (Or.inr ⟨_, rfl, rfl⟩)) ?_
    refine X_aload_n 1325 dL_law_1324 rfl rfl ?_
    refine Y_scr 1331 (n := n) (j := 1) dL_law_1325 dL_law_1326 dL_law_1328 dL_law_1329 dL_law_1330 rfl rfl rfl rfl (by omega) hN ?_
    refine Y_scr 1337 (n := n) (j := 2) dL_law_1331 dL_law_1332 dL_law_1334 dL_law_1335 dL_law_1336 rfl rfl rfl rfl (by omega) hN ?_
    refine Y_cVI 1340 (as := [.int (xs (n + 1)), .int (xs (n + 2))]) m_L_145 (s_X12_look hL1 hn) (hL1.ob (c := 12) (by decide) rfl) rfl (by decide) (Nat.le_of_ble_eq_true rfl) dL_law_1337 rfl rfl (fun b M2 hq => ?_)
    refine X_istore 1342 (ls' := [.float 9, .ref 0, .ref 92, .ref 158, .int (nI n), .int (1 : Int32), .int b]) dL_law_1340 rfl (Nat.le_of_ble_eq_true rfl) rfl (Or.inr (Or.inr ⟨_, rfl, rfl⟩)) ?_
    refine X_aload_n 1343 dL_law_1342 rfl rfl ?_
    refine Y_cVI 1346 (as := []) (Q := fun x M' => x = mi M2 92 0 ∧ M' = M2) m_L_118 (s_X12_thrown hL1 ⟨rfl, rfl⟩) (hL1.ob (c := 12) (by decide) rfl) rfl (by decide) (Nat.le_of_ble_eq_true rfl) dL_law_1343 rfl rfl (fun w M3 hx => ?_)
    obtain ⟨ex, rfl⟩ := hx
    refine X_iload 1348 dL_law_1346 rfl rfl ?_
    refine X_icmp_eq 1353 1351 dL_law_1348 rfl rfl (fun _ => ?_) (fun c => absurd (ex.trans hq.1) c)
    refine X_iload 1355 dL_law_1353 rfl rfl ?_
    refine X_if_ne 1370 1358 (y := 0) dL_law_1355 rfl rfl (fun _ => ?_) (fun c => absurd c (by decide))
    refine X_goto 1521 dL_law_1370 rfl ?_
    refine X_weak (ls' := [.float 9, .ref 0, .ref 92, .ref 158, .int (nI n), junk, junk]) (WK.s (WK.s (WK.s (WK.s (WK.s (WK.j (WK.j WK.n))))))) (Nat.le_of_ble_eq_true rfl) ?_
    exact K (jnk L z) M3 hL1 hq.2
set_option maxRecDepth 20000 in
theorem lc_26 {N : Nat} {xs : Nat → Int32} {n rc rs : Nat} (hn : n + 7 ≤ N) (hN : N ≤ 3584) {L : Lay} {M : Mem} (hL : LY L) (h : RR L M) (hrc : 20 ≤ rc) (hrs : 9087 ≤ rs)
    (K : KL N xs n rc rs) : XL N xs rc rs (L, M) 1373 [.float 9, .ref 0, .ref 92, .ref 158, .int (nI n), junk, junk] [] := by
  refine X_aload_n 1374 dL_law_1373 rfl rfl ?_
  refine Y_scr 1380 (n := n) (j := 1) dL_law_1374 dL_law_1375 dL_law_1377 dL_law_1378 dL_law_1379 rfl rfl rfl rfl (by omega) hN ?_
  refine Y_scr 1386 (n := n) (j := 2) dL_law_1380 dL_law_1381 dL_law_1383 dL_law_1384 dL_law_1385 rfl rfl rfl rfl (by omega) hN ?_
  refine Y_scr 1392 (n := n) (j := 3) dL_law_1386 dL_law_1387 dL_law_1389 dL_law_1390 dL_law_1391 rfl rfl rfl rfl (by omega) hN ?_
  refine Y_cVI 1395 (as := [.int (xs (n + 1)), .int (xs (n + 2)), .int (xs (n + 3))]) m_L_146 (s_X11_month hL (j_month h)) (hL.ob (c := 11) (by decide) rfl) rfl (by decide) (Nat.le_of_ble_eq_true rfl) dL_law_1392 rfl rfl (fun a M1 hw => ?_)
  refine X_aload_n 1396 dL_law_1395 rfl rfl ?_
  refine Y_scr 1402 (n := n) (j := 1) dL_law_1396 dL_law_1397 dL_law_1399 dL_law_1400 dL_law_1401 rfl rfl rfl rfl (by omega) hN ?_
  refine Y_scr 1408 (n := n) (j := 2) dL_law_1402 dL_law_1403 dL_law_1405 dL_law_1406 dL_law_1407 rfl rfl rfl rfl (by omega) hN ?_
  refine Y_scr 1414 (n := n) (j := 3) dL_law_1408 dL_law_1409 dL_law_1411 dL_law_1412 dL_law_1413 rfl rfl rfl rfl (by omega) hN ?_
  refine Y_cVI 1417 (as := [.int (xs (n + 1)), .int (xs (n + 2)), .int (xs (n + 3))]) m_L_149 (s_X12_month hL hw) (hL.ob (c := 12) (by decide) rfl) rfl (by decide) (Nat.le_of_ble_eq_true rfl) dL_law_1414 rfl rfl (fun b M2 hq => ?_)
  refine X_icmp_eq 1521 1420 dL_law_1417 rfl rfl (fun c => ?_) (fun c => absurd hq.1 c)
  exact X_room (by omega) (by omega) (K L M2 hL hq.2)
set_option maxRecDepth 20000 in
theorem lc_27 {N : Nat} {xs : Nat → Int32} {n rc rs : Nat} (hn : n + 7 ≤ N) (hN : N ≤ 3584) {L : Lay} {M : Mem} (hL : LY L) (h : RR L M) (hrc : 20 ≤ rc) (hrs : 9087 ≤ rs)
    (K : KL N xs n rc rs) : XL N xs rc rs (L, M) 1422 [.float 9, .ref 0, .ref 92, .ref 158, .int (nI n), junk, junk] [] := by
  refine X_aload_n 1423 dL_law_1422 rfl rfl ?_
  refine Y_scr 1429 (n := n) (j := 1) dL_law_1423 dL_law_1424 dL_law_1426 dL_law_1427 dL_law_1428 rfl rfl rfl rfl (by omega) hN ?_
  refine Y_scr 1435 (n := n) (j := 2) dL_law_1429 dL_law_1430 dL_law_1432 dL_law_1433 dL_law_1434 rfl rfl rfl rfl (by omega) hN ?_
  refine Y_cVI 1438 (as := [.int (xs (n + 1)), .int (xs (n + 2))]) m_L_150 (s_X11_lies hL (j_lies h)) (hL.ob (c := 11) (by decide) rfl) rfl (by decide) (Nat.le_of_ble_eq_true rfl) dL_law_1435 rfl rfl (fun a M1 hw => ?_)
  refine X_aload_n 1439 dL_law_1438 rfl rfl ?_
  refine Y_scr 1445 (n := n) (j := 1) dL_law_1439 dL_law_1440 dL_law_1442 dL_law_1443 dL_law_1444 rfl rfl rfl rfl (by omega) hN ?_
  refine Y_scr 1451 (n := n) (j := 2) dL_law_1445 dL_law_1446 dL_law_1448 dL_law_1449 dL_law_1450 rfl rfl rfl rfl (by omega) hN ?_
  refine Y_cVI 1454 (as := [.int (xs (n + 1)), .int (xs (n + 2))]) m_L_153 (s_X12_lies hL hw) (hL.ob (c := 12) (by decide) rfl) rfl (by decide) (Nat.le_of_ble_eq_true rfl) dL_law_1451 rfl rfl (fun b M2 hq => ?_)
  refine X_icmp_eq 1521 1457 dL_law_1454 rfl rfl (fun c => ?_) (fun c => absurd hq.1 c)
  exact X_room (by omega) (by omega) (K L M2 hL hq.2)
set_option maxRecDepth 20000 in
theorem lc_28 {N : Nat} {xs : Nat → Int32} {n rc rs : Nat} (hn : n + 7 ≤ N) (hN : N ≤ 3584) {L : Lay} {M : Mem} (hL : LY L) (h : RR L M) (hrc : 20 ≤ rc) (hrs : 9087 ≤ rs)
    (K : KL N xs n rc rs) : XL N xs rc rs (L, M) 1459 [.float 9, .ref 0, .ref 92, .ref 158, .int (nI n), junk, junk] [] := by
  refine X_aload_n 1460 dL_law_1459 rfl rfl ?_
  refine Y_scr 1466 (n := n) (j := 1) dL_law_1460 dL_law_1461 dL_law_1463 dL_law_1464 dL_law_1465 rfl rfl rfl rfl (by omega) hN ?_
  refine Y_scr 1472 (n := n) (j := 2) dL_law_1466 dL_law_1467 dL_law_1469 dL_law_1470 dL_law_1471 rfl rfl rfl rfl (by omega) hN ?_
  refine Y_cVI 1475 (as := [.int (xs (n + 1)), .int (xs (n + 2))]) m_L_154 (s_X11_load hL (j_load h)) (hL.ob (c := 11) (by decide) rfl) rfl (by decide) (Nat.le_of_ble_eq_true rfl) dL_law_1472 rfl rfl (fun a M1 hw => ?_)
  refine X_aload_n 1476 dL_law_1475 rfl rfl ?_
  refine Y_scr 1482 (n := n) (j := 1) dL_law_1476 dL_law_1477 dL_law_1479 dL_law_1480 dL_law_1481 rfl rfl rfl rfl (by omega) hN ?_
  refine Y_scr 1488 (n := n) (j := 2) dL_law_1482 dL_law_1483 dL_law_1485 dL_law_1486 dL_law_1487 rfl rfl rfl rfl (by omega) hN ?_
  refine Y_cVI 1491 (as := [.int (xs (n + 1)), .int (xs (n + 2))]) m_L_157 (s_X12_load hL hw) (hL.ob (c := 12) (by decide) rfl) rfl (by decide) (Nat.le_of_ble_eq_true rfl) dL_law_1488 rfl rfl (fun b M2 hq => ?_)
  refine X_icmp_eq 1521 1494 dL_law_1491 rfl rfl (fun c => ?_) (fun c => absurd hq.1 c)
  exact X_room (by omega) (by omega) (K L M2 hL hq.2)
set_option maxRecDepth 20000 in
theorem lc_29 {N : Nat} {xs : Nat → Int32} {n rc rs : Nat} (hn : n + 7 ≤ N) (hN : N ≤ 3584) {L : Lay} {M : Mem} (hL : LY L) (h : RR L M) (hrc : 20 ≤ rc) (hrs : 9087 ≤ rs)
    (K : KL N xs n rc rs) : XL N xs rc rs (L, M) 1496 [.float 9, .ref 0, .ref 92, .ref 158, .int (nI n), junk, junk] [] := by
  refine X_aload_n 1497 dL_law_1496 rfl rfl ?_
  refine Y_scr 1503 (n := n) (j := 1) dL_law_1497 dL_law_1498 dL_law_1500 dL_law_1501 dL_law_1502 rfl rfl rfl rfl (by omega) hN ?_
  refine Y_cVI 1506 (as := [.int (xs (n + 1))]) m_L_158 (s_X11_count hL (j_count h)) (hL.ob (c := 11) (by decide) rfl) rfl (by decide) (Nat.le_of_ble_eq_true rfl) dL_law_1503 rfl rfl (fun a M1 hw => ?_)
  refine X_aload_n 1507 dL_law_1506 rfl rfl ?_
  refine Y_scr 1513 (n := n) (j := 1) dL_law_1507 dL_law_1508 dL_law_1510 dL_law_1511 dL_law_1512 rfl rfl rfl rfl (by omega) hN ?_
  refine Y_cVI 1516 (as := [.int (xs (n + 1))]) m_L_161 (s_X12_count hL hw) (hL.ob (c := 12) (by decide) rfl) rfl (by decide) (Nat.le_of_ble_eq_true rfl) dL_law_1513 rfl rfl (fun b M2 hq => ?_)
  refine X_icmp_eq 1521 1519 dL_law_1516 rfl rfl (fun c => ?_) (fun c => absurd hq.1 c)
  exact X_room (by omega) (by omega) (K L M2 hL hq.2)
