section LC
variable {X : Cx (Me × Me)} {C N : Me} {w i : Nat} {G : Gt} {b L : Nat} {xs : Nat → Int32}
theorem L_26 (h : Lx X G b L xs) (hi : i + 5 ≤ L) (R : Rl C N w) (hw : w ≤ 3000000) (k : ∀ C2 N2 w2, Rl C2 N2 w2 → w2 ≤ w + 5000 → Wt X (C2, N2) 1725 (LVs G b i) []) : Wt X (C, N) 1026 (LVs G b i) [] := by
  obtain ⟨o, e1, e2⟩ := Q_refusal R (xs (i + 1)) (xs (i + 2))
  refine r_aload_n rfl h.1 d_law_1026 rfl 2 rfl ?_
  refine l_arg 1 rfl h hi (by decide) (by decide +kernel) d_law_1027 d_law_1028 d_law_1029 d_law_1030 d_law_1031 ?_
  refine l_arg 2 rfl h hi (by decide) (by decide +kernel) d_law_1032 d_law_1033 d_law_1034 d_law_1035 d_law_1036 ?_
  refine l_callC rfl h.1 h.2.1 mf_rc_refusal k_780 k_781 k_779 (C_rc_refusal e1) ⟨rfl, rfl⟩ (h.rm ⟨Nat.le_of_ble_eq_true rfl, Nat.le_of_ble_eq_true rfl⟩) rfl rfl rv_RC rfl (Nat.le_of_ble_eq_true rfl) d_law_1037 ?_
  refine r_aload_n rfl h.1 d_law_1040 rfl 1 rfl ?_
  refine l_arg 1 rfl h hi (by decide) (by decide +kernel) d_law_1041 d_law_1042 d_law_1043 d_law_1044 d_law_1045 ?_
  refine l_arg 2 rfl h hi (by decide) (by decide +kernel) d_law_1046 d_law_1047 d_law_1048 d_law_1049 d_law_1050 ?_
  refine l_callM rfl h.1 h.2.1 mf_m_refusal k_1352 k_1353 k_1351 (C_m_refusal e2) ⟨rfl, rfl⟩ (h.rm ⟨Nat.le_of_ble_eq_true rfl, Nat.le_of_ble_eq_true rfl⟩) rfl rfl rv_MOD rfl (Nat.le_of_ble_eq_true rfl) d_law_1051 ?_
  refine l_ret h d_law_1054 rfl ?_
  exact k C N w R (Nat.le_add_right _ _)
theorem L_27 (h : Lx X G b L xs) (hi : i + 5 ≤ L) (R : Rl C N w) (hw : w ≤ 3000000) (k : ∀ C2 N2 w2, Rl C2 N2 w2 → w2 ≤ w + 5000 → Wt X (C2, N2) 1725 (LVs G b i) []) : Wt X (C, N) 1059 (LVs G b i) [] := by
  obtain ⟨o, e1, e2⟩ := Q_rateOfMode R (xs (i + 1)) (xs (i + 2))
  refine r_aload_n rfl h.1 d_law_1059 rfl 2 rfl ?_
  refine l_arg 1 rfl h hi (by decide) (by decide +kernel) d_law_1060 d_law_1061 d_law_1062 d_law_1063 d_law_1064 ?_
  refine l_arg 2 rfl h hi (by decide) (by decide +kernel) d_law_1065 d_law_1066 d_law_1067 d_law_1068 d_law_1069 ?_
  refine l_callC rfl h.1 h.2.1 mf_rc_rateOfMode k_784 k_785 k_783 (C_rc_rateOfMode e1) ⟨rfl, rfl⟩ (h.rm ⟨Nat.le_of_ble_eq_true rfl, Nat.le_of_ble_eq_true rfl⟩) rfl rfl rv_RC rfl (Nat.le_of_ble_eq_true rfl) d_law_1070 ?_
  refine r_aload_n rfl h.1 d_law_1073 rfl 1 rfl ?_
  refine l_arg 1 rfl h hi (by decide) (by decide +kernel) d_law_1074 d_law_1075 d_law_1076 d_law_1077 d_law_1078 ?_
  refine l_arg 2 rfl h hi (by decide) (by decide +kernel) d_law_1079 d_law_1080 d_law_1081 d_law_1082 d_law_1083 ?_
  refine l_callM rfl h.1 h.2.1 mf_m_rateOfMode k_1356 k_1357 k_1355 (C_m_rateOfMode e2) ⟨rfl, rfl⟩ (h.rm ⟨Nat.le_of_ble_eq_true rfl, Nat.le_of_ble_eq_true rfl⟩) rfl rfl rv_MOD rfl (Nat.le_of_ble_eq_true rfl) d_law_1084 ?_
  refine l_ret h d_law_1087 rfl ?_
  exact k C N w R (Nat.le_add_right _ _)
theorem L_28 (h : Lx X G b L xs) (hi : i + 5 ≤ L) (R : Rl C N w) (hw : w ≤ 3000000) (k : ∀ C2 N2 w2, Rl C2 N2 w2 → w2 ≤ w + 5000 → Wt X (C2, N2) 1725 (LVs G b i) []) : Wt X (C, N) 1092 (LVs G b i) [] := by
  obtain ⟨o, e1, e2⟩ := Q_bestOfMode R (xs (i + 1)) (xs (i + 2))
  refine r_aload_n rfl h.1 d_law_1092 rfl 2 rfl ?_
  refine l_arg 1 rfl h hi (by decide) (by decide +kernel) d_law_1093 d_law_1094 d_law_1095 d_law_1096 d_law_1097 ?_
  refine l_arg 2 rfl h hi (by decide) (by decide +kernel) d_law_1098 d_law_1099 d_law_1100 d_law_1101 d_law_1102 ?_
  refine l_callC rfl h.1 h.2.1 mf_rc_bestOfMode k_796 k_797 k_795 (C_rc_bestOfMode e1) ⟨rfl, rfl⟩ (h.rm ⟨Nat.le_of_ble_eq_true rfl, Nat.le_of_ble_eq_true rfl⟩) rfl rfl rv_RC rfl (Nat.le_of_ble_eq_true rfl) d_law_1103 ?_
  refine r_aload_n rfl h.1 d_law_1106 rfl 1 rfl ?_
  refine l_arg 1 rfl h hi (by decide) (by decide +kernel) d_law_1107 d_law_1108 d_law_1109 d_law_1110 d_law_1111 ?_
  refine l_arg 2 rfl h hi (by decide) (by decide +kernel) d_law_1112 d_law_1113 d_law_1114 d_law_1115 d_law_1116 ?_
  refine l_callM rfl h.1 h.2.1 mf_m_bestOfMode k_1368 k_1369 k_1367 (C_m_bestOfMode e2) ⟨rfl, rfl⟩ (h.rm ⟨Nat.le_of_ble_eq_true rfl, Nat.le_of_ble_eq_true rfl⟩) rfl rfl rv_MOD rfl (Nat.le_of_ble_eq_true rfl) d_law_1117 ?_
  refine l_ret h d_law_1120 rfl ?_
  exact k C N w R (Nat.le_add_right _ _)
theorem L_29 (h : Lx X G b L xs) (hi : i + 5 ≤ L) (R : Rl C N w) (hw : w ≤ 3000000) (k : ∀ C2 N2 w2, Rl C2 N2 w2 → w2 ≤ w + 5000 → Wt X (C2, N2) 1725 (LVs G b i) []) : Wt X (C, N) 1125 (LVs G b i) [] := by
  obtain ⟨o, e1, e2⟩ := Q_mostUsed R (xs (i + 1))
  refine r_aload_n rfl h.1 d_law_1125 rfl 2 rfl ?_
  refine l_arg 1 rfl h hi (by decide) (by decide +kernel) d_law_1126 d_law_1127 d_law_1128 d_law_1129 d_law_1130 ?_
  refine l_callC rfl h.1 h.2.1 mf_rc_mostUsed k_806 k_807 k_805 (C_rc_mostUsed e1) ⟨rfl, rfl⟩ (h.rm ⟨Nat.le_of_ble_eq_true rfl, Nat.le_of_ble_eq_true rfl⟩) rfl rfl rv_RC rfl (Nat.le_of_ble_eq_true rfl) d_law_1131 ?_
  refine r_aload_n rfl h.1 d_law_1134 rfl 1 rfl ?_
  refine l_arg 1 rfl h hi (by decide) (by decide +kernel) d_law_1135 d_law_1136 d_law_1137 d_law_1138 d_law_1139 ?_
  refine l_callM rfl h.1 h.2.1 mf_m_mostUsed k_1372 k_1373 k_1371 (C_m_mostUsed e2) ⟨rfl, rfl⟩ (h.rm ⟨Nat.le_of_ble_eq_true rfl, Nat.le_of_ble_eq_true rfl⟩) rfl rfl rv_MOD rfl (Nat.le_of_ble_eq_true rfl) d_law_1140 ?_
  refine l_ret h d_law_1143 rfl ?_
  exact k C N w R (Nat.le_add_right _ _)
theorem L_30 (h : Lx X G b L xs) (hi : i + 5 ≤ L) (R : Rl C N w) (hw : w ≤ 3000000) (k : ∀ C2 N2 w2, Rl C2 N2 w2 → w2 ≤ w + 5000 → Wt X (C2, N2) 1725 (LVs G b i) []) : Wt X (C, N) 1148 (LVs G b i) [] := by
  obtain ⟨o, C2, N2, e1, e2, R2⟩ := T_bestChain R (xs (i + 1)) (xs (i + 2)) (xs (i + 3))
  refine r_aload_n rfl h.1 d_law_1148 rfl 2 rfl ?_
  refine l_arg 1 rfl h hi (by decide) (by decide +kernel) d_law_1149 d_law_1150 d_law_1151 d_law_1152 d_law_1153 ?_
  refine l_arg 2 rfl h hi (by decide) (by decide +kernel) d_law_1154 d_law_1155 d_law_1156 d_law_1157 d_law_1158 ?_
  refine l_arg 3 rfl h hi (by decide) (by decide +kernel) d_law_1159 d_law_1160 d_law_1161 d_law_1162 d_law_1163 ?_
  refine l_callC rfl h.1 h.2.1 mf_rc_bestChain k_814 k_815 k_813 (C_rc_bestChain e1) ⟨rfl, rfl⟩ (h.rm ⟨Nat.le_of_ble_eq_true rfl, Nat.le_of_ble_eq_true rfl⟩) rfl rfl rv_RC rfl (Nat.le_of_ble_eq_true rfl) d_law_1164 ?_
  refine r_aload_n rfl h.1 d_law_1167 rfl 1 rfl ?_
  refine l_arg 1 rfl h hi (by decide) (by decide +kernel) d_law_1168 d_law_1169 d_law_1170 d_law_1171 d_law_1172 ?_
  refine l_arg 2 rfl h hi (by decide) (by decide +kernel) d_law_1173 d_law_1174 d_law_1175 d_law_1176 d_law_1177 ?_
  refine l_arg 3 rfl h hi (by decide) (by decide +kernel) d_law_1178 d_law_1179 d_law_1180 d_law_1181 d_law_1182 ?_
  refine l_callM rfl h.1 h.2.1 mf_m_bestChain k_1376 k_1377 k_1375 (C_m_bestChain e2) ⟨rfl, rfl⟩ (h.rm ⟨Nat.le_of_ble_eq_true rfl, Nat.le_of_ble_eq_true rfl⟩) rfl rfl rv_MOD rfl (Nat.le_of_ble_eq_true rfl) d_law_1183 ?_
  refine l_ret h d_law_1186 rfl ?_
  exact k C2 N2 (w + 5000) R2 (Nat.le_refl _)
theorem L_31 (h : Lx X G b L xs) (hi : i + 5 ≤ L) (R : Rl C N w) (hw : w ≤ 3000000) (k : ∀ C2 N2 w2, Rl C2 N2 w2 → w2 ≤ w + 5000 → Wt X (C2, N2) 1725 (LVs G b i) []) : Wt X (C, N) 1191 (LVs G b i) [] := by
  obtain ⟨o, e1, e2⟩ := Q_chains R (xs (i + 1))
  refine r_aload_n rfl h.1 d_law_1191 rfl 2 rfl ?_
  refine l_arg 1 rfl h hi (by decide) (by decide +kernel) d_law_1192 d_law_1193 d_law_1194 d_law_1195 d_law_1196 ?_
  refine l_callC rfl h.1 h.2.1 mf_rc_chains k_841 k_842 k_840 (C_rc_chains e1) ⟨rfl, rfl⟩ (h.rm ⟨Nat.le_of_ble_eq_true rfl, Nat.le_of_ble_eq_true rfl⟩) rfl rfl rv_RC rfl (Nat.le_of_ble_eq_true rfl) d_law_1197 ?_
  refine r_aload_n rfl h.1 d_law_1200 rfl 1 rfl ?_
  refine l_arg 1 rfl h hi (by decide) (by decide +kernel) d_law_1201 d_law_1202 d_law_1203 d_law_1204 d_law_1205 ?_
  refine l_callM rfl h.1 h.2.1 mf_m_chains k_1388 k_1389 k_1387 (C_m_chains e2) ⟨rfl, rfl⟩ (h.rm ⟨Nat.le_of_ble_eq_true rfl, Nat.le_of_ble_eq_true rfl⟩) rfl rfl rv_MOD rfl (Nat.le_of_ble_eq_true rfl) d_law_1206 ?_
  refine l_ret h d_law_1209 rfl ?_
  exact k C N w R (Nat.le_add_right _ _)
theorem L_32 (h : Lx X G b L xs) (hi : i + 5 ≤ L) (R : Rl C N w) (hw : w ≤ 3000000) (k : ∀ C2 N2 w2, Rl C2 N2 w2 → w2 ≤ w + 5000 → Wt X (C2, N2) 1725 (LVs G b i) []) : Wt X (C, N) 1214 (LVs G b i) [] := by
  obtain ⟨o, e1, e2⟩ := Q_sampled R (xs (i + 1))
  refine r_aload_n rfl h.1 d_law_1214 rfl 2 rfl ?_
  refine l_arg 1 rfl h hi (by decide) (by decide +kernel) d_law_1215 d_law_1216 d_law_1217 d_law_1218 d_law_1219 ?_
  refine l_callC rfl h.1 h.2.1 mf_rc_sampled k_845 k_846 k_844 (C_rc_sampled e1) ⟨rfl, rfl⟩ (h.rm ⟨Nat.le_of_ble_eq_true rfl, Nat.le_of_ble_eq_true rfl⟩) rfl rfl rv_RC rfl (Nat.le_of_ble_eq_true rfl) d_law_1220 ?_
  refine r_aload_n rfl h.1 d_law_1223 rfl 1 rfl ?_
  refine l_arg 1 rfl h hi (by decide) (by decide +kernel) d_law_1224 d_law_1225 d_law_1226 d_law_1227 d_law_1228 ?_
  refine l_callM rfl h.1 h.2.1 mf_m_sampled k_1396 k_1397 k_1395 (C_m_sampled e2) ⟨rfl, rfl⟩ (h.rm ⟨Nat.le_of_ble_eq_true rfl, Nat.le_of_ble_eq_true rfl⟩) rfl rfl rv_MOD rfl (Nat.le_of_ble_eq_true rfl) d_law_1229 ?_
  refine l_ret h d_law_1232 rfl ?_
  exact k C N w R (Nat.le_add_right _ _)
theorem L_33 (h : Lx X G b L xs) (hi : i + 5 ≤ L) (R : Rl C N w) (hw : w ≤ 3000000) (k : ∀ C2 N2 w2, Rl C2 N2 w2 → w2 ≤ w + 5000 → Wt X (C2, N2) 1725 (LVs G b i) []) : Wt X (C, N) 1237 (LVs G b i) [] := by
  obtain ⟨o, e1, e2⟩ := Q_delivered R (xs (i + 1))
  refine r_aload_n rfl h.1 d_law_1237 rfl 2 rfl ?_
  refine l_arg 1 rfl h hi (by decide) (by decide +kernel) d_law_1238 d_law_1239 d_law_1240 d_law_1241 d_law_1242 ?_
  refine l_callC rfl h.1 h.2.1 mf_rc_delivered k_849 k_850 k_848 (C_rc_delivered e1) ⟨rfl, rfl⟩ (h.rm ⟨Nat.le_of_ble_eq_true rfl, Nat.le_of_ble_eq_true rfl⟩) rfl rfl rv_RC rfl (Nat.le_of_ble_eq_true rfl) d_law_1243 ?_
  refine r_aload_n rfl h.1 d_law_1246 rfl 1 rfl ?_
  refine l_arg 1 rfl h hi (by decide) (by decide +kernel) d_law_1247 d_law_1248 d_law_1249 d_law_1250 d_law_1251 ?_
  refine l_callM rfl h.1 h.2.1 mf_m_delivered k_1400 k_1401 k_1399 (C_m_delivered e2) ⟨rfl, rfl⟩ (h.rm ⟨Nat.le_of_ble_eq_true rfl, Nat.le_of_ble_eq_true rfl⟩) rfl rfl rv_MOD rfl (Nat.le_of_ble_eq_true rfl) d_law_1252 ?_
  refine l_ret h d_law_1255 rfl ?_
  exact k C N w R (Nat.le_add_right _ _)
theorem L_34 (h : Lx X G b L xs) (hi : i + 5 ≤ L) (R : Rl C N w) (hw : w ≤ 3000000) (k : ∀ C2 N2 w2, Rl C2 N2 w2 → w2 ≤ w + 5000 → Wt X (C2, N2) 1725 (LVs G b i) []) : Wt X (C, N) 1260 (LVs G b i) [] := by
  obtain ⟨o, e1, e2⟩ := Q_lost R (xs (i + 1))
  refine r_aload_n rfl h.1 d_law_1260 rfl 2 rfl ?_
  refine l_arg 1 rfl h hi (by decide) (by decide +kernel) d_law_1261 d_law_1262 d_law_1263 d_law_1264 d_law_1265 ?_
  refine l_callC rfl h.1 h.2.1 mf_rc_lost k_853 k_854 k_852 (C_rc_lost e1) ⟨rfl, rfl⟩ (h.rm ⟨Nat.le_of_ble_eq_true rfl, Nat.le_of_ble_eq_true rfl⟩) rfl rfl rv_RC rfl (Nat.le_of_ble_eq_true rfl) d_law_1266 ?_
  refine r_aload_n rfl h.1 d_law_1269 rfl 1 rfl ?_
  refine l_arg 1 rfl h hi (by decide) (by decide +kernel) d_law_1270 d_law_1271 d_law_1272 d_law_1273 d_law_1274 ?_
  refine l_callM rfl h.1 h.2.1 mf_m_lost k_1404 k_1405 k_1403 (C_m_lost e2) ⟨rfl, rfl⟩ (h.rm ⟨Nat.le_of_ble_eq_true rfl, Nat.le_of_ble_eq_true rfl⟩) rfl rfl rv_MOD rfl (Nat.le_of_ble_eq_true rfl) d_law_1275 ?_
  refine l_ret h d_law_1278 rfl ?_
  exact k C N w R (Nat.le_add_right _ _)
theorem L_35 (h : Lx X G b L xs) (hi : i + 5 ≤ L) (R : Rl C N w) (hw : w ≤ 3000000) (k : ∀ C2 N2 w2, Rl C2 N2 w2 → w2 ≤ w + 5000 → Wt X (C2, N2) 1725 (LVs G b i) []) : Wt X (C, N) 1283 (LVs G b i) [] := by
  obtain ⟨o, e1, e2⟩ := Q_queued R (xs (i + 1))
  refine r_aload_n rfl h.1 d_law_1283 rfl 2 rfl ?_
  refine l_arg 1 rfl h hi (by decide) (by decide +kernel) d_law_1284 d_law_1285 d_law_1286 d_law_1287 d_law_1288 ?_
  refine l_callC rfl h.1 h.2.1 mf_rc_queued k_857 k_858 k_856 (C_rc_queued e1) ⟨rfl, rfl⟩ (h.rm ⟨Nat.le_of_ble_eq_true rfl, Nat.le_of_ble_eq_true rfl⟩) rfl rfl rv_RC rfl (Nat.le_of_ble_eq_true rfl) d_law_1289 ?_
  refine r_aload_n rfl h.1 d_law_1292 rfl 1 rfl ?_
  refine l_arg 1 rfl h hi (by decide) (by decide +kernel) d_law_1293 d_law_1294 d_law_1295 d_law_1296 d_law_1297 ?_
  refine l_callM rfl h.1 h.2.1 mf_m_queued k_1408 k_1409 k_1407 (C_m_queued e2) ⟨rfl, rfl⟩ (h.rm ⟨Nat.le_of_ble_eq_true rfl, Nat.le_of_ble_eq_true rfl⟩) rfl rfl rv_MOD rfl (Nat.le_of_ble_eq_true rfl) d_law_1298 ?_
  refine l_ret h d_law_1301 rfl ?_
  exact k C N w R (Nat.le_add_right _ _)
theorem L_36 (h : Lx X G b L xs) (hi : i + 5 ≤ L) (R : Rl C N w) (hw : w ≤ 3000000) (k : ∀ C2 N2 w2, Rl C2 N2 w2 → w2 ≤ w + 5000 → Wt X (C2, N2) 1725 (LVs G b i) []) : Wt X (C, N) 1306 (LVs G b i) [] := by
  obtain ⟨o, e1, e2⟩ := Q_deficit R (xs (i + 1))
  refine r_aload_n rfl h.1 d_law_1306 rfl 2 rfl ?_
  refine l_arg 1 rfl h hi (by decide) (by decide +kernel) d_law_1307 d_law_1308 d_law_1309 d_law_1310 d_law_1311 ?_
  refine l_callC rfl h.1 h.2.1 mf_rc_deficit k_861 k_862 k_860 (C_rc_deficit e1) ⟨rfl, rfl⟩ (h.rm ⟨Nat.le_of_ble_eq_true rfl, Nat.le_of_ble_eq_true rfl⟩) rfl rfl rv_RC rfl (Nat.le_of_ble_eq_true rfl) d_law_1312 ?_
  refine r_aload_n rfl h.1 d_law_1315 rfl 1 rfl ?_
  refine l_arg 1 rfl h hi (by decide) (by decide +kernel) d_law_1316 d_law_1317 d_law_1318 d_law_1319 d_law_1320 ?_
  refine l_callM rfl h.1 h.2.1 mf_m_deficit k_1412 k_1413 k_1411 (C_m_deficit e2) ⟨rfl, rfl⟩ (h.rm ⟨Nat.le_of_ble_eq_true rfl, Nat.le_of_ble_eq_true rfl⟩) rfl rfl rv_MOD rfl (Nat.le_of_ble_eq_true rfl) d_law_1321 ?_
  refine l_ret h d_law_1324 rfl ?_
  exact k C N w R (Nat.le_add_right _ _)
theorem L_37 (h : Lx X G b L xs) (hi : i + 5 ≤ L) (R : Rl C N w) (hw : w ≤ 3000000) (k : ∀ C2 N2 w2, Rl C2 N2 w2 → w2 ≤ w + 5000 → Wt X (C2, N2) 1725 (LVs G b i) []) : Wt X (C, N) 1329 (LVs G b i) [] := by
  obtain ⟨o, e1, e2⟩ := Q_inFallback R (xs (i + 1))
  refine r_aload_n rfl h.1 d_law_1329 rfl 2 rfl ?_
  refine l_arg 1 rfl h hi (by decide) (by decide +kernel) d_law_1330 d_law_1331 d_law_1332 d_law_1333 d_law_1334 ?_
  refine l_callC rfl h.1 h.2.1 mf_rc_inFallback k_866 k_867 k_865 (C_rc_inFallback e1) ⟨rfl, rfl⟩ (h.rm ⟨Nat.le_of_ble_eq_true rfl, Nat.le_of_ble_eq_true rfl⟩) rfl rfl rv_RC rfl (Nat.le_of_ble_eq_true rfl) d_law_1335 ?_
  refine r_aload_n rfl h.1 d_law_1338 rfl 1 rfl ?_
  refine l_arg 1 rfl h hi (by decide) (by decide +kernel) d_law_1339 d_law_1340 d_law_1341 d_law_1342 d_law_1343 ?_
  refine l_callM rfl h.1 h.2.1 mf_m_inFallback k_1417 k_1418 k_1416 (C_m_inFallback e2) ⟨rfl, rfl⟩ (h.rm ⟨Nat.le_of_ble_eq_true rfl, Nat.le_of_ble_eq_true rfl⟩) rfl rfl rv_MOD rfl (Nat.le_of_ble_eq_true rfl) d_law_1344 ?_
  refine l_ret h d_law_1347 rfl ?_
  exact k C N w R (Nat.le_add_right _ _)
theorem L_38 (h : Lx X G b L xs) (hi : i + 5 ≤ L) (R : Rl C N w) (hw : w ≤ 3000000) (k : ∀ C2 N2 w2, Rl C2 N2 w2 → w2 ≤ w + 5000 → Wt X (C2, N2) 1725 (LVs G b i) []) : Wt X (C, N) 1352 (LVs G b i) [] := by
  obtain ⟨o, e1, e2⟩ := Q_time R
  refine r_aload_n rfl h.1 d_law_1352 rfl 2 rfl ?_
  refine l_callC rfl h.1 h.2.1 mf_rc_time k_870 k_871 k_869 (C_rc_time e1) ⟨rfl, rfl⟩ (h.rm ⟨Nat.le_of_ble_eq_true rfl, Nat.le_of_ble_eq_true rfl⟩) rfl rfl rv_RC rfl (Nat.le_of_ble_eq_true rfl) d_law_1353 ?_
  refine r_aload_n rfl h.1 d_law_1356 rfl 1 rfl ?_
  refine l_callM rfl h.1 h.2.1 mf_m_time k_1421 k_1422 k_1420 (C_m_time e2) ⟨rfl, rfl⟩ (h.rm ⟨Nat.le_of_ble_eq_true rfl, Nat.le_of_ble_eq_true rfl⟩) rfl rfl rv_MOD rfl (Nat.le_of_ble_eq_true rfl) d_law_1357 ?_
  refine l_ret h d_law_1360 rfl ?_
  exact k C N w R (Nat.le_add_right _ _)
theorem L_39 (h : Lx X G b L xs) (hi : i + 5 ≤ L) (R : Rl C N w) (hw : w ≤ 3000000) (k : ∀ C2 N2 w2, Rl C2 N2 w2 → w2 ≤ w + 5000 → Wt X (C2, N2) 1725 (LVs G b i) []) : Wt X (C, N) 1365 (LVs G b i) [] := by
  obtain ⟨o, C2, N2, e1, e2, R2⟩ := T_setQuality R (xs (i + 1)) (xs (i + 2)) (xs (i + 3))
  refine r_aload_n rfl h.1 d_law_1365 rfl 2 rfl ?_
  refine l_arg 1 rfl h hi (by decide) (by decide +kernel) d_law_1366 d_law_1367 d_law_1368 d_law_1369 d_law_1370 ?_
  refine l_arg 2 rfl h hi (by decide) (by decide +kernel) d_law_1371 d_law_1372 d_law_1373 d_law_1374 d_law_1375 ?_
  refine l_arg 3 rfl h hi (by decide) (by decide +kernel) d_law_1376 d_law_1377 d_law_1378 d_law_1379 d_law_1380 ?_
  refine l_callC rfl h.1 h.2.1 mf_rc_setQuality k_874 k_875 k_873 (C_rc_setQuality e1) ⟨rfl, rfl⟩ (h.rm ⟨Nat.le_of_ble_eq_true rfl, Nat.le_of_ble_eq_true rfl⟩) rfl rfl rv_RC rfl (Nat.le_of_ble_eq_true rfl) d_law_1381 ?_
  refine r_aload_n rfl h.1 d_law_1384 rfl 1 rfl ?_
  refine l_arg 1 rfl h hi (by decide) (by decide +kernel) d_law_1385 d_law_1386 d_law_1387 d_law_1388 d_law_1389 ?_
  refine l_arg 2 rfl h hi (by decide) (by decide +kernel) d_law_1390 d_law_1391 d_law_1392 d_law_1393 d_law_1394 ?_
  refine l_arg 3 rfl h hi (by decide) (by decide +kernel) d_law_1395 d_law_1396 d_law_1397 d_law_1398 d_law_1399 ?_
  refine l_callM rfl h.1 h.2.1 mf_m_setQuality k_1425 k_1426 k_1424 (C_m_setQuality e2) ⟨rfl, rfl⟩ (h.rm ⟨Nat.le_of_ble_eq_true rfl, Nat.le_of_ble_eq_true rfl⟩) rfl rfl rv_MOD rfl (Nat.le_of_ble_eq_true rfl) d_law_1400 ?_
  refine l_ret h d_law_1403 rfl ?_
  exact k C2 N2 (w + 5000) R2 (Nat.le_refl _)
theorem L_40 (h : Lx X G b L xs) (hi : i + 5 ≤ L) (R : Rl C N w) (hw : w ≤ 3000000) (k : ∀ C2 N2 w2, Rl C2 N2 w2 → w2 ≤ w + 5000 → Wt X (C2, N2) 1725 (LVs G b i) []) : Wt X (C, N) 1408 (LVs G b i) [] := by
  obtain ⟨o, C2, N2, e1, e2, R2⟩ := T_simulate R (by omega) (xs (i + 1)) (xs (i + 2)) (xs (i + 3)) (xs (i + 4))
  refine r_aload_n rfl h.1 d_law_1408 rfl 2 rfl ?_
  refine l_arg 1 rfl h hi (by decide) (by decide +kernel) d_law_1409 d_law_1410 d_law_1411 d_law_1412 d_law_1413 ?_
  refine l_arg 2 rfl h hi (by decide) (by decide +kernel) d_law_1414 d_law_1415 d_law_1416 d_law_1417 d_law_1418 ?_
  refine l_arg 3 rfl h hi (by decide) (by decide +kernel) d_law_1419 d_law_1420 d_law_1421 d_law_1422 d_law_1423 ?_
  refine l_arg 4 rfl h hi (by decide) (by decide +kernel) d_law_1424 d_law_1425 d_law_1426 d_law_1427 d_law_1428 ?_
  refine l_callC rfl h.1 h.2.1 mf_rc_simulate k_878 k_879 k_877 (C_rc_simulate e1) ⟨rfl, rfl⟩ (h.rm ⟨Nat.le_of_ble_eq_true rfl, Nat.le_of_ble_eq_true rfl⟩) rfl rfl rv_RC rfl (Nat.le_of_ble_eq_true rfl) d_law_1429 ?_
  refine r_aload_n rfl h.1 d_law_1432 rfl 1 rfl ?_
  refine l_arg 1 rfl h hi (by decide) (by decide +kernel) d_law_1433 d_law_1434 d_law_1435 d_law_1436 d_law_1437 ?_
  refine l_arg 2 rfl h hi (by decide) (by decide +kernel) d_law_1438 d_law_1439 d_law_1440 d_law_1441 d_law_1442 ?_
  refine l_arg 3 rfl h hi (by decide) (by decide +kernel) d_law_1443 d_law_1444 d_law_1445 d_law_1446 d_law_1447 ?_
  refine l_arg 4 rfl h hi (by decide) (by decide +kernel) d_law_1448 d_law_1449 d_law_1450 d_law_1451 d_law_1452 ?_
  refine l_callM rfl h.1 h.2.1 mf_m_simulate k_1429 k_1430 k_1428 (C_m_simulate e2) ⟨rfl, rfl⟩ (h.rm ⟨Nat.le_of_ble_eq_true rfl, Nat.le_of_ble_eq_true rfl⟩) rfl rfl rv_MOD rfl (Nat.le_of_ble_eq_true rfl) d_law_1453 ?_
  refine l_ret h d_law_1456 rfl ?_
  exact k C2 N2 (w + 5000) R2 (Nat.le_refl _)
theorem L_41 (h : Lx X G b L xs) (hi : i + 5 ≤ L) (R : Rl C N w) (hw : w ≤ 3000000) (k : ∀ C2 N2 w2, Rl C2 N2 w2 → w2 ≤ w + 5000 → Wt X (C2, N2) 1725 (LVs G b i) []) : Wt X (C, N) 1461 (LVs G b i) [] := by
  obtain ⟨o, C2, N2, e1, e2, R2⟩ := T_forecast R (by omega) (xs (i + 1)) (xs (i + 2)) (xs (i + 3)) (xs (i + 4))
  refine r_aload_n rfl h.1 d_law_1461 rfl 2 rfl ?_
  refine l_arg 1 rfl h hi (by decide) (by decide +kernel) d_law_1462 d_law_1463 d_law_1464 d_law_1465 d_law_1466 ?_
  refine l_arg 2 rfl h hi (by decide) (by decide +kernel) d_law_1467 d_law_1468 d_law_1469 d_law_1470 d_law_1471 ?_
  refine l_arg 3 rfl h hi (by decide) (by decide +kernel) d_law_1472 d_law_1473 d_law_1474 d_law_1475 d_law_1476 ?_
  refine l_arg 4 rfl h hi (by decide) (by decide +kernel) d_law_1477 d_law_1478 d_law_1479 d_law_1480 d_law_1481 ?_
  refine l_callC rfl h.1 h.2.1 mf_rc_forecast k_900 k_901 k_899 (C_rc_forecast e1) ⟨rfl, rfl⟩ (h.rm ⟨Nat.le_of_ble_eq_true rfl, Nat.le_of_ble_eq_true rfl⟩) rfl rfl rv_RC rfl (Nat.le_of_ble_eq_true rfl) d_law_1482 ?_
  refine r_aload_n rfl h.1 d_law_1485 rfl 1 rfl ?_
  refine l_arg 1 rfl h hi (by decide) (by decide +kernel) d_law_1486 d_law_1487 d_law_1488 d_law_1489 d_law_1490 ?_
  refine l_arg 2 rfl h hi (by decide) (by decide +kernel) d_law_1491 d_law_1492 d_law_1493 d_law_1494 d_law_1495 ?_
  refine l_arg 3 rfl h hi (by decide) (by decide +kernel) d_law_1496 d_law_1497 d_law_1498 d_law_1499 d_law_1500 ?_
  refine l_arg 4 rfl h hi (by decide) (by decide +kernel) d_law_1501 d_law_1502 d_law_1503 d_law_1504 d_law_1505 ?_
  refine l_callM rfl h.1 h.2.1 mf_m_forecast k_1442 k_1443 k_1441 (C_m_forecast e2) ⟨rfl, rfl⟩ (h.rm ⟨Nat.le_of_ble_eq_true rfl, Nat.le_of_ble_eq_true rfl⟩) rfl rfl rv_MOD rfl (Nat.le_of_ble_eq_true rfl) d_law_1506 ?_
  refine l_ret h d_law_1509 rfl ?_
  exact k C2 N2 (w + 5000) R2 (Nat.le_refl _)
theorem L_42 (h : Lx X G b L xs) (hi : i + 5 ≤ L) (R : Rl C N w) (hw : w ≤ 3000000) (k : ∀ C2 N2 w2, Rl C2 N2 w2 → w2 ≤ w + 5000 → Wt X (C2, N2) 1725 (LVs G b i) []) : Wt X (C, N) 1514 (LVs G b i) [] := by
  obtain ⟨o, e1, e2⟩ := Q_oracle R (xs (i + 1)) (xs (i + 2))
  refine r_aload_n rfl h.1 d_law_1514 rfl 2 rfl ?_
  refine l_arg 1 rfl h hi (by decide) (by decide +kernel) d_law_1515 d_law_1516 d_law_1517 d_law_1518 d_law_1519 ?_
  refine l_arg 2 rfl h hi (by decide) (by decide +kernel) d_law_1520 d_law_1521 d_law_1522 d_law_1523 d_law_1524 ?_
  refine l_callC rfl h.1 h.2.1 mf_rc_oracle k_905 k_906 k_904 (C_rc_oracle e1) ⟨rfl, rfl⟩ (h.rm ⟨Nat.le_of_ble_eq_true rfl, Nat.le_of_ble_eq_true rfl⟩) rfl rfl rv_RC rfl (Nat.le_of_ble_eq_true rfl) d_law_1525 ?_
  refine r_aload_n rfl h.1 d_law_1528 rfl 1 rfl ?_
  refine l_arg 1 rfl h hi (by decide) (by decide +kernel) d_law_1529 d_law_1530 d_law_1531 d_law_1532 d_law_1533 ?_
  refine l_arg 2 rfl h hi (by decide) (by decide +kernel) d_law_1534 d_law_1535 d_law_1536 d_law_1537 d_law_1538 ?_
  refine l_callM rfl h.1 h.2.1 mf_m_oracle k_1446 k_1447 k_1445 (C_m_oracle e2) ⟨rfl, rfl⟩ (h.rm ⟨Nat.le_of_ble_eq_true rfl, Nat.le_of_ble_eq_true rfl⟩) rfl rfl rv_MOD rfl (Nat.le_of_ble_eq_true rfl) d_law_1539 ?_
  refine l_ret h d_law_1542 rfl ?_
  exact k C N w R (Nat.le_add_right _ _)
theorem L_43 (h : Lx X G b L xs) (hi : i + 5 ≤ L) (R : Rl C N w) (hw : w ≤ 3000000) (k : ∀ C2 N2 w2, Rl C2 N2 w2 → w2 ≤ w + 5000 → Wt X (C2, N2) 1725 (LVs G b i) []) : Wt X (C, N) 1547 (LVs G b i) [] := by
  obtain ⟨o, e1, e2⟩ := Q_events R
  refine r_aload_n rfl h.1 d_law_1547 rfl 2 rfl ?_
  refine l_callC rfl h.1 h.2.1 mf_rc_events k_914 k_915 k_913 (C_rc_events e1) ⟨rfl, rfl⟩ (h.rm ⟨Nat.le_of_ble_eq_true rfl, Nat.le_of_ble_eq_true rfl⟩) rfl rfl rv_RC rfl (Nat.le_of_ble_eq_true rfl) d_law_1548 ?_
  refine r_aload_n rfl h.1 d_law_1551 rfl 1 rfl ?_
  refine l_callM rfl h.1 h.2.1 mf_m_events k_1450 k_1451 k_1449 (C_m_events e2) ⟨rfl, rfl⟩ (h.rm ⟨Nat.le_of_ble_eq_true rfl, Nat.le_of_ble_eq_true rfl⟩) rfl rfl rv_MOD rfl (Nat.le_of_ble_eq_true rfl) d_law_1552 ?_
  refine l_ret h d_law_1555 rfl ?_
  exact k C N w R (Nat.le_add_right _ _)
theorem L_44 (h : Lx X G b L xs) (hi : i + 5 ≤ L) (R : Rl C N w) (hw : w ≤ 3000000) (k : ∀ C2 N2 w2, Rl C2 N2 w2 → w2 ≤ w + 5000 → Wt X (C2, N2) 1725 (LVs G b i) []) : Wt X (C, N) 1560 (LVs G b i) [] := by
  obtain ⟨o, e1, e2⟩ := Q_eventKind R (by omega) (xs (i + 1))
  refine r_aload_n rfl h.1 d_law_1560 rfl 2 rfl ?_
  refine l_arg 1 rfl h hi (by decide) (by decide +kernel) d_law_1561 d_law_1562 d_law_1563 d_law_1564 d_law_1565 ?_
  refine l_callC rfl h.1 h.2.1 mf_rc_eventKind k_918 k_919 k_917 (C_rc_eventKind e1) ⟨rfl, rfl⟩ (h.rm ⟨Nat.le_of_ble_eq_true rfl, Nat.le_of_ble_eq_true rfl⟩) rfl rfl rv_RC rfl (Nat.le_of_ble_eq_true rfl) d_law_1566 ?_
  refine r_aload_n rfl h.1 d_law_1569 rfl 1 rfl ?_
  refine l_arg 1 rfl h hi (by decide) (by decide +kernel) d_law_1570 d_law_1571 d_law_1572 d_law_1573 d_law_1574 ?_
  refine l_callM rfl h.1 h.2.1 mf_m_eventKind k_1454 k_1455 k_1453 (C_m_eventKind e2) ⟨rfl, rfl⟩ (h.rm ⟨Nat.le_of_ble_eq_true rfl, Nat.le_of_ble_eq_true rfl⟩) rfl rfl rv_MOD rfl (Nat.le_of_ble_eq_true rfl) d_law_1575 ?_
  refine l_ret h d_law_1578 rfl ?_
  exact k C N w R (Nat.le_add_right _ _)
theorem L_45 (h : Lx X G b L xs) (hi : i + 5 ≤ L) (R : Rl C N w) (hw : w ≤ 3000000) (k : ∀ C2 N2 w2, Rl C2 N2 w2 → w2 ≤ w + 5000 → Wt X (C2, N2) 1725 (LVs G b i) []) : Wt X (C, N) 1583 (LVs G b i) [] := by
  obtain ⟨o, e1, e2⟩ := Q_eventStation R (by omega) (xs (i + 1))
  refine r_aload_n rfl h.1 d_law_1583 rfl 2 rfl ?_
  refine l_arg 1 rfl h hi (by decide) (by decide +kernel) d_law_1584 d_law_1585 d_law_1586 d_law_1587 d_law_1588 ?_
  refine l_callC rfl h.1 h.2.1 mf_rc_eventStation k_927 k_928 k_926 (C_rc_eventStation e1) ⟨rfl, rfl⟩ (h.rm ⟨Nat.le_of_ble_eq_true rfl, Nat.le_of_ble_eq_true rfl⟩) rfl rfl rv_RC rfl (Nat.le_of_ble_eq_true rfl) d_law_1589 ?_
  refine r_aload_n rfl h.1 d_law_1592 rfl 1 rfl ?_
  refine l_arg 1 rfl h hi (by decide) (by decide +kernel) d_law_1593 d_law_1594 d_law_1595 d_law_1596 d_law_1597 ?_
  refine l_callM rfl h.1 h.2.1 mf_m_eventStation k_1462 k_1463 k_1461 (C_m_eventStation e2) ⟨rfl, rfl⟩ (h.rm ⟨Nat.le_of_ble_eq_true rfl, Nat.le_of_ble_eq_true rfl⟩) rfl rfl rv_MOD rfl (Nat.le_of_ble_eq_true rfl) d_law_1598 ?_
  refine l_ret h d_law_1601 rfl ?_
  exact k C N w R (Nat.le_add_right _ _)
theorem L_46 (h : Lx X G b L xs) (hi : i + 5 ≤ L) (R : Rl C N w) (hw : w ≤ 3000000) (k : ∀ C2 N2 w2, Rl C2 N2 w2 → w2 ≤ w + 5000 → Wt X (C2, N2) 1725 (LVs G b i) []) : Wt X (C, N) 1606 (LVs G b i) [] := by
  obtain ⟨o, e1, e2⟩ := Q_eventRate R (by omega) (xs (i + 1))
  refine r_aload_n rfl h.1 d_law_1606 rfl 2 rfl ?_
  refine l_arg 1 rfl h hi (by decide) (by decide +kernel) d_law_1607 d_law_1608 d_law_1609 d_law_1610 d_law_1611 ?_
  refine l_callC rfl h.1 h.2.1 mf_rc_eventRate k_931 k_932 k_930 (C_rc_eventRate e1) ⟨rfl, rfl⟩ (h.rm ⟨Nat.le_of_ble_eq_true rfl, Nat.le_of_ble_eq_true rfl⟩) rfl rfl rv_RC rfl (Nat.le_of_ble_eq_true rfl) d_law_1612 ?_
  refine r_aload_n rfl h.1 d_law_1615 rfl 1 rfl ?_
  refine l_arg 1 rfl h hi (by decide) (by decide +kernel) d_law_1616 d_law_1617 d_law_1618 d_law_1619 d_law_1620 ?_
  refine l_callM rfl h.1 h.2.1 mf_m_eventRate k_1466 k_1467 k_1465 (C_m_eventRate e2) ⟨rfl, rfl⟩ (h.rm ⟨Nat.le_of_ble_eq_true rfl, Nat.le_of_ble_eq_true rfl⟩) rfl rfl rv_MOD rfl (Nat.le_of_ble_eq_true rfl) d_law_1621 ?_
  refine l_ret h d_law_1624 rfl ?_
  exact k C N w R (Nat.le_add_right _ _)
theorem L_47 (h : Lx X G b L xs) (hi : i + 5 ≤ L) (R : Rl C N w) (hw : w ≤ 3000000) (k : ∀ C2 N2 w2, Rl C2 N2 w2 → w2 ≤ w + 5000 → Wt X (C2, N2) 1725 (LVs G b i) []) : Wt X (C, N) 1629 (LVs G b i) [] := by
  obtain ⟨o, e1, e2⟩ := Q_eventTime R (by omega) (xs (i + 1))
  refine r_aload_n rfl h.1 d_law_1629 rfl 2 rfl ?_
  refine l_arg 1 rfl h hi (by decide) (by decide +kernel) d_law_1630 d_law_1631 d_law_1632 d_law_1633 d_law_1634 ?_
  refine l_callC rfl h.1 h.2.1 mf_rc_eventTime k_935 k_936 k_934 (C_rc_eventTime e1) ⟨rfl, rfl⟩ (h.rm ⟨Nat.le_of_ble_eq_true rfl, Nat.le_of_ble_eq_true rfl⟩) rfl rfl rv_RC rfl (Nat.le_of_ble_eq_true rfl) d_law_1635 ?_
  refine r_aload_n rfl h.1 d_law_1638 rfl 1 rfl ?_
  refine l_arg 1 rfl h hi (by decide) (by decide +kernel) d_law_1639 d_law_1640 d_law_1641 d_law_1642 d_law_1643 ?_
  refine l_callM rfl h.1 h.2.1 mf_m_eventTime k_1470 k_1471 k_1469 (C_m_eventTime e2) ⟨rfl, rfl⟩ (h.rm ⟨Nat.le_of_ble_eq_true rfl, Nat.le_of_ble_eq_true rfl⟩) rfl rfl rv_MOD rfl (Nat.le_of_ble_eq_true rfl) d_law_1644 ?_
  refine l_ret h d_law_1647 rfl ?_
  exact k C N w R (Nat.le_add_right _ _)
theorem L_48 (h : Lx X G b L xs) (hi : i + 5 ≤ L) (R : Rl C N w) (hw : w ≤ 3000000) (k : ∀ C2 N2 w2, Rl C2 N2 w2 → w2 ≤ w + 5000 → Wt X (C2, N2) 1725 (LVs G b i) []) : Wt X (C, N) 1652 (LVs G b i) [] := by
  obtain ⟨o, C2, N2, e1, e2, R2⟩ := T_save R (xs (i + 1))
  refine r_aload_n rfl h.1 d_law_1652 rfl 2 rfl ?_
  refine l_arg 1 rfl h hi (by decide) (by decide +kernel) d_law_1653 d_law_1654 d_law_1655 d_law_1656 d_law_1657 ?_
  refine l_callC rfl h.1 h.2.1 mf_rc_save k_939 k_940 k_938 (C_rc_save e1) ⟨rfl, rfl⟩ (h.rm ⟨Nat.le_of_ble_eq_true rfl, Nat.le_of_ble_eq_true rfl⟩) rfl rfl rv_RC rfl (Nat.le_of_ble_eq_true rfl) d_law_1658 ?_
  refine r_aload_n rfl h.1 d_law_1661 rfl 1 rfl ?_
  refine l_arg 1 rfl h hi (by decide) (by decide +kernel) d_law_1662 d_law_1663 d_law_1664 d_law_1665 d_law_1666 ?_
  refine l_callM rfl h.1 h.2.1 mf_m_save k_1474 k_1475 k_1473 (C_m_save e2) ⟨rfl, rfl⟩ (h.rm ⟨Nat.le_of_ble_eq_true rfl, Nat.le_of_ble_eq_true rfl⟩) rfl rfl rv_MOD rfl (Nat.le_of_ble_eq_true rfl) d_law_1667 ?_
  refine l_ret h d_law_1670 rfl ?_
  exact k C2 N2 (w + 5000) R2 (Nat.le_refl _)
theorem L_49 (h : Lx X G b L xs) (hi : i + 5 ≤ L) (R : Rl C N w) (hw : w ≤ 3000000) (k : ∀ C2 N2 w2, Rl C2 N2 w2 → w2 ≤ w + 5000 → Wt X (C2, N2) 1725 (LVs G b i) []) : Wt X (C, N) 1675 (LVs G b i) [] := by
  obtain ⟨o, C2, N2, e1, e2, R2⟩ := T_restore R (xs (i + 1))
  refine r_aload_n rfl h.1 d_law_1675 rfl 2 rfl ?_
  refine l_arg 1 rfl h hi (by decide) (by decide +kernel) d_law_1676 d_law_1677 d_law_1678 d_law_1679 d_law_1680 ?_
  refine l_callC rfl h.1 h.2.1 mf_rc_restore k_943 k_944 k_942 (C_rc_restore e1) ⟨rfl, rfl⟩ (h.rm ⟨Nat.le_of_ble_eq_true rfl, Nat.le_of_ble_eq_true rfl⟩) rfl rfl rv_RC rfl (Nat.le_of_ble_eq_true rfl) d_law_1681 ?_
  refine r_aload_n rfl h.1 d_law_1684 rfl 1 rfl ?_
  refine l_arg 1 rfl h hi (by decide) (by decide +kernel) d_law_1685 d_law_1686 d_law_1687 d_law_1688 d_law_1689 ?_
  refine l_callM rfl h.1 h.2.1 mf_m_restore k_1478 k_1479 k_1477 (C_m_restore e2) ⟨rfl, rfl⟩ (h.rm ⟨Nat.le_of_ble_eq_true rfl, Nat.le_of_ble_eq_true rfl⟩) rfl rfl rv_MOD rfl (Nat.le_of_ble_eq_true rfl) d_law_1690 ?_
  refine l_ret h d_law_1693 rfl ?_
  exact k C2 N2 (w + 5000) R2 (Nat.le_refl _)
theorem L_50 (h : Lx X G b L xs) (hi : i + 5 ≤ L) (R : Rl C N w) (hw : w ≤ 3000000) (k : ∀ C2 N2 w2, Rl C2 N2 w2 → w2 ≤ w + 5000 → Wt X (C2, N2) 1725 (LVs G b i) []) : Wt X (C, N) 1698 (LVs G b i) [] := by
  obtain ⟨o, C2, N2, e1, e2, R2⟩ := T_undo R
  refine r_aload_n rfl h.1 d_law_1698 rfl 2 rfl ?_
  refine l_callC rfl h.1 h.2.1 mf_rc_undo k_947 k_948 k_946 (C_rc_undo e1) ⟨rfl, rfl⟩ (h.rm ⟨Nat.le_of_ble_eq_true rfl, Nat.le_of_ble_eq_true rfl⟩) rfl rfl rv_RC rfl (Nat.le_of_ble_eq_true rfl) d_law_1699 ?_
  refine r_aload_n rfl h.1 d_law_1702 rfl 1 rfl ?_
  refine l_callM rfl h.1 h.2.1 mf_m_undo k_1482 k_1483 k_1481 (C_m_undo e2) ⟨rfl, rfl⟩ (h.rm ⟨Nat.le_of_ble_eq_true rfl, Nat.le_of_ble_eq_true rfl⟩) rfl rfl rv_MOD rfl (Nat.le_of_ble_eq_true rfl) d_law_1703 ?_
  refine l_ret h d_law_1706 rfl ?_
  exact k C2 N2 (w + 5000) R2 (Nat.le_refl _)
theorem L_51 (h : Lx X G b L xs) (hi : i + 5 ≤ L) (R : Rl C N w) (hw : w ≤ 3000000) (k : ∀ C2 N2 w2, Rl C2 N2 w2 → w2 ≤ w + 5000 → Wt X (C2, N2) 1725 (LVs G b i) []) : Wt X (C, N) 1711 (LVs G b i) [] := by
  obtain ⟨o, e1, e2⟩ := Q_digest R
  refine r_aload_n rfl h.1 d_law_1711 rfl 2 rfl ?_
  refine l_callC rfl h.1 h.2.1 mf_rc_digest k_956 k_957 k_955 (C_rc_digest e1) ⟨rfl, rfl⟩ (h.rm ⟨Nat.le_of_ble_eq_true rfl, Nat.le_of_ble_eq_true rfl⟩) rfl rfl rv_RC rfl (Nat.le_of_ble_eq_true rfl) d_law_1712 ?_
  refine r_aload_n rfl h.1 d_law_1715 rfl 1 rfl ?_
  refine l_callM rfl h.1 h.2.1 mf_m_digest k_1486 k_1487 k_1485 (C_m_digest e2) ⟨rfl, rfl⟩ (h.rm ⟨Nat.le_of_ble_eq_true rfl, Nat.le_of_ble_eq_true rfl⟩) rfl rfl rv_MOD rfl (Nat.le_of_ble_eq_true rfl) d_law_1716 ?_
  refine r_lcmp rfl h.1 d_law_1719 ?_
  refine r_if_eq rfl h.1 d_law_1720 rfl (fun _ => ?_) (fun hc => absurd (lg_self _) hc)
  exact k C N w R (Nat.le_add_right _ _)
end LC
