/-! THE WRAPPERS -/
set_option maxRecDepth 100000
theorem cn_11 : pm_cnm 11 = some RX11 := by decide +kernel
theorem cn_12 : pm_cnm 12 = some RX12 := by decide +kernel
theorem iv_L_7 : pm_iv RL 7 yX11_appendText 1 := pt_iv_ok 951 952 953 (by decide +kernel)
theorem iv_L_15 : pm_iv RL 15 yX11_truncateText 1 := pt_iv_ok 1030 1031 1032 (by decide +kernel)
theorem iv_L_20 : pm_iv RL 20 yX11_addNode 1 := pt_iv_ok 1054 1055 1056 (by decide +kernel)
theorem iv_L_23 : pm_iv RL 23 yX11_addLink 4 := pt_iv_ok 1065 1066 1067 (by decide +kernel)
theorem iv_L_29 : pm_iv RL 29 yX11_setUp 2 := pt_iv_ok 1098 1099 1100 (by decide +kernel)
theorem iv_L_33 : pm_iv RL 33 yX11_set 2 := pt_iv_ok 1129 1130 1131 (by decide +kernel)
theorem iv_L_37 : pm_iv RL 37 yX11_count 1 := pt_iv_ok 1139 1140 1141 (by decide +kernel)
theorem iv_L_40 : pm_iv RL 40 yX11_node 2 := pt_iv_ok 1161 1162 1163 (by decide +kernel)
theorem iv_L_43 : pm_iv RL 43 yX11_label 3 := pt_iv_ok 1181 1182 1183 (by decide +kernel)
theorem iv_L_47 : pm_iv RL 47 yX11_link 2 := pt_iv_ok 1210 1211 1212 (by decide +kernel)
theorem iv_L_50 : pm_iv RL 50 yX11_draft 1 := pt_iv_ok 1222 1223 1224 (by decide +kernel)
theorem iv_L_53 : pm_iv RL 53 yX11_draftBest 3 := pt_iv_ok 1234 1235 1236 (by decide +kernel)
theorem iv_L_56 : pm_iv RL 56 yX11_draftNode 1 := pt_iv_ok 1245 1246 1247 (by decide +kernel)
theorem iv_L_59 : pm_iv RL 59 yX11_open 2 := pt_iv_ok 1257 1258 1259 (by decide +kernel)
theorem iv_L_62 : pm_iv RL 62 yX11_close 1 := pt_iv_ok 1293 1294 1295 (by decide +kernel)
theorem iv_L_65 : pm_iv RL 65 yX11_move 1 := pt_iv_ok 1318 1319 1320 (by decide +kernel)
theorem iv_L_68 : pm_iv RL 68 yX11_moveBest 2 := pt_iv_ok 1340 1341 1342 (by decide +kernel)
theorem iv_L_71 : pm_iv RL 71 yX11_abort 1 := pt_iv_ok 1355 1356 1357 (by decide +kernel)
theorem iv_L_74 : pm_iv RL 74 yX11_offer 2 := pt_iv_ok 1366 1367 1368 (by decide +kernel)
theorem iv_L_77 : pm_iv RL 77 yX11_run 1 := pt_iv_ok 1379 1380 1381 (by decide +kernel)
theorem iv_L_80 : pm_iv RL 80 yX11_circuit 2 := pt_iv_ok 1463 1464 1465 (by decide +kernel)
theorem iv_L_83 : pm_iv RL 83 yX11_way 4 := pt_iv_ok 1473 1474 1475 (by decide +kernel)
theorem iv_L_87 : pm_iv RL 87 yX11_packet 2 := pt_iv_ok 1487 1488 1489 (by decide +kernel)
theorem iv_L_90 : pm_iv RL 90 yX11_meanDelay 1 := pt_iv_ok 1495 1496 1497 (by decide +kernel)
theorem iv_L_94 : pm_iv RL 94 yX11_canMove 2 := pt_iv_ok 1503 1504 1505 (by decide +kernel)
theorem iv_L_97 : pm_iv RL 97 yX11_movedIn 1 := pt_iv_ok 1547 1548 1549 (by decide +kernel)
theorem iv_L_100 : pm_iv RL 100 yX11_ahead 2 := pt_iv_ok 1558 1559 1560 (by decide +kernel)
theorem iv_L_103 : pm_iv RL 103 yX11_save 1 := pt_iv_ok 1568 1569 1570 (by decide +kernel)
theorem iv_L_107 : pm_iv RL 107 yX11_restore 1 := pt_iv_ok 1579 1580 1581 (by decide +kernel)
theorem is_L_114 : pm_is RL 114 yL_appendText 3 ∧ Cond.methodLink RL 114 yL_appendText ∈ pm_W := pt_is_ok 947 948 (by decide +kernel)
theorem iv_L_119 : pm_iv RL 119 yX12_appendText 1 := pt_iv_ok 1686 1687 1688 (by decide +kernel)
theorem iv_L_120 : pm_iv RL 120 yX12_thrown 0 := pt_iv_ok 1682 1683 1684 (by decide +kernel)
theorem is_L_124 : pm_is RL 124 yL_truncateText 3 ∧ Cond.methodLink RL 124 yL_truncateText ∈ pm_W := pt_is_ok 1026 1027 (by decide +kernel)
theorem iv_L_126 : pm_iv RL 126 yX12_truncateText 1 := pt_iv_ok 1694 1695 1696 (by decide +kernel)
theorem iv_L_127 : pm_iv RL 127 yX11_load 0 := pt_iv_ok 594 595 596 (by decide +kernel)
theorem iv_L_130 : pm_iv RL 130 yX12_load 0 := pt_iv_ok 1701 1702 1703 (by decide +kernel)
theorem iv_L_131 : pm_iv RL 131 yX11_errorCode 0 := pt_iv_ok 864 865 866 (by decide +kernel)
theorem iv_L_134 : pm_iv RL 134 yX12_errorCode 0 := pt_iv_ok 1854 1855 1856 (by decide +kernel)
theorem iv_L_135 : pm_iv RL 135 yX11_errorPosition 0 := pt_iv_ok 868 869 870 (by decide +kernel)
theorem iv_L_138 : pm_iv RL 138 yX12_errorPosition 0 := pt_iv_ok 1858 1859 1860 (by decide +kernel)
theorem is_L_139 : pm_is RL 139 yL_addNode 3 ∧ Cond.methodLink RL 139 yL_addNode ∈ pm_W := pt_is_ok 1051 1052 (by decide +kernel)
theorem iv_L_141 : pm_iv RL 141 yX12_addNode 1 := pt_iv_ok 1862 1863 1864 (by decide +kernel)
theorem is_L_142 : pm_is RL 142 yL_addLink 6 ∧ Cond.methodLink RL 142 yL_addLink ∈ pm_W := pt_is_ok 1061 1062 (by decide +kernel)
theorem iv_L_145 : pm_iv RL 145 yX12_addLink 4 := pt_iv_ok 1866 1867 1868 (by decide +kernel)
theorem is_L_146 : pm_is RL 146 yL_setUp 4 ∧ Cond.methodLink RL 146 yL_setUp ∈ pm_W := pt_is_ok 1095 1096 (by decide +kernel)
theorem iv_L_149 : pm_iv RL 149 yX12_setUp 2 := pt_iv_ok 1874 1875 1876 (by decide +kernel)
theorem is_L_150 : pm_is RL 150 yL_set 4 ∧ Cond.methodLink RL 150 yL_set ∈ pm_W := pt_is_ok 1126 1127 (by decide +kernel)
theorem iv_L_153 : pm_iv RL 153 yX12_set 2 := pt_iv_ok 1898 1899 1900 (by decide +kernel)
theorem is_L_154 : pm_is RL 154 yL_count 3 ∧ Cond.methodLink RL 154 yL_count ∈ pm_W := pt_is_ok 1136 1137 (by decide +kernel)
theorem iv_L_156 : pm_iv RL 156 yX12_count 1 := pt_iv_ok 1902 1903 1904 (by decide +kernel)
theorem is_L_157 : pm_is RL 157 yL_node 4 ∧ Cond.methodLink RL 157 yL_node ∈ pm_W := pt_is_ok 1158 1159 (by decide +kernel)
theorem iv_L_159 : pm_iv RL 159 yX12_node 2 := pt_iv_ok 1914 1915 1916 (by decide +kernel)
theorem is_L_160 : pm_is RL 160 yL_label 5 ∧ Cond.methodLink RL 160 yL_label ∈ pm_W := pt_is_ok 1178 1179 (by decide +kernel)
theorem iv_L_163 : pm_iv RL 163 yX12_label 3 := pt_iv_ok 1922 1923 1924 (by decide +kernel)
theorem is_L_164 : pm_is RL 164 yL_link 4 ∧ Cond.methodLink RL 164 yL_link ∈ pm_W := pt_is_ok 1207 1208 (by decide +kernel)
theorem iv_L_166 : pm_iv RL 166 yX12_link 2 := pt_iv_ok 1926 1927 1928 (by decide +kernel)
theorem is_L_167 : pm_is RL 167 yL_draft 3 ∧ Cond.methodLink RL 167 yL_draft ∈ pm_W := pt_is_ok 1219 1220 (by decide +kernel)
theorem iv_L_169 : pm_iv RL 169 yX12_draft 1 := pt_iv_ok 1934 1935 1936 (by decide +kernel)
theorem iv_L_170 : pm_iv RL 170 yX11_clearDraft 0 := pt_iv_ok 872 873 874 (by decide +kernel)
theorem iv_L_173 : pm_iv RL 173 yX12_clearDraft 0 := pt_iv_ok 1942 1943 1944 (by decide +kernel)
theorem is_L_174 : pm_is RL 174 yL_draftBest 5 ∧ Cond.methodLink RL 174 yL_draftBest ∈ pm_W := pt_is_ok 1231 1232 (by decide +kernel)
theorem iv_L_176 : pm_iv RL 176 yX12_draftBest 3 := pt_iv_ok 1946 1947 1948 (by decide +kernel)
theorem is_L_177 : pm_is RL 177 yL_draftNode 3 ∧ Cond.methodLink RL 177 yL_draftNode ∈ pm_W := pt_is_ok 1242 1243 (by decide +kernel)
theorem iv_L_179 : pm_iv RL 179 yX12_draftNode 1 := pt_iv_ok 1974 1975 1976 (by decide +kernel)
theorem is_L_180 : pm_is RL 180 yL_open 4 ∧ Cond.methodLink RL 180 yL_open ∈ pm_W := pt_is_ok 1254 1255 (by decide +kernel)
theorem iv_L_182 : pm_iv RL 182 yX12_open 2 := pt_iv_ok 1978 1979 1980 (by decide +kernel)
theorem is_L_183 : pm_is RL 183 yL_close 3 ∧ Cond.methodLink RL 183 yL_close ∈ pm_W := pt_is_ok 1290 1291 (by decide +kernel)
theorem iv_L_185 : pm_iv RL 185 yX12_close 1 := pt_iv_ok 1990 1991 1992 (by decide +kernel)
theorem is_L_186 : pm_is RL 186 yL_move 3 ∧ Cond.methodLink RL 186 yL_move ∈ pm_W := pt_is_ok 1315 1316 (by decide +kernel)
theorem iv_L_188 : pm_iv RL 188 yX12_move 1 := pt_iv_ok 2002 2003 2004 (by decide +kernel)
theorem is_L_189 : pm_is RL 189 yL_moveBest 4 ∧ Cond.methodLink RL 189 yL_moveBest ∈ pm_W := pt_is_ok 1337 1338 (by decide +kernel)
theorem iv_L_191 : pm_iv RL 191 yX12_moveBest 2 := pt_iv_ok 2022 2023 2024 (by decide +kernel)
theorem is_L_192 : pm_is RL 192 yL_abort 3 ∧ Cond.methodLink RL 192 yL_abort ∈ pm_W := pt_is_ok 1352 1353 (by decide +kernel)
theorem iv_L_194 : pm_iv RL 194 yX12_abort 1 := pt_iv_ok 2030 2031 2032 (by decide +kernel)
theorem is_L_195 : pm_is RL 195 yL_offer 4 ∧ Cond.methodLink RL 195 yL_offer ∈ pm_W := pt_is_ok 1363 1364 (by decide +kernel)
theorem iv_L_197 : pm_iv RL 197 yX12_offer 2 := pt_iv_ok 2034 2035 2036 (by decide +kernel)
theorem is_L_198 : pm_is RL 198 yL_run 3 ∧ Cond.methodLink RL 198 yL_run ∈ pm_W := pt_is_ok 1376 1377 (by decide +kernel)
theorem iv_L_200 : pm_iv RL 200 yX12_run 1 := pt_iv_ok 2044 2045 2046 (by decide +kernel)
theorem is_L_201 : pm_is RL 201 yL_circuit 4 ∧ Cond.methodLink RL 201 yL_circuit ∈ pm_W := pt_is_ok 1460 1461 (by decide +kernel)
theorem iv_L_203 : pm_iv RL 203 yX12_circuit 2 := pt_iv_ok 2108 2109 2110 (by decide +kernel)
theorem is_L_204 : pm_is RL 204 yL_way 6 ∧ Cond.methodLink RL 204 yL_way ∈ pm_W := pt_is_ok 1470 1471 (by decide +kernel)
theorem iv_L_207 : pm_iv RL 207 yX12_way 4 := pt_iv_ok 2112 2113 2114 (by decide +kernel)
theorem is_L_208 : pm_is RL 208 yL_packet 4 ∧ Cond.methodLink RL 208 yL_packet ∈ pm_W := pt_is_ok 1484 1485 (by decide +kernel)
theorem iv_L_210 : pm_iv RL 210 yX12_packet 2 := pt_iv_ok 2116 2117 2118 (by decide +kernel)
theorem is_L_211 : pm_is RL 211 yL_meanDelay 3 ∧ Cond.methodLink RL 211 yL_meanDelay ∈ pm_W := pt_is_ok 1492 1493 (by decide +kernel)
theorem iv_L_214 : pm_iv RL 214 yX12_meanDelay 1 := pt_iv_ok 2120 2121 2122 (by decide +kernel)
theorem iv_L_215 : pm_iv RL 215 yX11_usage 0 := pt_iv_ok 876 877 878 (by decide +kernel)
theorem iv_L_219 : pm_iv RL 219 yX12_usage 0 := pt_iv_ok 2125 2126 2127 (by decide +kernel)
theorem is_L_220 : pm_is RL 220 yL_canMove 4 ∧ Cond.methodLink RL 220 yL_canMove ∈ pm_W := pt_is_ok 1500 1501 (by decide +kernel)
theorem iv_L_222 : pm_iv RL 222 yX12_canMove 2 := pt_iv_ok 2129 2130 2131 (by decide +kernel)
theorem is_L_223 : pm_is RL 223 yL_movedIn 3 ∧ Cond.methodLink RL 223 yL_movedIn ∈ pm_W := pt_is_ok 1544 1545 (by decide +kernel)
theorem iv_L_225 : pm_iv RL 225 yX12_movedIn 1 := pt_iv_ok 2133 2134 2135 (by decide +kernel)
theorem is_L_226 : pm_is RL 226 yL_ahead 4 ∧ Cond.methodLink RL 226 yL_ahead ∈ pm_W := pt_is_ok 1555 1556 (by decide +kernel)
theorem iv_L_228 : pm_iv RL 228 yX12_ahead 2 := pt_iv_ok 2137 2138 2139 (by decide +kernel)
theorem iv_L_229 : pm_iv RL 229 yX11_weakLink 0 := pt_iv_ok 888 889 890 (by decide +kernel)
theorem iv_L_232 : pm_iv RL 232 yX12_weakLink 0 := pt_iv_ok 2141 2142 2143 (by decide +kernel)
theorem is_L_233 : pm_is RL 233 yL_save 2 ∧ Cond.methodLink RL 233 yL_save ∈ pm_W := pt_is_ok 1565 1566 (by decide +kernel)
theorem iv_L_236 : pm_iv RL 236 yX12_save 1 := pt_iv_ok 2149 2150 2151 (by decide +kernel)
theorem is_L_237 : pm_is RL 237 yL_restore 2 ∧ Cond.methodLink RL 237 yL_restore ∈ pm_W := pt_is_ok 1576 1577 (by decide +kernel)
theorem iv_L_239 : pm_iv RL 239 yX12_restore 1 := pt_iv_ok 2153 2154 2155 (by decide +kernel)
theorem dL_appendText_0 : decode cL_appendText 0 = .ok (.aload_n 2, 1) := by decide +kernel
theorem dL_appendText_1 : decode cL_appendText 1 = .ok (.iconst 0, 1) := by decide +kernel
theorem dL_appendText_2 : decode cL_appendText 2 = .ok (.aload_n 0, 1) := by decide +kernel
theorem dL_appendText_3 : decode cL_appendText 3 = .ok (.iload_n 1, 1) := by decide +kernel
theorem dL_appendText_4 : decode cL_appendText 4 = .ok (.invokevirtual 7, 3) := by decide +kernel
theorem dL_appendText_7 : decode cL_appendText 7 = .ok (.i2l, 1) := by decide +kernel
theorem dL_appendText_8 : decode cL_appendText 8 = .ok (.lastore, 1) := by decide +kernel
theorem dL_appendText_9 : decode cL_appendText 9 = .ok (.goto 6, 3) := by decide +kernel
theorem dL_appendText_12 : decode cL_appendText 12 = .ok (.astore_n 3, 1) := by decide +kernel
theorem dL_appendText_13 : decode cL_appendText 13 = .ok (.iconst 1, 1) := by decide +kernel
theorem dL_appendText_14 : decode cL_appendText 14 = .ok (.ireturn, 1) := by decide +kernel
theorem dL_appendText_15 : decode cL_appendText 15 = .ok (.iconst 0, 1) := by decide +kernel
theorem dL_appendText_16 : decode cL_appendText 16 = .ok (.ireturn, 1) := by decide +kernel
theorem mh_L_appendText : pm_mh yL_appendText cL_appendText 4 (some .int) [(0, 9, 12, 13)] := pt_h_ok 949 115 (by decide +kernel)
theorem pL_appendText {G : pm_G} {cal : pm_Cal} {KR : pm_E} {ini : Bool} {S : pm_S} {x o : Nat} {v1 : Int32} (k : xw G cal RL ini cL_appendText (some .int) [(0, 9, 12, 13)] KR 4 (pm_ent [.ref x, .int v1, .ref o] 4) [.int v1, .ref x, .int (Int32.ofInt 0), .ref o] S) : xw G cal RL ini cL_appendText (some .int) [(0, 9, 12, 13)] KR 0 (pm_ent [.ref x, .int v1, .ref o] 4) [] S :=
  xw_fn 1 dL_appendText_0 rfl rfl (xw_fn 2 dL_appendText_1 rfl rfl (xw_fn 3 dL_appendText_2 rfl rfl (xw_fn 4 dL_appendText_3 rfl rfl (k))))
theorem wL_appendText_n {G : pm_G} {D : Nat} {X M M1 : pm_M} {z z1 : Option Nat × Nat × Nat} {x o : Nat} {v1 : Int32} {r : Int32} {n9 : Nat} {f9 : Nat → Value} (hx : M x = some (.inl 11, n9, f9)) {F : Nat → Value} (ho : X o = some (.inr (.long, true), 1, F)) (hM1 : M1 o = none) (hr : pm_run G D false yX11_appendText [.ref x, .int v1] (M, z) (.inl (some (.int r))) (M1, z1)) : pm_ruh G D yL_appendText [.ref x, .int v1, .ref o] (exS X (M, z)) (some (.int 0)) (exS (pm_up X o (some (.inr (.long, true), 1, pm_up F (Int32.ofInt 0).toNatClampNeg (.long r.toInt64)))) (M1, z1)) := by
  refine xw_ruh mh_L_appendText rfl rfl (pL_appendText (xw_cv (As := [.int v1]) 7 dL_appendText_4 rfl iv_L_7 rfl (Nat.le_of_ble_eq_true rfl) (ex_at hx) cn_11 (ex_run _ _ _ _ _ _ _ hr) ?_))
  refine xw_fn 8 dL_appendText_7 rfl rfl (xw_last 9 dL_appendText_8 rfl ((ex_none hM1).trans ho) in_0 ?_)
  exact xw_goto 15 dL_appendText_9 rfl (xw_fn 16 dL_appendText_15 rfl rfl (xw_iret dL_appendText_16 rfl rfl ⟨rfl, ex_put hM1⟩))
theorem wL_appendText_x {G : pm_G} {D : Nat} {X M M1 : pm_M} {z z1 : Option Nat × Nat × Nat} {x o : Nat} {v1 : Int32} {k : Nat} {e : String} {n9 : Nat} {f9 : Nat → Value} (hx : M x = some (.inl 11, n9, f9)) (hk : ([pm_xI] : List String)[k]? = some e) (hr : pm_run G D false yX11_appendText [.ref x, .int v1] (M, z) (.inr e) (M1, z1)) : pm_ruh G D yL_appendText [.ref x, .int v1, .ref o] (exS X (M, z)) (some (.int (nn (k + 1)))) (exS X (M1, z1)) := by
  match k, hk with
  | 0, hk =>
    cases hk
    exact xw_ruh mh_L_appendText rfl rfl (pL_appendText (xw_cx (r9 := .inl (some (.int (nn 1)))) (As := [.int v1]) dL_appendText_4 iv_L_7 rfl (Nat.le_of_ble_eq_true rfl) (ex_at hx) cn_11 (ex_run _ _ _ _ _ _ _ hr) (fun KR' hK => Or.inr ⟨[], [], (0, 9, 12, 13), pm_xI, 1, rfl, (fun q hq => by cases hq), by decide, by decide, lk_13, cb_13, by decide, Or.inl ⟨3, Nat.le_of_ble_eq_true rfl, dL_appendText_12, dL_appendText_13, dL_appendText_14⟩, ⟨_, .int, rfl, rfl, rfl, hK⟩⟩) ⟨rfl, rfl⟩))
  | k + 1, hk => simp at hk
theorem dL_truncateText_0 : decode cL_truncateText 0 = .ok (.aload_n 2, 1) := by decide +kernel
theorem dL_truncateText_1 : decode cL_truncateText 1 = .ok (.iconst 0, 1) := by decide +kernel
theorem dL_truncateText_2 : decode cL_truncateText 2 = .ok (.aload_n 0, 1) := by decide +kernel
theorem dL_truncateText_3 : decode cL_truncateText 3 = .ok (.iload_n 1, 1) := by decide +kernel
theorem dL_truncateText_4 : decode cL_truncateText 4 = .ok (.invokevirtual 15, 3) := by decide +kernel
theorem dL_truncateText_7 : decode cL_truncateText 7 = .ok (.i2l, 1) := by decide +kernel
theorem dL_truncateText_8 : decode cL_truncateText 8 = .ok (.lastore, 1) := by decide +kernel
theorem dL_truncateText_9 : decode cL_truncateText 9 = .ok (.goto 6, 3) := by decide +kernel
theorem dL_truncateText_12 : decode cL_truncateText 12 = .ok (.astore_n 3, 1) := by decide +kernel
theorem dL_truncateText_13 : decode cL_truncateText 13 = .ok (.iconst 1, 1) := by decide +kernel
theorem dL_truncateText_14 : decode cL_truncateText 14 = .ok (.ireturn, 1) := by decide +kernel
theorem dL_truncateText_15 : decode cL_truncateText 15 = .ok (.iconst 0, 1) := by decide +kernel
theorem dL_truncateText_16 : decode cL_truncateText 16 = .ok (.ireturn, 1) := by decide +kernel
theorem mh_L_truncateText : pm_mh yL_truncateText cL_truncateText 4 (some .int) [(0, 9, 12, 18)] := pt_h_ok 1028 115 (by decide +kernel)
theorem pL_truncateText {G : pm_G} {cal : pm_Cal} {KR : pm_E} {ini : Bool} {S : pm_S} {x o : Nat} {v1 : Int32} (k : xw G cal RL ini cL_truncateText (some .int) [(0, 9, 12, 18)] KR 4 (pm_ent [.ref x, .int v1, .ref o] 4) [.int v1, .ref x, .int (Int32.ofInt 0), .ref o] S) : xw G cal RL ini cL_truncateText (some .int) [(0, 9, 12, 18)] KR 0 (pm_ent [.ref x, .int v1, .ref o] 4) [] S :=
  xw_fn 1 dL_truncateText_0 rfl rfl (xw_fn 2 dL_truncateText_1 rfl rfl (xw_fn 3 dL_truncateText_2 rfl rfl (xw_fn 4 dL_truncateText_3 rfl rfl (k))))
theorem wL_truncateText_n {G : pm_G} {D : Nat} {X M M1 : pm_M} {z z1 : Option Nat × Nat × Nat} {x o : Nat} {v1 : Int32} {r : Int32} {n9 : Nat} {f9 : Nat → Value} (hx : M x = some (.inl 11, n9, f9)) {F : Nat → Value} (ho : X o = some (.inr (.long, true), 1, F)) (hM1 : M1 o = none) (hr : pm_run G D false yX11_truncateText [.ref x, .int v1] (M, z) (.inl (some (.int r))) (M1, z1)) : pm_ruh G D yL_truncateText [.ref x, .int v1, .ref o] (exS X (M, z)) (some (.int 0)) (exS (pm_up X o (some (.inr (.long, true), 1, pm_up F (Int32.ofInt 0).toNatClampNeg (.long r.toInt64)))) (M1, z1)) := by
  refine xw_ruh mh_L_truncateText rfl rfl (pL_truncateText (xw_cv (As := [.int v1]) 7 dL_truncateText_4 rfl iv_L_15 rfl (Nat.le_of_ble_eq_true rfl) (ex_at hx) cn_11 (ex_run _ _ _ _ _ _ _ hr) ?_))
  refine xw_fn 8 dL_truncateText_7 rfl rfl (xw_last 9 dL_truncateText_8 rfl ((ex_none hM1).trans ho) in_0 ?_)
  exact xw_goto 15 dL_truncateText_9 rfl (xw_fn 16 dL_truncateText_15 rfl rfl (xw_iret dL_truncateText_16 rfl rfl ⟨rfl, ex_put hM1⟩))
theorem wL_truncateText_x {G : pm_G} {D : Nat} {X M M1 : pm_M} {z z1 : Option Nat × Nat × Nat} {x o : Nat} {v1 : Int32} {k : Nat} {e : String} {n9 : Nat} {f9 : Nat → Value} (hx : M x = some (.inl 11, n9, f9)) (hk : ([pm_xA] : List String)[k]? = some e) (hr : pm_run G D false yX11_truncateText [.ref x, .int v1] (M, z) (.inr e) (M1, z1)) : pm_ruh G D yL_truncateText [.ref x, .int v1, .ref o] (exS X (M, z)) (some (.int (nn (k + 1)))) (exS X (M1, z1)) := by
  match k, hk with
  | 0, hk =>
    cases hk
    exact xw_ruh mh_L_truncateText rfl rfl (pL_truncateText (xw_cx (r9 := .inl (some (.int (nn 1)))) (As := [.int v1]) dL_truncateText_4 iv_L_15 rfl (Nat.le_of_ble_eq_true rfl) (ex_at hx) cn_11 (ex_run _ _ _ _ _ _ _ hr) (fun KR' hK => Or.inr ⟨[], [], (0, 9, 12, 18), pm_xA, 1, rfl, (fun q hq => by cases hq), by decide, by decide, lk_18, cb_18, by decide, Or.inl ⟨3, Nat.le_of_ble_eq_true rfl, dL_truncateText_12, dL_truncateText_13, dL_truncateText_14⟩, ⟨_, .int, rfl, rfl, rfl, hK⟩⟩) ⟨rfl, rfl⟩))
  | k + 1, hk => simp at hk
theorem dL_addNode_0 : decode cL_addNode 0 = .ok (.aload_n 2, 1) := by decide +kernel
theorem dL_addNode_1 : decode cL_addNode 1 = .ok (.iconst 0, 1) := by decide +kernel
theorem dL_addNode_2 : decode cL_addNode 2 = .ok (.aload_n 0, 1) := by decide +kernel
theorem dL_addNode_3 : decode cL_addNode 3 = .ok (.iload_n 1, 1) := by decide +kernel
theorem dL_addNode_4 : decode cL_addNode 4 = .ok (.invokevirtual 20, 3) := by decide +kernel
theorem dL_addNode_7 : decode cL_addNode 7 = .ok (.i2l, 1) := by decide +kernel
theorem dL_addNode_8 : decode cL_addNode 8 = .ok (.lastore, 1) := by decide +kernel
theorem dL_addNode_9 : decode cL_addNode 9 = .ok (.goto 9, 3) := by decide +kernel
theorem dL_addNode_12 : decode cL_addNode 12 = .ok (.astore_n 3, 1) := by decide +kernel
theorem dL_addNode_13 : decode cL_addNode 13 = .ok (.iconst 1, 1) := by decide +kernel
theorem dL_addNode_14 : decode cL_addNode 14 = .ok (.ireturn, 1) := by decide +kernel
theorem dL_addNode_15 : decode cL_addNode 15 = .ok (.astore_n 3, 1) := by decide +kernel
theorem dL_addNode_16 : decode cL_addNode 16 = .ok (.iconst 2, 1) := by decide +kernel
theorem dL_addNode_17 : decode cL_addNode 17 = .ok (.ireturn, 1) := by decide +kernel
theorem dL_addNode_18 : decode cL_addNode 18 = .ok (.iconst 0, 1) := by decide +kernel
theorem dL_addNode_19 : decode cL_addNode 19 = .ok (.ireturn, 1) := by decide +kernel
theorem mh_L_addNode : pm_mh yL_addNode cL_addNode 4 (some .int) [(0, 9, 12, 18), (0, 9, 15, 13)] := pt_h_ok 1053 115 (by decide +kernel)
theorem pL_addNode {G : pm_G} {cal : pm_Cal} {KR : pm_E} {ini : Bool} {S : pm_S} {x o : Nat} {v1 : Int32} (k : xw G cal RL ini cL_addNode (some .int) [(0, 9, 12, 18), (0, 9, 15, 13)] KR 4 (pm_ent [.ref x, .int v1, .ref o] 4) [.int v1, .ref x, .int (Int32.ofInt 0), .ref o] S) : xw G cal RL ini cL_addNode (some .int) [(0, 9, 12, 18), (0, 9, 15, 13)] KR 0 (pm_ent [.ref x, .int v1, .ref o] 4) [] S :=
  xw_fn 1 dL_addNode_0 rfl rfl (xw_fn 2 dL_addNode_1 rfl rfl (xw_fn 3 dL_addNode_2 rfl rfl (xw_fn 4 dL_addNode_3 rfl rfl (k))))
theorem wL_addNode_n {G : pm_G} {D : Nat} {X M M1 : pm_M} {z z1 : Option Nat × Nat × Nat} {x o : Nat} {v1 : Int32} {r : Int32} {n9 : Nat} {f9 : Nat → Value} (hx : M x = some (.inl 11, n9, f9)) {F : Nat → Value} (ho : X o = some (.inr (.long, true), 1, F)) (hM1 : M1 o = none) (hr : pm_run G D false yX11_addNode [.ref x, .int v1] (M, z) (.inl (some (.int r))) (M1, z1)) : pm_ruh G D yL_addNode [.ref x, .int v1, .ref o] (exS X (M, z)) (some (.int 0)) (exS (pm_up X o (some (.inr (.long, true), 1, pm_up F (Int32.ofInt 0).toNatClampNeg (.long r.toInt64)))) (M1, z1)) := by
  refine xw_ruh mh_L_addNode rfl rfl (pL_addNode (xw_cv (As := [.int v1]) 7 dL_addNode_4 rfl iv_L_20 rfl (Nat.le_of_ble_eq_true rfl) (ex_at hx) cn_11 (ex_run _ _ _ _ _ _ _ hr) ?_))
  refine xw_fn 8 dL_addNode_7 rfl rfl (xw_last 9 dL_addNode_8 rfl ((ex_none hM1).trans ho) in_0 ?_)
  exact xw_goto 18 dL_addNode_9 rfl (xw_fn 19 dL_addNode_18 rfl rfl (xw_iret dL_addNode_19 rfl rfl ⟨rfl, ex_put hM1⟩))
theorem wL_addNode_x {G : pm_G} {D : Nat} {X M M1 : pm_M} {z z1 : Option Nat × Nat × Nat} {x o : Nat} {v1 : Int32} {k : Nat} {e : String} {n9 : Nat} {f9 : Nat → Value} (hx : M x = some (.inl 11, n9, f9)) (hk : ([pm_xA, pm_xI] : List String)[k]? = some e) (hr : pm_run G D false yX11_addNode [.ref x, .int v1] (M, z) (.inr e) (M1, z1)) : pm_ruh G D yL_addNode [.ref x, .int v1, .ref o] (exS X (M, z)) (some (.int (nn (k + 1)))) (exS X (M1, z1)) := by
  match k, hk with
  | 0, hk =>
    cases hk
    exact xw_ruh mh_L_addNode rfl rfl (pL_addNode (xw_cx (r9 := .inl (some (.int (nn 1)))) (As := [.int v1]) dL_addNode_4 iv_L_20 rfl (Nat.le_of_ble_eq_true rfl) (ex_at hx) cn_11 (ex_run _ _ _ _ _ _ _ hr) (fun KR' hK => Or.inr ⟨[], [(0, 9, 15, 13)], (0, 9, 12, 18), pm_xA, 1, rfl, (fun q hq => by cases hq), by decide, by decide, lk_18, cb_18, by decide, Or.inl ⟨3, Nat.le_of_ble_eq_true rfl, dL_addNode_12, dL_addNode_13, dL_addNode_14⟩, ⟨_, .int, rfl, rfl, rfl, hK⟩⟩) ⟨rfl, rfl⟩))
  | 1, hk =>
    cases hk
    exact xw_ruh mh_L_addNode rfl rfl (pL_addNode (xw_cx (r9 := .inl (some (.int (nn 2)))) (As := [.int v1]) dL_addNode_4 iv_L_20 rfl (Nat.le_of_ble_eq_true rfl) (ex_at hx) cn_11 (ex_run _ _ _ _ _ _ _ hr) (fun KR' hK => Or.inr ⟨[(0, 9, 12, 18)], [], (0, 9, 15, 13), pm_xI, 2, rfl, (fun q hq => by rcases List.mem_cons.mp hq with rfl | hq <;> first | exact Or.inr ⟨by decide, _, lk_18, by decide, by decide⟩ | cases hq), by decide, by decide, lk_13, cb_13, by decide, Or.inl ⟨3, Nat.le_of_ble_eq_true rfl, dL_addNode_15, dL_addNode_16, dL_addNode_17⟩, ⟨_, .int, rfl, rfl, rfl, hK⟩⟩) ⟨rfl, rfl⟩))
  | k + 2, hk => simp at hk
theorem dL_addLink_0 : decode cL_addLink 0 = .ok (.aload 5, 2) := by decide +kernel
theorem dL_addLink_2 : decode cL_addLink 2 = .ok (.iconst 0, 1) := by decide +kernel
theorem dL_addLink_3 : decode cL_addLink 3 = .ok (.aload_n 0, 1) := by decide +kernel
theorem dL_addLink_4 : decode cL_addLink 4 = .ok (.iload_n 1, 1) := by decide +kernel
theorem dL_addLink_5 : decode cL_addLink 5 = .ok (.iload_n 2, 1) := by decide +kernel
theorem dL_addLink_6 : decode cL_addLink 6 = .ok (.iload_n 3, 1) := by decide +kernel
theorem dL_addLink_7 : decode cL_addLink 7 = .ok (.iload 4, 2) := by decide +kernel
theorem dL_addLink_9 : decode cL_addLink 9 = .ok (.invokevirtual 23, 3) := by decide +kernel
theorem dL_addLink_12 : decode cL_addLink 12 = .ok (.i2l, 1) := by decide +kernel
theorem dL_addLink_13 : decode cL_addLink 13 = .ok (.lastore, 1) := by decide +kernel
theorem dL_addLink_14 : decode cL_addLink 14 = .ok (.goto 15, 3) := by decide +kernel
theorem dL_addLink_17 : decode cL_addLink 17 = .ok (.astore 6, 2) := by decide +kernel
theorem dL_addLink_19 : decode cL_addLink 19 = .ok (.iconst 1, 1) := by decide +kernel
theorem dL_addLink_20 : decode cL_addLink 20 = .ok (.ireturn, 1) := by decide +kernel
theorem dL_addLink_21 : decode cL_addLink 21 = .ok (.astore 6, 2) := by decide +kernel
theorem dL_addLink_23 : decode cL_addLink 23 = .ok (.iconst 2, 1) := by decide +kernel
theorem dL_addLink_24 : decode cL_addLink 24 = .ok (.ireturn, 1) := by decide +kernel
theorem dL_addLink_25 : decode cL_addLink 25 = .ok (.astore 6, 2) := by decide +kernel
theorem dL_addLink_27 : decode cL_addLink 27 = .ok (.iconst 3, 1) := by decide +kernel
theorem dL_addLink_28 : decode cL_addLink 28 = .ok (.ireturn, 1) := by decide +kernel
theorem dL_addLink_29 : decode cL_addLink 29 = .ok (.iconst 0, 1) := by decide +kernel
theorem dL_addLink_30 : decode cL_addLink 30 = .ok (.ireturn, 1) := by decide +kernel
theorem mh_L_addLink : pm_mh yL_addLink cL_addLink 7 (some .int) [(0, 14, 17, 27), (0, 14, 21, 18), (0, 14, 25, 13)] := pt_h_ok 1063 115 (by decide +kernel)
theorem pL_addLink {G : pm_G} {cal : pm_Cal} {KR : pm_E} {ini : Bool} {S : pm_S} {x o : Nat} {v1 v2 v3 v4 : Int32} (k : xw G cal RL ini cL_addLink (some .int) [(0, 14, 17, 27), (0, 14, 21, 18), (0, 14, 25, 13)] KR 9 (pm_ent [.ref x, .int v1, .int v2, .int v3, .int v4, .ref o] 7) [.int v4, .int v3, .int v2, .int v1, .ref x, .int (Int32.ofInt 0), .ref o] S) : xw G cal RL ini cL_addLink (some .int) [(0, 14, 17, 27), (0, 14, 21, 18), (0, 14, 25, 13)] KR 0 (pm_ent [.ref x, .int v1, .int v2, .int v3, .int v4, .ref o] 7) [] S :=
  xw_fn 2 dL_addLink_0 rfl rfl (xw_fn 3 dL_addLink_2 rfl rfl (xw_fn 4 dL_addLink_3 rfl rfl (xw_fn 5 dL_addLink_4 rfl rfl (xw_fn 6 dL_addLink_5 rfl rfl (xw_fn 7 dL_addLink_6 rfl rfl (xw_fn 9 dL_addLink_7 rfl rfl (k)))))))
theorem wL_addLink_n {G : pm_G} {D : Nat} {X M M1 : pm_M} {z z1 : Option Nat × Nat × Nat} {x o : Nat} {v1 v2 v3 v4 : Int32} {r : Int32} {n9 : Nat} {f9 : Nat → Value} (hx : M x = some (.inl 11, n9, f9)) {F : Nat → Value} (ho : X o = some (.inr (.long, true), 1, F)) (hM1 : M1 o = none) (hr : pm_run G D false yX11_addLink [.ref x, .int v1, .int v2, .int v3, .int v4] (M, z) (.inl (some (.int r))) (M1, z1)) : pm_ruh G D yL_addLink [.ref x, .int v1, .int v2, .int v3, .int v4, .ref o] (exS X (M, z)) (some (.int 0)) (exS (pm_up X o (some (.inr (.long, true), 1, pm_up F (Int32.ofInt 0).toNatClampNeg (.long r.toInt64)))) (M1, z1)) := by
  refine xw_ruh mh_L_addLink rfl rfl (pL_addLink (xw_cv (As := [.int v1, .int v2, .int v3, .int v4]) 12 dL_addLink_9 rfl iv_L_23 rfl (Nat.le_of_ble_eq_true rfl) (ex_at hx) cn_11 (ex_run _ _ _ _ _ _ _ hr) ?_))
  refine xw_fn 13 dL_addLink_12 rfl rfl (xw_last 14 dL_addLink_13 rfl ((ex_none hM1).trans ho) in_0 ?_)
  exact xw_goto 29 dL_addLink_14 rfl (xw_fn 30 dL_addLink_29 rfl rfl (xw_iret dL_addLink_30 rfl rfl ⟨rfl, ex_put hM1⟩))
theorem wL_addLink_x {G : pm_G} {D : Nat} {X M M1 : pm_M} {z z1 : Option Nat × Nat × Nat} {x o : Nat} {v1 v2 v3 v4 : Int32} {k : Nat} {e : String} {n9 : Nat} {f9 : Nat → Value} (hx : M x = some (.inl 11, n9, f9)) (hk : ([pm_xB, pm_xA, pm_xI] : List String)[k]? = some e) (hr : pm_run G D false yX11_addLink [.ref x, .int v1, .int v2, .int v3, .int v4] (M, z) (.inr e) (M1, z1)) : pm_ruh G D yL_addLink [.ref x, .int v1, .int v2, .int v3, .int v4, .ref o] (exS X (M, z)) (some (.int (nn (k + 1)))) (exS X (M1, z1)) := by
  match k, hk with
  | 0, hk =>
    cases hk
    exact xw_ruh mh_L_addLink rfl rfl (pL_addLink (xw_cx (r9 := .inl (some (.int (nn 1)))) (As := [.int v1, .int v2, .int v3, .int v4]) dL_addLink_9 iv_L_23 rfl (Nat.le_of_ble_eq_true rfl) (ex_at hx) cn_11 (ex_run _ _ _ _ _ _ _ hr) (fun KR' hK => Or.inr ⟨[], [(0, 14, 21, 18), (0, 14, 25, 13)], (0, 14, 17, 27), pm_xB, 1, rfl, (fun q hq => by cases hq), by decide, by decide, lk_27, cb_27, by decide, Or.inr ⟨6, Nat.le_of_ble_eq_true rfl, dL_addLink_17, dL_addLink_19, dL_addLink_20⟩, ⟨_, .int, rfl, rfl, rfl, hK⟩⟩) ⟨rfl, rfl⟩))
  | 1, hk =>
    cases hk
    exact xw_ruh mh_L_addLink rfl rfl (pL_addLink (xw_cx (r9 := .inl (some (.int (nn 2)))) (As := [.int v1, .int v2, .int v3, .int v4]) dL_addLink_9 iv_L_23 rfl (Nat.le_of_ble_eq_true rfl) (ex_at hx) cn_11 (ex_run _ _ _ _ _ _ _ hr) (fun KR' hK => Or.inr ⟨[(0, 14, 17, 27)], [(0, 14, 25, 13)], (0, 14, 21, 18), pm_xA, 2, rfl, (fun q hq => by rcases List.mem_cons.mp hq with rfl | hq <;> first | exact Or.inr ⟨by decide, _, lk_27, by decide, by decide⟩ | cases hq), by decide, by decide, lk_18, cb_18, by decide, Or.inr ⟨6, Nat.le_of_ble_eq_true rfl, dL_addLink_21, dL_addLink_23, dL_addLink_24⟩, ⟨_, .int, rfl, rfl, rfl, hK⟩⟩) ⟨rfl, rfl⟩))
  | 2, hk =>
    cases hk
    exact xw_ruh mh_L_addLink rfl rfl (pL_addLink (xw_cx (r9 := .inl (some (.int (nn 3)))) (As := [.int v1, .int v2, .int v3, .int v4]) dL_addLink_9 iv_L_23 rfl (Nat.le_of_ble_eq_true rfl) (ex_at hx) cn_11 (ex_run _ _ _ _ _ _ _ hr) (fun KR' hK => Or.inr ⟨[(0, 14, 17, 27), (0, 14, 21, 18)], [], (0, 14, 25, 13), pm_xI, 3, rfl, (fun q hq => by rcases List.mem_cons.mp hq with rfl | hq <;> first | exact Or.inr ⟨by decide, _, lk_27, by decide, by decide⟩ | (rcases List.mem_cons.mp hq with rfl | hq <;> first | exact Or.inr ⟨by decide, _, lk_18, by decide, by decide⟩ | cases hq)), by decide, by decide, lk_13, cb_13, by decide, Or.inr ⟨6, Nat.le_of_ble_eq_true rfl, dL_addLink_25, dL_addLink_27, dL_addLink_28⟩, ⟨_, .int, rfl, rfl, rfl, hK⟩⟩) ⟨rfl, rfl⟩))
  | k + 3, hk => simp at hk
theorem dL_setUp_0 : decode cL_setUp 0 = .ok (.aload_n 3, 1) := by decide +kernel
theorem dL_setUp_1 : decode cL_setUp 1 = .ok (.iconst 0, 1) := by decide +kernel
theorem dL_setUp_2 : decode cL_setUp 2 = .ok (.aload_n 0, 1) := by decide +kernel
theorem dL_setUp_3 : decode cL_setUp 3 = .ok (.iload_n 1, 1) := by decide +kernel
theorem dL_setUp_4 : decode cL_setUp 4 = .ok (.iload_n 2, 1) := by decide +kernel
theorem dL_setUp_5 : decode cL_setUp 5 = .ok (.invokevirtual 29, 3) := by decide +kernel
theorem dL_setUp_8 : decode cL_setUp 8 = .ok (.ifCond .eq 7, 3) := by decide +kernel
theorem dL_setUp_11 : decode cL_setUp 11 = .ok (.lconst 1, 1) := by decide +kernel
theorem dL_setUp_12 : decode cL_setUp 12 = .ok (.goto 4, 3) := by decide +kernel
theorem dL_setUp_15 : decode cL_setUp 15 = .ok (.lconst 0, 1) := by decide +kernel
theorem dL_setUp_16 : decode cL_setUp 16 = .ok (.lastore, 1) := by decide +kernel
theorem dL_setUp_17 : decode cL_setUp 17 = .ok (.goto 7, 3) := by decide +kernel
theorem dL_setUp_20 : decode cL_setUp 20 = .ok (.astore 4, 2) := by decide +kernel
theorem dL_setUp_22 : decode cL_setUp 22 = .ok (.iconst 1, 1) := by decide +kernel
theorem dL_setUp_23 : decode cL_setUp 23 = .ok (.ireturn, 1) := by decide +kernel
theorem dL_setUp_24 : decode cL_setUp 24 = .ok (.iconst 0, 1) := by decide +kernel
theorem dL_setUp_25 : decode cL_setUp 25 = .ok (.ireturn, 1) := by decide +kernel
theorem mh_L_setUp : pm_mh yL_setUp cL_setUp 5 (some .int) [(0, 17, 20, 27)] := pt_h_ok 1097 115 (by decide +kernel)
theorem pL_setUp {G : pm_G} {cal : pm_Cal} {KR : pm_E} {ini : Bool} {S : pm_S} {x o : Nat} {v1 v2 : Int32} (k : xw G cal RL ini cL_setUp (some .int) [(0, 17, 20, 27)] KR 5 (pm_ent [.ref x, .int v1, .int v2, .ref o] 5) [.int v2, .int v1, .ref x, .int (Int32.ofInt 0), .ref o] S) : xw G cal RL ini cL_setUp (some .int) [(0, 17, 20, 27)] KR 0 (pm_ent [.ref x, .int v1, .int v2, .ref o] 5) [] S :=
  xw_fn 1 dL_setUp_0 rfl rfl (xw_fn 2 dL_setUp_1 rfl rfl (xw_fn 3 dL_setUp_2 rfl rfl (xw_fn 4 dL_setUp_3 rfl rfl (xw_fn 5 dL_setUp_4 rfl rfl (k)))))
theorem wL_setUp_n {G : pm_G} {D : Nat} {X M M1 : pm_M} {z z1 : Option Nat × Nat × Nat} {x o : Nat} {v1 v2 : Int32} {r : Int32} {n9 : Nat} {f9 : Nat → Value} (hx : M x = some (.inl 11, n9, f9)) {F : Nat → Value} (ho : X o = some (.inr (.long, true), 1, F)) (hM1 : M1 o = none) (hr : pm_run G D false yX11_setUp [.ref x, .int v1, .int v2] (M, z) (.inl (some (.int r))) (M1, z1)) : pm_ruh G D yL_setUp [.ref x, .int v1, .int v2, .ref o] (exS X (M, z)) (some (.int 0)) (exS (pm_up X o (some (.inr (.long, true), 1, pm_up F (Int32.ofInt 0).toNatClampNeg (.long (if r = 0 then 0 else 1))))) (M1, z1)) := by
  refine xw_ruh mh_L_setUp rfl rfl (pL_setUp (xw_cv (As := [.int v1, .int v2]) 8 dL_setUp_5 rfl iv_L_29 rfl (Nat.le_of_ble_eq_true rfl) (ex_at hx) cn_11 (ex_run _ _ _ _ _ _ _ hr) ?_))
  by_cases e : r = 0
  · subst e
    refine xw_eq_t 15 dL_setUp_8 rfl rfl (xw_fn 16 dL_setUp_15 rfl rfl (xw_last 17 dL_setUp_16 rfl ((ex_none hM1).trans ho) in_0 ?_))
    exact xw_goto 24 dL_setUp_17 rfl (xw_fn 25 dL_setUp_24 rfl rfl (xw_iret dL_setUp_25 rfl rfl ⟨rfl, ex_put hM1⟩))
  · refine xw_eq_f 11 15 dL_setUp_8 rfl rfl e (xw_fn 12 dL_setUp_11 rfl rfl (xw_goto 16 dL_setUp_12 rfl (xw_last 17 dL_setUp_16 rfl ((ex_none hM1).trans ho) in_0 ?_)))
    rw [if_neg e]
    exact xw_goto 24 dL_setUp_17 rfl (xw_fn 25 dL_setUp_24 rfl rfl (xw_iret dL_setUp_25 rfl rfl ⟨rfl, ex_put hM1⟩))
theorem wL_setUp_x {G : pm_G} {D : Nat} {X M M1 : pm_M} {z z1 : Option Nat × Nat × Nat} {x o : Nat} {v1 v2 : Int32} {k : Nat} {e : String} {n9 : Nat} {f9 : Nat → Value} (hx : M x = some (.inl 11, n9, f9)) (hk : ([pm_xB] : List String)[k]? = some e) (hr : pm_run G D false yX11_setUp [.ref x, .int v1, .int v2] (M, z) (.inr e) (M1, z1)) : pm_ruh G D yL_setUp [.ref x, .int v1, .int v2, .ref o] (exS X (M, z)) (some (.int (nn (k + 1)))) (exS X (M1, z1)) := by
  match k, hk with
  | 0, hk =>
    cases hk
    exact xw_ruh mh_L_setUp rfl rfl (pL_setUp (xw_cx (r9 := .inl (some (.int (nn 1)))) (As := [.int v1, .int v2]) dL_setUp_5 iv_L_29 rfl (Nat.le_of_ble_eq_true rfl) (ex_at hx) cn_11 (ex_run _ _ _ _ _ _ _ hr) (fun KR' hK => Or.inr ⟨[], [], (0, 17, 20, 27), pm_xB, 1, rfl, (fun q hq => by cases hq), by decide, by decide, lk_27, cb_27, by decide, Or.inr ⟨4, Nat.le_of_ble_eq_true rfl, dL_setUp_20, dL_setUp_22, dL_setUp_23⟩, ⟨_, .int, rfl, rfl, rfl, hK⟩⟩) ⟨rfl, rfl⟩))
  | k + 1, hk => simp at hk
theorem dL_set_0 : decode cL_set 0 = .ok (.aload_n 3, 1) := by decide +kernel
theorem dL_set_1 : decode cL_set 1 = .ok (.iconst 0, 1) := by decide +kernel
theorem dL_set_2 : decode cL_set 2 = .ok (.aload_n 0, 1) := by decide +kernel
theorem dL_set_3 : decode cL_set 3 = .ok (.iload_n 1, 1) := by decide +kernel
theorem dL_set_4 : decode cL_set 4 = .ok (.iload_n 2, 1) := by decide +kernel
theorem dL_set_5 : decode cL_set 5 = .ok (.invokevirtual 33, 3) := by decide +kernel
theorem dL_set_8 : decode cL_set 8 = .ok (.i2l, 1) := by decide +kernel
theorem dL_set_9 : decode cL_set 9 = .ok (.lastore, 1) := by decide +kernel
theorem dL_set_10 : decode cL_set 10 = .ok (.goto 7, 3) := by decide +kernel
theorem dL_set_13 : decode cL_set 13 = .ok (.astore 4, 2) := by decide +kernel
theorem dL_set_15 : decode cL_set 15 = .ok (.iconst 1, 1) := by decide +kernel
theorem dL_set_16 : decode cL_set 16 = .ok (.ireturn, 1) := by decide +kernel
theorem dL_set_17 : decode cL_set 17 = .ok (.iconst 0, 1) := by decide +kernel
theorem dL_set_18 : decode cL_set 18 = .ok (.ireturn, 1) := by decide +kernel
theorem mh_L_set : pm_mh yL_set cL_set 5 (some .int) [(0, 10, 13, 18)] := pt_h_ok 1128 115 (by decide +kernel)
theorem pL_set {G : pm_G} {cal : pm_Cal} {KR : pm_E} {ini : Bool} {S : pm_S} {x o : Nat} {v1 v2 : Int32} (k : xw G cal RL ini cL_set (some .int) [(0, 10, 13, 18)] KR 5 (pm_ent [.ref x, .int v1, .int v2, .ref o] 5) [.int v2, .int v1, .ref x, .int (Int32.ofInt 0), .ref o] S) : xw G cal RL ini cL_set (some .int) [(0, 10, 13, 18)] KR 0 (pm_ent [.ref x, .int v1, .int v2, .ref o] 5) [] S :=
  xw_fn 1 dL_set_0 rfl rfl (xw_fn 2 dL_set_1 rfl rfl (xw_fn 3 dL_set_2 rfl rfl (xw_fn 4 dL_set_3 rfl rfl (xw_fn 5 dL_set_4 rfl rfl (k)))))
theorem wL_set_n {G : pm_G} {D : Nat} {X M M1 : pm_M} {z z1 : Option Nat × Nat × Nat} {x o : Nat} {v1 v2 : Int32} {r : Int32} {n9 : Nat} {f9 : Nat → Value} (hx : M x = some (.inl 11, n9, f9)) {F : Nat → Value} (ho : X o = some (.inr (.long, true), 1, F)) (hM1 : M1 o = none) (hr : pm_run G D false yX11_set [.ref x, .int v1, .int v2] (M, z) (.inl (some (.int r))) (M1, z1)) : pm_ruh G D yL_set [.ref x, .int v1, .int v2, .ref o] (exS X (M, z)) (some (.int 0)) (exS (pm_up X o (some (.inr (.long, true), 1, pm_up F (Int32.ofInt 0).toNatClampNeg (.long r.toInt64)))) (M1, z1)) := by
  refine xw_ruh mh_L_set rfl rfl (pL_set (xw_cv (As := [.int v1, .int v2]) 8 dL_set_5 rfl iv_L_33 rfl (Nat.le_of_ble_eq_true rfl) (ex_at hx) cn_11 (ex_run _ _ _ _ _ _ _ hr) ?_))
  refine xw_fn 9 dL_set_8 rfl rfl (xw_last 10 dL_set_9 rfl ((ex_none hM1).trans ho) in_0 ?_)
  exact xw_goto 17 dL_set_10 rfl (xw_fn 18 dL_set_17 rfl rfl (xw_iret dL_set_18 rfl rfl ⟨rfl, ex_put hM1⟩))
theorem wL_set_x {G : pm_G} {D : Nat} {X M M1 : pm_M} {z z1 : Option Nat × Nat × Nat} {x o : Nat} {v1 v2 : Int32} {k : Nat} {e : String} {n9 : Nat} {f9 : Nat → Value} (hx : M x = some (.inl 11, n9, f9)) (hk : ([pm_xA] : List String)[k]? = some e) (hr : pm_run G D false yX11_set [.ref x, .int v1, .int v2] (M, z) (.inr e) (M1, z1)) : pm_ruh G D yL_set [.ref x, .int v1, .int v2, .ref o] (exS X (M, z)) (some (.int (nn (k + 1)))) (exS X (M1, z1)) := by
  match k, hk with
  | 0, hk =>
    cases hk
    exact xw_ruh mh_L_set rfl rfl (pL_set (xw_cx (r9 := .inl (some (.int (nn 1)))) (As := [.int v1, .int v2]) dL_set_5 iv_L_33 rfl (Nat.le_of_ble_eq_true rfl) (ex_at hx) cn_11 (ex_run _ _ _ _ _ _ _ hr) (fun KR' hK => Or.inr ⟨[], [], (0, 10, 13, 18), pm_xA, 1, rfl, (fun q hq => by cases hq), by decide, by decide, lk_18, cb_18, by decide, Or.inr ⟨4, Nat.le_of_ble_eq_true rfl, dL_set_13, dL_set_15, dL_set_16⟩, ⟨_, .int, rfl, rfl, rfl, hK⟩⟩) ⟨rfl, rfl⟩))
  | k + 1, hk => simp at hk
theorem dL_count_0 : decode cL_count 0 = .ok (.aload_n 2, 1) := by decide +kernel
theorem dL_count_1 : decode cL_count 1 = .ok (.iconst 0, 1) := by decide +kernel
theorem dL_count_2 : decode cL_count 2 = .ok (.aload_n 0, 1) := by decide +kernel
theorem dL_count_3 : decode cL_count 3 = .ok (.iload_n 1, 1) := by decide +kernel
theorem dL_count_4 : decode cL_count 4 = .ok (.invokevirtual 37, 3) := by decide +kernel
theorem dL_count_7 : decode cL_count 7 = .ok (.i2l, 1) := by decide +kernel
theorem dL_count_8 : decode cL_count 8 = .ok (.lastore, 1) := by decide +kernel
theorem dL_count_9 : decode cL_count 9 = .ok (.goto 6, 3) := by decide +kernel
theorem dL_count_12 : decode cL_count 12 = .ok (.astore_n 3, 1) := by decide +kernel
theorem dL_count_13 : decode cL_count 13 = .ok (.iconst 1, 1) := by decide +kernel
theorem dL_count_14 : decode cL_count 14 = .ok (.ireturn, 1) := by decide +kernel
theorem dL_count_15 : decode cL_count 15 = .ok (.iconst 0, 1) := by decide +kernel
theorem dL_count_16 : decode cL_count 16 = .ok (.ireturn, 1) := by decide +kernel
theorem mh_L_count : pm_mh yL_count cL_count 4 (some .int) [(0, 9, 12, 18)] := pt_h_ok 1138 115 (by decide +kernel)
theorem pL_count {G : pm_G} {cal : pm_Cal} {KR : pm_E} {ini : Bool} {S : pm_S} {x o : Nat} {v1 : Int32} (k : xw G cal RL ini cL_count (some .int) [(0, 9, 12, 18)] KR 4 (pm_ent [.ref x, .int v1, .ref o] 4) [.int v1, .ref x, .int (Int32.ofInt 0), .ref o] S) : xw G cal RL ini cL_count (some .int) [(0, 9, 12, 18)] KR 0 (pm_ent [.ref x, .int v1, .ref o] 4) [] S :=
  xw_fn 1 dL_count_0 rfl rfl (xw_fn 2 dL_count_1 rfl rfl (xw_fn 3 dL_count_2 rfl rfl (xw_fn 4 dL_count_3 rfl rfl (k))))
theorem wL_count_n {G : pm_G} {D : Nat} {X M M1 : pm_M} {z z1 : Option Nat × Nat × Nat} {x o : Nat} {v1 : Int32} {r : Int32} {n9 : Nat} {f9 : Nat → Value} (hx : M x = some (.inl 11, n9, f9)) {F : Nat → Value} (ho : X o = some (.inr (.long, true), 1, F)) (hM1 : M1 o = none) (hr : pm_run G D false yX11_count [.ref x, .int v1] (M, z) (.inl (some (.int r))) (M1, z1)) : pm_ruh G D yL_count [.ref x, .int v1, .ref o] (exS X (M, z)) (some (.int 0)) (exS (pm_up X o (some (.inr (.long, true), 1, pm_up F (Int32.ofInt 0).toNatClampNeg (.long r.toInt64)))) (M1, z1)) := by
  refine xw_ruh mh_L_count rfl rfl (pL_count (xw_cv (As := [.int v1]) 7 dL_count_4 rfl iv_L_37 rfl (Nat.le_of_ble_eq_true rfl) (ex_at hx) cn_11 (ex_run _ _ _ _ _ _ _ hr) ?_))
  refine xw_fn 8 dL_count_7 rfl rfl (xw_last 9 dL_count_8 rfl ((ex_none hM1).trans ho) in_0 ?_)
  exact xw_goto 15 dL_count_9 rfl (xw_fn 16 dL_count_15 rfl rfl (xw_iret dL_count_16 rfl rfl ⟨rfl, ex_put hM1⟩))
theorem wL_count_x {G : pm_G} {D : Nat} {X M M1 : pm_M} {z z1 : Option Nat × Nat × Nat} {x o : Nat} {v1 : Int32} {k : Nat} {e : String} {n9 : Nat} {f9 : Nat → Value} (hx : M x = some (.inl 11, n9, f9)) (hk : ([pm_xA] : List String)[k]? = some e) (hr : pm_run G D false yX11_count [.ref x, .int v1] (M, z) (.inr e) (M1, z1)) : pm_ruh G D yL_count [.ref x, .int v1, .ref o] (exS X (M, z)) (some (.int (nn (k + 1)))) (exS X (M1, z1)) := by
  match k, hk with
  | 0, hk =>
    cases hk
    exact xw_ruh mh_L_count rfl rfl (pL_count (xw_cx (r9 := .inl (some (.int (nn 1)))) (As := [.int v1]) dL_count_4 iv_L_37 rfl (Nat.le_of_ble_eq_true rfl) (ex_at hx) cn_11 (ex_run _ _ _ _ _ _ _ hr) (fun KR' hK => Or.inr ⟨[], [], (0, 9, 12, 18), pm_xA, 1, rfl, (fun q hq => by cases hq), by decide, by decide, lk_18, cb_18, by decide, Or.inl ⟨3, Nat.le_of_ble_eq_true rfl, dL_count_12, dL_count_13, dL_count_14⟩, ⟨_, .int, rfl, rfl, rfl, hK⟩⟩) ⟨rfl, rfl⟩))
  | k + 1, hk => simp at hk
theorem dL_node_0 : decode cL_node 0 = .ok (.aload_n 3, 1) := by decide +kernel
theorem dL_node_1 : decode cL_node 1 = .ok (.iconst 0, 1) := by decide +kernel
theorem dL_node_2 : decode cL_node 2 = .ok (.aload_n 0, 1) := by decide +kernel
theorem dL_node_3 : decode cL_node 3 = .ok (.iload_n 1, 1) := by decide +kernel
theorem dL_node_4 : decode cL_node 4 = .ok (.iload_n 2, 1) := by decide +kernel
theorem dL_node_5 : decode cL_node 5 = .ok (.invokevirtual 40, 3) := by decide +kernel
theorem dL_node_8 : decode cL_node 8 = .ok (.i2l, 1) := by decide +kernel
theorem dL_node_9 : decode cL_node 9 = .ok (.lastore, 1) := by decide +kernel
theorem dL_node_10 : decode cL_node 10 = .ok (.goto 11, 3) := by decide +kernel
theorem dL_node_13 : decode cL_node 13 = .ok (.astore 4, 2) := by decide +kernel
theorem dL_node_15 : decode cL_node 15 = .ok (.iconst 1, 1) := by decide +kernel
theorem dL_node_16 : decode cL_node 16 = .ok (.ireturn, 1) := by decide +kernel
theorem dL_node_17 : decode cL_node 17 = .ok (.astore 4, 2) := by decide +kernel
theorem dL_node_19 : decode cL_node 19 = .ok (.iconst 2, 1) := by decide +kernel
theorem dL_node_20 : decode cL_node 20 = .ok (.ireturn, 1) := by decide +kernel
theorem dL_node_21 : decode cL_node 21 = .ok (.iconst 0, 1) := by decide +kernel
theorem dL_node_22 : decode cL_node 22 = .ok (.ireturn, 1) := by decide +kernel
theorem mh_L_node : pm_mh yL_node cL_node 5 (some .int) [(0, 10, 13, 27), (0, 10, 17, 18)] := pt_h_ok 1160 115 (by decide +kernel)
theorem pL_node {G : pm_G} {cal : pm_Cal} {KR : pm_E} {ini : Bool} {S : pm_S} {x o : Nat} {v1 v2 : Int32} (k : xw G cal RL ini cL_node (some .int) [(0, 10, 13, 27), (0, 10, 17, 18)] KR 5 (pm_ent [.ref x, .int v1, .int v2, .ref o] 5) [.int v2, .int v1, .ref x, .int (Int32.ofInt 0), .ref o] S) : xw G cal RL ini cL_node (some .int) [(0, 10, 13, 27), (0, 10, 17, 18)] KR 0 (pm_ent [.ref x, .int v1, .int v2, .ref o] 5) [] S :=
  xw_fn 1 dL_node_0 rfl rfl (xw_fn 2 dL_node_1 rfl rfl (xw_fn 3 dL_node_2 rfl rfl (xw_fn 4 dL_node_3 rfl rfl (xw_fn 5 dL_node_4 rfl rfl (k)))))
theorem wL_node_n {G : pm_G} {D : Nat} {X M M1 : pm_M} {z z1 : Option Nat × Nat × Nat} {x o : Nat} {v1 v2 : Int32} {r : Int32} {n9 : Nat} {f9 : Nat → Value} (hx : M x = some (.inl 11, n9, f9)) {F : Nat → Value} (ho : X o = some (.inr (.long, true), 1, F)) (hM1 : M1 o = none) (hr : pm_run G D false yX11_node [.ref x, .int v1, .int v2] (M, z) (.inl (some (.int r))) (M1, z1)) : pm_ruh G D yL_node [.ref x, .int v1, .int v2, .ref o] (exS X (M, z)) (some (.int 0)) (exS (pm_up X o (some (.inr (.long, true), 1, pm_up F (Int32.ofInt 0).toNatClampNeg (.long r.toInt64)))) (M1, z1)) := by
  refine xw_ruh mh_L_node rfl rfl (pL_node (xw_cv (As := [.int v1, .int v2]) 8 dL_node_5 rfl iv_L_40 rfl (Nat.le_of_ble_eq_true rfl) (ex_at hx) cn_11 (ex_run _ _ _ _ _ _ _ hr) ?_))
  refine xw_fn 9 dL_node_8 rfl rfl (xw_last 10 dL_node_9 rfl ((ex_none hM1).trans ho) in_0 ?_)
  exact xw_goto 21 dL_node_10 rfl (xw_fn 22 dL_node_21 rfl rfl (xw_iret dL_node_22 rfl rfl ⟨rfl, ex_put hM1⟩))
theorem wL_node_x {G : pm_G} {D : Nat} {X M M1 : pm_M} {z z1 : Option Nat × Nat × Nat} {x o : Nat} {v1 v2 : Int32} {k : Nat} {e : String} {n9 : Nat} {f9 : Nat → Value} (hx : M x = some (.inl 11, n9, f9)) (hk : ([pm_xB, pm_xA] : List String)[k]? = some e) (hr : pm_run G D false yX11_node [.ref x, .int v1, .int v2] (M, z) (.inr e) (M1, z1)) : pm_ruh G D yL_node [.ref x, .int v1, .int v2, .ref o] (exS X (M, z)) (some (.int (nn (k + 1)))) (exS X (M1, z1)) := by
  match k, hk with
  | 0, hk =>
    cases hk
    exact xw_ruh mh_L_node rfl rfl (pL_node (xw_cx (r9 := .inl (some (.int (nn 1)))) (As := [.int v1, .int v2]) dL_node_5 iv_L_40 rfl (Nat.le_of_ble_eq_true rfl) (ex_at hx) cn_11 (ex_run _ _ _ _ _ _ _ hr) (fun KR' hK => Or.inr ⟨[], [(0, 10, 17, 18)], (0, 10, 13, 27), pm_xB, 1, rfl, (fun q hq => by cases hq), by decide, by decide, lk_27, cb_27, by decide, Or.inr ⟨4, Nat.le_of_ble_eq_true rfl, dL_node_13, dL_node_15, dL_node_16⟩, ⟨_, .int, rfl, rfl, rfl, hK⟩⟩) ⟨rfl, rfl⟩))
  | 1, hk =>
    cases hk
    exact xw_ruh mh_L_node rfl rfl (pL_node (xw_cx (r9 := .inl (some (.int (nn 2)))) (As := [.int v1, .int v2]) dL_node_5 iv_L_40 rfl (Nat.le_of_ble_eq_true rfl) (ex_at hx) cn_11 (ex_run _ _ _ _ _ _ _ hr) (fun KR' hK => Or.inr ⟨[(0, 10, 13, 27)], [], (0, 10, 17, 18), pm_xA, 2, rfl, (fun q hq => by rcases List.mem_cons.mp hq with rfl | hq <;> first | exact Or.inr ⟨by decide, _, lk_27, by decide, by decide⟩ | cases hq), by decide, by decide, lk_18, cb_18, by decide, Or.inr ⟨4, Nat.le_of_ble_eq_true rfl, dL_node_17, dL_node_19, dL_node_20⟩, ⟨_, .int, rfl, rfl, rfl, hK⟩⟩) ⟨rfl, rfl⟩))
  | k + 2, hk => simp at hk
theorem dL_label_0 : decode cL_label 0 = .ok (.aload 4, 2) := by decide +kernel
theorem dL_label_2 : decode cL_label 2 = .ok (.iconst 0, 1) := by decide +kernel
theorem dL_label_3 : decode cL_label 3 = .ok (.aload_n 0, 1) := by decide +kernel
theorem dL_label_4 : decode cL_label 4 = .ok (.iload_n 1, 1) := by decide +kernel
theorem dL_label_5 : decode cL_label 5 = .ok (.iload_n 2, 1) := by decide +kernel
theorem dL_label_6 : decode cL_label 6 = .ok (.iload_n 3, 1) := by decide +kernel
theorem dL_label_7 : decode cL_label 7 = .ok (.invokevirtual 43, 3) := by decide +kernel
theorem dL_label_10 : decode cL_label 10 = .ok (.i2l, 1) := by decide +kernel
theorem dL_label_11 : decode cL_label 11 = .ok (.lastore, 1) := by decide +kernel
theorem dL_label_12 : decode cL_label 12 = .ok (.goto 11, 3) := by decide +kernel
theorem dL_label_15 : decode cL_label 15 = .ok (.astore 5, 2) := by decide +kernel
theorem dL_label_17 : decode cL_label 17 = .ok (.iconst 1, 1) := by decide +kernel
theorem dL_label_18 : decode cL_label 18 = .ok (.ireturn, 1) := by decide +kernel
theorem dL_label_19 : decode cL_label 19 = .ok (.astore 5, 2) := by decide +kernel
theorem dL_label_21 : decode cL_label 21 = .ok (.iconst 2, 1) := by decide +kernel
theorem dL_label_22 : decode cL_label 22 = .ok (.ireturn, 1) := by decide +kernel
theorem dL_label_23 : decode cL_label 23 = .ok (.iconst 0, 1) := by decide +kernel
theorem dL_label_24 : decode cL_label 24 = .ok (.ireturn, 1) := by decide +kernel
theorem mh_L_label : pm_mh yL_label cL_label 6 (some .int) [(0, 12, 15, 27), (0, 12, 19, 18)] := pt_h_ok 1180 115 (by decide +kernel)
theorem pL_label {G : pm_G} {cal : pm_Cal} {KR : pm_E} {ini : Bool} {S : pm_S} {x o : Nat} {v1 v2 v3 : Int32} (k : xw G cal RL ini cL_label (some .int) [(0, 12, 15, 27), (0, 12, 19, 18)] KR 7 (pm_ent [.ref x, .int v1, .int v2, .int v3, .ref o] 6) [.int v3, .int v2, .int v1, .ref x, .int (Int32.ofInt 0), .ref o] S) : xw G cal RL ini cL_label (some .int) [(0, 12, 15, 27), (0, 12, 19, 18)] KR 0 (pm_ent [.ref x, .int v1, .int v2, .int v3, .ref o] 6) [] S :=
  xw_fn 2 dL_label_0 rfl rfl (xw_fn 3 dL_label_2 rfl rfl (xw_fn 4 dL_label_3 rfl rfl (xw_fn 5 dL_label_4 rfl rfl (xw_fn 6 dL_label_5 rfl rfl (xw_fn 7 dL_label_6 rfl rfl (k))))))
theorem wL_label_n {G : pm_G} {D : Nat} {X M M1 : pm_M} {z z1 : Option Nat × Nat × Nat} {x o : Nat} {v1 v2 v3 : Int32} {r : Int32} {n9 : Nat} {f9 : Nat → Value} (hx : M x = some (.inl 11, n9, f9)) {F : Nat → Value} (ho : X o = some (.inr (.long, true), 1, F)) (hM1 : M1 o = none) (hr : pm_run G D false yX11_label [.ref x, .int v1, .int v2, .int v3] (M, z) (.inl (some (.int r))) (M1, z1)) : pm_ruh G D yL_label [.ref x, .int v1, .int v2, .int v3, .ref o] (exS X (M, z)) (some (.int 0)) (exS (pm_up X o (some (.inr (.long, true), 1, pm_up F (Int32.ofInt 0).toNatClampNeg (.long r.toInt64)))) (M1, z1)) := by
  refine xw_ruh mh_L_label rfl rfl (pL_label (xw_cv (As := [.int v1, .int v2, .int v3]) 10 dL_label_7 rfl iv_L_43 rfl (Nat.le_of_ble_eq_true rfl) (ex_at hx) cn_11 (ex_run _ _ _ _ _ _ _ hr) ?_))
  refine xw_fn 11 dL_label_10 rfl rfl (xw_last 12 dL_label_11 rfl ((ex_none hM1).trans ho) in_0 ?_)
  exact xw_goto 23 dL_label_12 rfl (xw_fn 24 dL_label_23 rfl rfl (xw_iret dL_label_24 rfl rfl ⟨rfl, ex_put hM1⟩))
theorem wL_label_x {G : pm_G} {D : Nat} {X M M1 : pm_M} {z z1 : Option Nat × Nat × Nat} {x o : Nat} {v1 v2 v3 : Int32} {k : Nat} {e : String} {n9 : Nat} {f9 : Nat → Value} (hx : M x = some (.inl 11, n9, f9)) (hk : ([pm_xB, pm_xA] : List String)[k]? = some e) (hr : pm_run G D false yX11_label [.ref x, .int v1, .int v2, .int v3] (M, z) (.inr e) (M1, z1)) : pm_ruh G D yL_label [.ref x, .int v1, .int v2, .int v3, .ref o] (exS X (M, z)) (some (.int (nn (k + 1)))) (exS X (M1, z1)) := by
  match k, hk with
  | 0, hk =>
    cases hk
    exact xw_ruh mh_L_label rfl rfl (pL_label (xw_cx (r9 := .inl (some (.int (nn 1)))) (As := [.int v1, .int v2, .int v3]) dL_label_7 iv_L_43 rfl (Nat.le_of_ble_eq_true rfl) (ex_at hx) cn_11 (ex_run _ _ _ _ _ _ _ hr) (fun KR' hK => Or.inr ⟨[], [(0, 12, 19, 18)], (0, 12, 15, 27), pm_xB, 1, rfl, (fun q hq => by cases hq), by decide, by decide, lk_27, cb_27, by decide, Or.inr ⟨5, Nat.le_of_ble_eq_true rfl, dL_label_15, dL_label_17, dL_label_18⟩, ⟨_, .int, rfl, rfl, rfl, hK⟩⟩) ⟨rfl, rfl⟩))
  | 1, hk =>
    cases hk
    exact xw_ruh mh_L_label rfl rfl (pL_label (xw_cx (r9 := .inl (some (.int (nn 2)))) (As := [.int v1, .int v2, .int v3]) dL_label_7 iv_L_43 rfl (Nat.le_of_ble_eq_true rfl) (ex_at hx) cn_11 (ex_run _ _ _ _ _ _ _ hr) (fun KR' hK => Or.inr ⟨[(0, 12, 15, 27)], [], (0, 12, 19, 18), pm_xA, 2, rfl, (fun q hq => by rcases List.mem_cons.mp hq with rfl | hq <;> first | exact Or.inr ⟨by decide, _, lk_27, by decide, by decide⟩ | cases hq), by decide, by decide, lk_18, cb_18, by decide, Or.inr ⟨5, Nat.le_of_ble_eq_true rfl, dL_label_19, dL_label_21, dL_label_22⟩, ⟨_, .int, rfl, rfl, rfl, hK⟩⟩) ⟨rfl, rfl⟩))
  | k + 2, hk => simp at hk
theorem dL_link_0 : decode cL_link 0 = .ok (.aload_n 3, 1) := by decide +kernel
theorem dL_link_1 : decode cL_link 1 = .ok (.iconst 0, 1) := by decide +kernel
theorem dL_link_2 : decode cL_link 2 = .ok (.aload_n 0, 1) := by decide +kernel
theorem dL_link_3 : decode cL_link 3 = .ok (.iload_n 1, 1) := by decide +kernel
theorem dL_link_4 : decode cL_link 4 = .ok (.iload_n 2, 1) := by decide +kernel
theorem dL_link_5 : decode cL_link 5 = .ok (.invokevirtual 47, 3) := by decide +kernel
theorem dL_link_8 : decode cL_link 8 = .ok (.i2l, 1) := by decide +kernel
theorem dL_link_9 : decode cL_link 9 = .ok (.lastore, 1) := by decide +kernel
theorem dL_link_10 : decode cL_link 10 = .ok (.goto 11, 3) := by decide +kernel
theorem dL_link_13 : decode cL_link 13 = .ok (.astore 4, 2) := by decide +kernel
theorem dL_link_15 : decode cL_link 15 = .ok (.iconst 1, 1) := by decide +kernel
theorem dL_link_16 : decode cL_link 16 = .ok (.ireturn, 1) := by decide +kernel
theorem dL_link_17 : decode cL_link 17 = .ok (.astore 4, 2) := by decide +kernel
theorem dL_link_19 : decode cL_link 19 = .ok (.iconst 2, 1) := by decide +kernel
theorem dL_link_20 : decode cL_link 20 = .ok (.ireturn, 1) := by decide +kernel
theorem dL_link_21 : decode cL_link 21 = .ok (.iconst 0, 1) := by decide +kernel
theorem dL_link_22 : decode cL_link 22 = .ok (.ireturn, 1) := by decide +kernel
theorem mh_L_link : pm_mh yL_link cL_link 5 (some .int) [(0, 10, 13, 27), (0, 10, 17, 18)] := pt_h_ok 1209 115 (by decide +kernel)
theorem pL_link {G : pm_G} {cal : pm_Cal} {KR : pm_E} {ini : Bool} {S : pm_S} {x o : Nat} {v1 v2 : Int32} (k : xw G cal RL ini cL_link (some .int) [(0, 10, 13, 27), (0, 10, 17, 18)] KR 5 (pm_ent [.ref x, .int v1, .int v2, .ref o] 5) [.int v2, .int v1, .ref x, .int (Int32.ofInt 0), .ref o] S) : xw G cal RL ini cL_link (some .int) [(0, 10, 13, 27), (0, 10, 17, 18)] KR 0 (pm_ent [.ref x, .int v1, .int v2, .ref o] 5) [] S :=
  xw_fn 1 dL_link_0 rfl rfl (xw_fn 2 dL_link_1 rfl rfl (xw_fn 3 dL_link_2 rfl rfl (xw_fn 4 dL_link_3 rfl rfl (xw_fn 5 dL_link_4 rfl rfl (k)))))
theorem wL_link_n {G : pm_G} {D : Nat} {X M M1 : pm_M} {z z1 : Option Nat × Nat × Nat} {x o : Nat} {v1 v2 : Int32} {r : Int32} {n9 : Nat} {f9 : Nat → Value} (hx : M x = some (.inl 11, n9, f9)) {F : Nat → Value} (ho : X o = some (.inr (.long, true), 1, F)) (hM1 : M1 o = none) (hr : pm_run G D false yX11_link [.ref x, .int v1, .int v2] (M, z) (.inl (some (.int r))) (M1, z1)) : pm_ruh G D yL_link [.ref x, .int v1, .int v2, .ref o] (exS X (M, z)) (some (.int 0)) (exS (pm_up X o (some (.inr (.long, true), 1, pm_up F (Int32.ofInt 0).toNatClampNeg (.long r.toInt64)))) (M1, z1)) := by
  refine xw_ruh mh_L_link rfl rfl (pL_link (xw_cv (As := [.int v1, .int v2]) 8 dL_link_5 rfl iv_L_47 rfl (Nat.le_of_ble_eq_true rfl) (ex_at hx) cn_11 (ex_run _ _ _ _ _ _ _ hr) ?_))
  refine xw_fn 9 dL_link_8 rfl rfl (xw_last 10 dL_link_9 rfl ((ex_none hM1).trans ho) in_0 ?_)
  exact xw_goto 21 dL_link_10 rfl (xw_fn 22 dL_link_21 rfl rfl (xw_iret dL_link_22 rfl rfl ⟨rfl, ex_put hM1⟩))
theorem wL_link_x {G : pm_G} {D : Nat} {X M M1 : pm_M} {z z1 : Option Nat × Nat × Nat} {x o : Nat} {v1 v2 : Int32} {k : Nat} {e : String} {n9 : Nat} {f9 : Nat → Value} (hx : M x = some (.inl 11, n9, f9)) (hk : ([pm_xB, pm_xA] : List String)[k]? = some e) (hr : pm_run G D false yX11_link [.ref x, .int v1, .int v2] (M, z) (.inr e) (M1, z1)) : pm_ruh G D yL_link [.ref x, .int v1, .int v2, .ref o] (exS X (M, z)) (some (.int (nn (k + 1)))) (exS X (M1, z1)) := by
  match k, hk with
  | 0, hk =>
    cases hk
    exact xw_ruh mh_L_link rfl rfl (pL_link (xw_cx (r9 := .inl (some (.int (nn 1)))) (As := [.int v1, .int v2]) dL_link_5 iv_L_47 rfl (Nat.le_of_ble_eq_true rfl) (ex_at hx) cn_11 (ex_run _ _ _ _ _ _ _ hr) (fun KR' hK => Or.inr ⟨[], [(0, 10, 17, 18)], (0, 10, 13, 27), pm_xB, 1, rfl, (fun q hq => by cases hq), by decide, by decide, lk_27, cb_27, by decide, Or.inr ⟨4, Nat.le_of_ble_eq_true rfl, dL_link_13, dL_link_15, dL_link_16⟩, ⟨_, .int, rfl, rfl, rfl, hK⟩⟩) ⟨rfl, rfl⟩))
  | 1, hk =>
    cases hk
    exact xw_ruh mh_L_link rfl rfl (pL_link (xw_cx (r9 := .inl (some (.int (nn 2)))) (As := [.int v1, .int v2]) dL_link_5 iv_L_47 rfl (Nat.le_of_ble_eq_true rfl) (ex_at hx) cn_11 (ex_run _ _ _ _ _ _ _ hr) (fun KR' hK => Or.inr ⟨[(0, 10, 13, 27)], [], (0, 10, 17, 18), pm_xA, 2, rfl, (fun q hq => by rcases List.mem_cons.mp hq with rfl | hq <;> first | exact Or.inr ⟨by decide, _, lk_27, by decide, by decide⟩ | cases hq), by decide, by decide, lk_18, cb_18, by decide, Or.inr ⟨4, Nat.le_of_ble_eq_true rfl, dL_link_17, dL_link_19, dL_link_20⟩, ⟨_, .int, rfl, rfl, rfl, hK⟩⟩) ⟨rfl, rfl⟩))
  | k + 2, hk => simp at hk
theorem dL_draft_0 : decode cL_draft 0 = .ok (.aload_n 2, 1) := by decide +kernel
theorem dL_draft_1 : decode cL_draft 1 = .ok (.iconst 0, 1) := by decide +kernel
theorem dL_draft_2 : decode cL_draft 2 = .ok (.aload_n 0, 1) := by decide +kernel
theorem dL_draft_3 : decode cL_draft 3 = .ok (.iload_n 1, 1) := by decide +kernel
theorem dL_draft_4 : decode cL_draft 4 = .ok (.invokevirtual 50, 3) := by decide +kernel
theorem dL_draft_7 : decode cL_draft 7 = .ok (.i2l, 1) := by decide +kernel
theorem dL_draft_8 : decode cL_draft 8 = .ok (.lastore, 1) := by decide +kernel
theorem dL_draft_9 : decode cL_draft 9 = .ok (.goto 9, 3) := by decide +kernel
theorem dL_draft_12 : decode cL_draft 12 = .ok (.astore_n 3, 1) := by decide +kernel
theorem dL_draft_13 : decode cL_draft 13 = .ok (.iconst 1, 1) := by decide +kernel
theorem dL_draft_14 : decode cL_draft 14 = .ok (.ireturn, 1) := by decide +kernel
theorem dL_draft_15 : decode cL_draft 15 = .ok (.astore_n 3, 1) := by decide +kernel
theorem dL_draft_16 : decode cL_draft 16 = .ok (.iconst 2, 1) := by decide +kernel
theorem dL_draft_17 : decode cL_draft 17 = .ok (.ireturn, 1) := by decide +kernel
theorem dL_draft_18 : decode cL_draft 18 = .ok (.iconst 0, 1) := by decide +kernel
theorem dL_draft_19 : decode cL_draft 19 = .ok (.ireturn, 1) := by decide +kernel
theorem mh_L_draft : pm_mh yL_draft cL_draft 4 (some .int) [(0, 9, 12, 27), (0, 9, 15, 13)] := pt_h_ok 1221 115 (by decide +kernel)
theorem pL_draft {G : pm_G} {cal : pm_Cal} {KR : pm_E} {ini : Bool} {S : pm_S} {x o : Nat} {v1 : Int32} (k : xw G cal RL ini cL_draft (some .int) [(0, 9, 12, 27), (0, 9, 15, 13)] KR 4 (pm_ent [.ref x, .int v1, .ref o] 4) [.int v1, .ref x, .int (Int32.ofInt 0), .ref o] S) : xw G cal RL ini cL_draft (some .int) [(0, 9, 12, 27), (0, 9, 15, 13)] KR 0 (pm_ent [.ref x, .int v1, .ref o] 4) [] S :=
  xw_fn 1 dL_draft_0 rfl rfl (xw_fn 2 dL_draft_1 rfl rfl (xw_fn 3 dL_draft_2 rfl rfl (xw_fn 4 dL_draft_3 rfl rfl (k))))
theorem wL_draft_n {G : pm_G} {D : Nat} {X M M1 : pm_M} {z z1 : Option Nat × Nat × Nat} {x o : Nat} {v1 : Int32} {r : Int32} {n9 : Nat} {f9 : Nat → Value} (hx : M x = some (.inl 11, n9, f9)) {F : Nat → Value} (ho : X o = some (.inr (.long, true), 1, F)) (hM1 : M1 o = none) (hr : pm_run G D false yX11_draft [.ref x, .int v1] (M, z) (.inl (some (.int r))) (M1, z1)) : pm_ruh G D yL_draft [.ref x, .int v1, .ref o] (exS X (M, z)) (some (.int 0)) (exS (pm_up X o (some (.inr (.long, true), 1, pm_up F (Int32.ofInt 0).toNatClampNeg (.long r.toInt64)))) (M1, z1)) := by
  refine xw_ruh mh_L_draft rfl rfl (pL_draft (xw_cv (As := [.int v1]) 7 dL_draft_4 rfl iv_L_50 rfl (Nat.le_of_ble_eq_true rfl) (ex_at hx) cn_11 (ex_run _ _ _ _ _ _ _ hr) ?_))
  refine xw_fn 8 dL_draft_7 rfl rfl (xw_last 9 dL_draft_8 rfl ((ex_none hM1).trans ho) in_0 ?_)
  exact xw_goto 18 dL_draft_9 rfl (xw_fn 19 dL_draft_18 rfl rfl (xw_iret dL_draft_19 rfl rfl ⟨rfl, ex_put hM1⟩))
theorem wL_draft_x {G : pm_G} {D : Nat} {X M M1 : pm_M} {z z1 : Option Nat × Nat × Nat} {x o : Nat} {v1 : Int32} {k : Nat} {e : String} {n9 : Nat} {f9 : Nat → Value} (hx : M x = some (.inl 11, n9, f9)) (hk : ([pm_xB, pm_xI] : List String)[k]? = some e) (hr : pm_run G D false yX11_draft [.ref x, .int v1] (M, z) (.inr e) (M1, z1)) : pm_ruh G D yL_draft [.ref x, .int v1, .ref o] (exS X (M, z)) (some (.int (nn (k + 1)))) (exS X (M1, z1)) := by
  match k, hk with
  | 0, hk =>
    cases hk
    exact xw_ruh mh_L_draft rfl rfl (pL_draft (xw_cx (r9 := .inl (some (.int (nn 1)))) (As := [.int v1]) dL_draft_4 iv_L_50 rfl (Nat.le_of_ble_eq_true rfl) (ex_at hx) cn_11 (ex_run _ _ _ _ _ _ _ hr) (fun KR' hK => Or.inr ⟨[], [(0, 9, 15, 13)], (0, 9, 12, 27), pm_xB, 1, rfl, (fun q hq => by cases hq), by decide, by decide, lk_27, cb_27, by decide, Or.inl ⟨3, Nat.le_of_ble_eq_true rfl, dL_draft_12, dL_draft_13, dL_draft_14⟩, ⟨_, .int, rfl, rfl, rfl, hK⟩⟩) ⟨rfl, rfl⟩))
  | 1, hk =>
    cases hk
    exact xw_ruh mh_L_draft rfl rfl (pL_draft (xw_cx (r9 := .inl (some (.int (nn 2)))) (As := [.int v1]) dL_draft_4 iv_L_50 rfl (Nat.le_of_ble_eq_true rfl) (ex_at hx) cn_11 (ex_run _ _ _ _ _ _ _ hr) (fun KR' hK => Or.inr ⟨[(0, 9, 12, 27)], [], (0, 9, 15, 13), pm_xI, 2, rfl, (fun q hq => by rcases List.mem_cons.mp hq with rfl | hq <;> first | exact Or.inr ⟨by decide, _, lk_27, by decide, by decide⟩ | cases hq), by decide, by decide, lk_13, cb_13, by decide, Or.inl ⟨3, Nat.le_of_ble_eq_true rfl, dL_draft_15, dL_draft_16, dL_draft_17⟩, ⟨_, .int, rfl, rfl, rfl, hK⟩⟩) ⟨rfl, rfl⟩))
  | k + 2, hk => simp at hk
theorem dL_draftBest_0 : decode cL_draftBest 0 = .ok (.aload 4, 2) := by decide +kernel
theorem dL_draftBest_2 : decode cL_draftBest 2 = .ok (.iconst 0, 1) := by decide +kernel
theorem dL_draftBest_3 : decode cL_draftBest 3 = .ok (.aload_n 0, 1) := by decide +kernel
theorem dL_draftBest_4 : decode cL_draftBest 4 = .ok (.iload_n 1, 1) := by decide +kernel
theorem dL_draftBest_5 : decode cL_draftBest 5 = .ok (.iload_n 2, 1) := by decide +kernel
theorem dL_draftBest_6 : decode cL_draftBest 6 = .ok (.iload_n 3, 1) := by decide +kernel
theorem dL_draftBest_7 : decode cL_draftBest 7 = .ok (.invokevirtual 53, 3) := by decide +kernel
theorem dL_draftBest_10 : decode cL_draftBest 10 = .ok (.i2l, 1) := by decide +kernel
theorem dL_draftBest_11 : decode cL_draftBest 11 = .ok (.lastore, 1) := by decide +kernel
theorem dL_draftBest_12 : decode cL_draftBest 12 = .ok (.goto 11, 3) := by decide +kernel
theorem dL_draftBest_15 : decode cL_draftBest 15 = .ok (.astore 5, 2) := by decide +kernel
theorem dL_draftBest_17 : decode cL_draftBest 17 = .ok (.iconst 1, 1) := by decide +kernel
theorem dL_draftBest_18 : decode cL_draftBest 18 = .ok (.ireturn, 1) := by decide +kernel
theorem dL_draftBest_19 : decode cL_draftBest 19 = .ok (.astore 5, 2) := by decide +kernel
theorem dL_draftBest_21 : decode cL_draftBest 21 = .ok (.iconst 2, 1) := by decide +kernel
theorem dL_draftBest_22 : decode cL_draftBest 22 = .ok (.ireturn, 1) := by decide +kernel
theorem dL_draftBest_23 : decode cL_draftBest 23 = .ok (.iconst 0, 1) := by decide +kernel
theorem dL_draftBest_24 : decode cL_draftBest 24 = .ok (.ireturn, 1) := by decide +kernel
theorem mh_L_draftBest : pm_mh yL_draftBest cL_draftBest 6 (some .int) [(0, 12, 15, 27), (0, 12, 19, 18)] := pt_h_ok 1233 115 (by decide +kernel)
theorem pL_draftBest {G : pm_G} {cal : pm_Cal} {KR : pm_E} {ini : Bool} {S : pm_S} {x o : Nat} {v1 v2 v3 : Int32} (k : xw G cal RL ini cL_draftBest (some .int) [(0, 12, 15, 27), (0, 12, 19, 18)] KR 7 (pm_ent [.ref x, .int v1, .int v2, .int v3, .ref o] 6) [.int v3, .int v2, .int v1, .ref x, .int (Int32.ofInt 0), .ref o] S) : xw G cal RL ini cL_draftBest (some .int) [(0, 12, 15, 27), (0, 12, 19, 18)] KR 0 (pm_ent [.ref x, .int v1, .int v2, .int v3, .ref o] 6) [] S :=
  xw_fn 2 dL_draftBest_0 rfl rfl (xw_fn 3 dL_draftBest_2 rfl rfl (xw_fn 4 dL_draftBest_3 rfl rfl (xw_fn 5 dL_draftBest_4 rfl rfl (xw_fn 6 dL_draftBest_5 rfl rfl (xw_fn 7 dL_draftBest_6 rfl rfl (k))))))
theorem wL_draftBest_n {G : pm_G} {D : Nat} {X M M1 : pm_M} {z z1 : Option Nat × Nat × Nat} {x o : Nat} {v1 v2 v3 : Int32} {r : Int32} {n9 : Nat} {f9 : Nat → Value} (hx : M x = some (.inl 11, n9, f9)) {F : Nat → Value} (ho : X o = some (.inr (.long, true), 1, F)) (hM1 : M1 o = none) (hr : pm_run G D false yX11_draftBest [.ref x, .int v1, .int v2, .int v3] (M, z) (.inl (some (.int r))) (M1, z1)) : pm_ruh G D yL_draftBest [.ref x, .int v1, .int v2, .int v3, .ref o] (exS X (M, z)) (some (.int 0)) (exS (pm_up X o (some (.inr (.long, true), 1, pm_up F (Int32.ofInt 0).toNatClampNeg (.long r.toInt64)))) (M1, z1)) := by
  refine xw_ruh mh_L_draftBest rfl rfl (pL_draftBest (xw_cv (As := [.int v1, .int v2, .int v3]) 10 dL_draftBest_7 rfl iv_L_53 rfl (Nat.le_of_ble_eq_true rfl) (ex_at hx) cn_11 (ex_run _ _ _ _ _ _ _ hr) ?_))
  refine xw_fn 11 dL_draftBest_10 rfl rfl (xw_last 12 dL_draftBest_11 rfl ((ex_none hM1).trans ho) in_0 ?_)
  exact xw_goto 23 dL_draftBest_12 rfl (xw_fn 24 dL_draftBest_23 rfl rfl (xw_iret dL_draftBest_24 rfl rfl ⟨rfl, ex_put hM1⟩))
theorem wL_draftBest_x {G : pm_G} {D : Nat} {X M M1 : pm_M} {z z1 : Option Nat × Nat × Nat} {x o : Nat} {v1 v2 v3 : Int32} {k : Nat} {e : String} {n9 : Nat} {f9 : Nat → Value} (hx : M x = some (.inl 11, n9, f9)) (hk : ([pm_xB, pm_xA] : List String)[k]? = some e) (hr : pm_run G D false yX11_draftBest [.ref x, .int v1, .int v2, .int v3] (M, z) (.inr e) (M1, z1)) : pm_ruh G D yL_draftBest [.ref x, .int v1, .int v2, .int v3, .ref o] (exS X (M, z)) (some (.int (nn (k + 1)))) (exS X (M1, z1)) := by
  match k, hk with
  | 0, hk =>
    cases hk
    exact xw_ruh mh_L_draftBest rfl rfl (pL_draftBest (xw_cx (r9 := .inl (some (.int (nn 1)))) (As := [.int v1, .int v2, .int v3]) dL_draftBest_7 iv_L_53 rfl (Nat.le_of_ble_eq_true rfl) (ex_at hx) cn_11 (ex_run _ _ _ _ _ _ _ hr) (fun KR' hK => Or.inr ⟨[], [(0, 12, 19, 18)], (0, 12, 15, 27), pm_xB, 1, rfl, (fun q hq => by cases hq), by decide, by decide, lk_27, cb_27, by decide, Or.inr ⟨5, Nat.le_of_ble_eq_true rfl, dL_draftBest_15, dL_draftBest_17, dL_draftBest_18⟩, ⟨_, .int, rfl, rfl, rfl, hK⟩⟩) ⟨rfl, rfl⟩))
  | 1, hk =>
    cases hk
    exact xw_ruh mh_L_draftBest rfl rfl (pL_draftBest (xw_cx (r9 := .inl (some (.int (nn 2)))) (As := [.int v1, .int v2, .int v3]) dL_draftBest_7 iv_L_53 rfl (Nat.le_of_ble_eq_true rfl) (ex_at hx) cn_11 (ex_run _ _ _ _ _ _ _ hr) (fun KR' hK => Or.inr ⟨[(0, 12, 15, 27)], [], (0, 12, 19, 18), pm_xA, 2, rfl, (fun q hq => by rcases List.mem_cons.mp hq with rfl | hq <;> first | exact Or.inr ⟨by decide, _, lk_27, by decide, by decide⟩ | cases hq), by decide, by decide, lk_18, cb_18, by decide, Or.inr ⟨5, Nat.le_of_ble_eq_true rfl, dL_draftBest_19, dL_draftBest_21, dL_draftBest_22⟩, ⟨_, .int, rfl, rfl, rfl, hK⟩⟩) ⟨rfl, rfl⟩))
  | k + 2, hk => simp at hk
theorem dL_draftNode_0 : decode cL_draftNode 0 = .ok (.aload_n 2, 1) := by decide +kernel
theorem dL_draftNode_1 : decode cL_draftNode 1 = .ok (.iconst 0, 1) := by decide +kernel
theorem dL_draftNode_2 : decode cL_draftNode 2 = .ok (.aload_n 0, 1) := by decide +kernel
theorem dL_draftNode_3 : decode cL_draftNode 3 = .ok (.iload_n 1, 1) := by decide +kernel
theorem dL_draftNode_4 : decode cL_draftNode 4 = .ok (.invokevirtual 56, 3) := by decide +kernel
theorem dL_draftNode_7 : decode cL_draftNode 7 = .ok (.i2l, 1) := by decide +kernel
theorem dL_draftNode_8 : decode cL_draftNode 8 = .ok (.lastore, 1) := by decide +kernel
theorem dL_draftNode_9 : decode cL_draftNode 9 = .ok (.goto 6, 3) := by decide +kernel
theorem dL_draftNode_12 : decode cL_draftNode 12 = .ok (.astore_n 3, 1) := by decide +kernel
theorem dL_draftNode_13 : decode cL_draftNode 13 = .ok (.iconst 1, 1) := by decide +kernel
theorem dL_draftNode_14 : decode cL_draftNode 14 = .ok (.ireturn, 1) := by decide +kernel
theorem dL_draftNode_15 : decode cL_draftNode 15 = .ok (.iconst 0, 1) := by decide +kernel
theorem dL_draftNode_16 : decode cL_draftNode 16 = .ok (.ireturn, 1) := by decide +kernel
theorem mh_L_draftNode : pm_mh yL_draftNode cL_draftNode 4 (some .int) [(0, 9, 12, 27)] := pt_h_ok 1244 115 (by decide +kernel)
theorem pL_draftNode {G : pm_G} {cal : pm_Cal} {KR : pm_E} {ini : Bool} {S : pm_S} {x o : Nat} {v1 : Int32} (k : xw G cal RL ini cL_draftNode (some .int) [(0, 9, 12, 27)] KR 4 (pm_ent [.ref x, .int v1, .ref o] 4) [.int v1, .ref x, .int (Int32.ofInt 0), .ref o] S) : xw G cal RL ini cL_draftNode (some .int) [(0, 9, 12, 27)] KR 0 (pm_ent [.ref x, .int v1, .ref o] 4) [] S :=
  xw_fn 1 dL_draftNode_0 rfl rfl (xw_fn 2 dL_draftNode_1 rfl rfl (xw_fn 3 dL_draftNode_2 rfl rfl (xw_fn 4 dL_draftNode_3 rfl rfl (k))))
theorem wL_draftNode_n {G : pm_G} {D : Nat} {X M M1 : pm_M} {z z1 : Option Nat × Nat × Nat} {x o : Nat} {v1 : Int32} {r : Int32} {n9 : Nat} {f9 : Nat → Value} (hx : M x = some (.inl 11, n9, f9)) {F : Nat → Value} (ho : X o = some (.inr (.long, true), 1, F)) (hM1 : M1 o = none) (hr : pm_run G D false yX11_draftNode [.ref x, .int v1] (M, z) (.inl (some (.int r))) (M1, z1)) : pm_ruh G D yL_draftNode [.ref x, .int v1, .ref o] (exS X (M, z)) (some (.int 0)) (exS (pm_up X o (some (.inr (.long, true), 1, pm_up F (Int32.ofInt 0).toNatClampNeg (.long r.toInt64)))) (M1, z1)) := by
  refine xw_ruh mh_L_draftNode rfl rfl (pL_draftNode (xw_cv (As := [.int v1]) 7 dL_draftNode_4 rfl iv_L_56 rfl (Nat.le_of_ble_eq_true rfl) (ex_at hx) cn_11 (ex_run _ _ _ _ _ _ _ hr) ?_))
  refine xw_fn 8 dL_draftNode_7 rfl rfl (xw_last 9 dL_draftNode_8 rfl ((ex_none hM1).trans ho) in_0 ?_)
  exact xw_goto 15 dL_draftNode_9 rfl (xw_fn 16 dL_draftNode_15 rfl rfl (xw_iret dL_draftNode_16 rfl rfl ⟨rfl, ex_put hM1⟩))
theorem wL_draftNode_x {G : pm_G} {D : Nat} {X M M1 : pm_M} {z z1 : Option Nat × Nat × Nat} {x o : Nat} {v1 : Int32} {k : Nat} {e : String} {n9 : Nat} {f9 : Nat → Value} (hx : M x = some (.inl 11, n9, f9)) (hk : ([pm_xB] : List String)[k]? = some e) (hr : pm_run G D false yX11_draftNode [.ref x, .int v1] (M, z) (.inr e) (M1, z1)) : pm_ruh G D yL_draftNode [.ref x, .int v1, .ref o] (exS X (M, z)) (some (.int (nn (k + 1)))) (exS X (M1, z1)) := by
  match k, hk with
  | 0, hk =>
    cases hk
    exact xw_ruh mh_L_draftNode rfl rfl (pL_draftNode (xw_cx (r9 := .inl (some (.int (nn 1)))) (As := [.int v1]) dL_draftNode_4 iv_L_56 rfl (Nat.le_of_ble_eq_true rfl) (ex_at hx) cn_11 (ex_run _ _ _ _ _ _ _ hr) (fun KR' hK => Or.inr ⟨[], [], (0, 9, 12, 27), pm_xB, 1, rfl, (fun q hq => by cases hq), by decide, by decide, lk_27, cb_27, by decide, Or.inl ⟨3, Nat.le_of_ble_eq_true rfl, dL_draftNode_12, dL_draftNode_13, dL_draftNode_14⟩, ⟨_, .int, rfl, rfl, rfl, hK⟩⟩) ⟨rfl, rfl⟩))
  | k + 1, hk => simp at hk
theorem dL_open_0 : decode cL_open 0 = .ok (.aload_n 3, 1) := by decide +kernel
theorem dL_open_1 : decode cL_open 1 = .ok (.iconst 0, 1) := by decide +kernel
theorem dL_open_2 : decode cL_open 2 = .ok (.aload_n 0, 1) := by decide +kernel
theorem dL_open_3 : decode cL_open 3 = .ok (.iload_n 1, 1) := by decide +kernel
theorem dL_open_4 : decode cL_open 4 = .ok (.iload_n 2, 1) := by decide +kernel
theorem dL_open_5 : decode cL_open 5 = .ok (.invokevirtual 59, 3) := by decide +kernel
theorem dL_open_8 : decode cL_open 8 = .ok (.i2l, 1) := by decide +kernel
theorem dL_open_9 : decode cL_open 9 = .ok (.lastore, 1) := by decide +kernel
theorem dL_open_10 : decode cL_open 10 = .ok (.goto 7, 3) := by decide +kernel
theorem dL_open_13 : decode cL_open 13 = .ok (.astore 4, 2) := by decide +kernel
theorem dL_open_15 : decode cL_open 15 = .ok (.iconst 1, 1) := by decide +kernel
theorem dL_open_16 : decode cL_open 16 = .ok (.ireturn, 1) := by decide +kernel
theorem dL_open_17 : decode cL_open 17 = .ok (.iconst 0, 1) := by decide +kernel
theorem dL_open_18 : decode cL_open 18 = .ok (.ireturn, 1) := by decide +kernel
theorem mh_L_open : pm_mh yL_open cL_open 5 (some .int) [(0, 10, 13, 18)] := pt_h_ok 1256 115 (by decide +kernel)
theorem pL_open {G : pm_G} {cal : pm_Cal} {KR : pm_E} {ini : Bool} {S : pm_S} {x o : Nat} {v1 v2 : Int32} (k : xw G cal RL ini cL_open (some .int) [(0, 10, 13, 18)] KR 5 (pm_ent [.ref x, .int v1, .int v2, .ref o] 5) [.int v2, .int v1, .ref x, .int (Int32.ofInt 0), .ref o] S) : xw G cal RL ini cL_open (some .int) [(0, 10, 13, 18)] KR 0 (pm_ent [.ref x, .int v1, .int v2, .ref o] 5) [] S :=
  xw_fn 1 dL_open_0 rfl rfl (xw_fn 2 dL_open_1 rfl rfl (xw_fn 3 dL_open_2 rfl rfl (xw_fn 4 dL_open_3 rfl rfl (xw_fn 5 dL_open_4 rfl rfl (k)))))
theorem wL_open_n {G : pm_G} {D : Nat} {X M M1 : pm_M} {z z1 : Option Nat × Nat × Nat} {x o : Nat} {v1 v2 : Int32} {r : Int32} {n9 : Nat} {f9 : Nat → Value} (hx : M x = some (.inl 11, n9, f9)) {F : Nat → Value} (ho : X o = some (.inr (.long, true), 1, F)) (hM1 : M1 o = none) (hr : pm_run G D false yX11_open [.ref x, .int v1, .int v2] (M, z) (.inl (some (.int r))) (M1, z1)) : pm_ruh G D yL_open [.ref x, .int v1, .int v2, .ref o] (exS X (M, z)) (some (.int 0)) (exS (pm_up X o (some (.inr (.long, true), 1, pm_up F (Int32.ofInt 0).toNatClampNeg (.long r.toInt64)))) (M1, z1)) := by
  refine xw_ruh mh_L_open rfl rfl (pL_open (xw_cv (As := [.int v1, .int v2]) 8 dL_open_5 rfl iv_L_59 rfl (Nat.le_of_ble_eq_true rfl) (ex_at hx) cn_11 (ex_run _ _ _ _ _ _ _ hr) ?_))
  refine xw_fn 9 dL_open_8 rfl rfl (xw_last 10 dL_open_9 rfl ((ex_none hM1).trans ho) in_0 ?_)
  exact xw_goto 17 dL_open_10 rfl (xw_fn 18 dL_open_17 rfl rfl (xw_iret dL_open_18 rfl rfl ⟨rfl, ex_put hM1⟩))
theorem wL_open_x {G : pm_G} {D : Nat} {X M M1 : pm_M} {z z1 : Option Nat × Nat × Nat} {x o : Nat} {v1 v2 : Int32} {k : Nat} {e : String} {n9 : Nat} {f9 : Nat → Value} (hx : M x = some (.inl 11, n9, f9)) (hk : ([pm_xA] : List String)[k]? = some e) (hr : pm_run G D false yX11_open [.ref x, .int v1, .int v2] (M, z) (.inr e) (M1, z1)) : pm_ruh G D yL_open [.ref x, .int v1, .int v2, .ref o] (exS X (M, z)) (some (.int (nn (k + 1)))) (exS X (M1, z1)) := by
  match k, hk with
  | 0, hk =>
    cases hk
    exact xw_ruh mh_L_open rfl rfl (pL_open (xw_cx (r9 := .inl (some (.int (nn 1)))) (As := [.int v1, .int v2]) dL_open_5 iv_L_59 rfl (Nat.le_of_ble_eq_true rfl) (ex_at hx) cn_11 (ex_run _ _ _ _ _ _ _ hr) (fun KR' hK => Or.inr ⟨[], [], (0, 10, 13, 18), pm_xA, 1, rfl, (fun q hq => by cases hq), by decide, by decide, lk_18, cb_18, by decide, Or.inr ⟨4, Nat.le_of_ble_eq_true rfl, dL_open_13, dL_open_15, dL_open_16⟩, ⟨_, .int, rfl, rfl, rfl, hK⟩⟩) ⟨rfl, rfl⟩))
  | k + 1, hk => simp at hk
theorem dL_close_0 : decode cL_close 0 = .ok (.aload_n 2, 1) := by decide +kernel
theorem dL_close_1 : decode cL_close 1 = .ok (.iconst 0, 1) := by decide +kernel
theorem dL_close_2 : decode cL_close 2 = .ok (.aload_n 0, 1) := by decide +kernel
theorem dL_close_3 : decode cL_close 3 = .ok (.iload_n 1, 1) := by decide +kernel
theorem dL_close_4 : decode cL_close 4 = .ok (.invokevirtual 62, 3) := by decide +kernel
theorem dL_close_7 : decode cL_close 7 = .ok (.i2l, 1) := by decide +kernel
theorem dL_close_8 : decode cL_close 8 = .ok (.lastore, 1) := by decide +kernel
theorem dL_close_9 : decode cL_close 9 = .ok (.goto 6, 3) := by decide +kernel
theorem dL_close_12 : decode cL_close 12 = .ok (.astore_n 3, 1) := by decide +kernel
theorem dL_close_13 : decode cL_close 13 = .ok (.iconst 1, 1) := by decide +kernel
theorem dL_close_14 : decode cL_close 14 = .ok (.ireturn, 1) := by decide +kernel
theorem dL_close_15 : decode cL_close 15 = .ok (.iconst 0, 1) := by decide +kernel
theorem dL_close_16 : decode cL_close 16 = .ok (.ireturn, 1) := by decide +kernel
theorem mh_L_close : pm_mh yL_close cL_close 4 (some .int) [(0, 9, 12, 27)] := pt_h_ok 1292 115 (by decide +kernel)
theorem pL_close {G : pm_G} {cal : pm_Cal} {KR : pm_E} {ini : Bool} {S : pm_S} {x o : Nat} {v1 : Int32} (k : xw G cal RL ini cL_close (some .int) [(0, 9, 12, 27)] KR 4 (pm_ent [.ref x, .int v1, .ref o] 4) [.int v1, .ref x, .int (Int32.ofInt 0), .ref o] S) : xw G cal RL ini cL_close (some .int) [(0, 9, 12, 27)] KR 0 (pm_ent [.ref x, .int v1, .ref o] 4) [] S :=
  xw_fn 1 dL_close_0 rfl rfl (xw_fn 2 dL_close_1 rfl rfl (xw_fn 3 dL_close_2 rfl rfl (xw_fn 4 dL_close_3 rfl rfl (k))))
theorem wL_close_n {G : pm_G} {D : Nat} {X M M1 : pm_M} {z z1 : Option Nat × Nat × Nat} {x o : Nat} {v1 : Int32} {r : Int32} {n9 : Nat} {f9 : Nat → Value} (hx : M x = some (.inl 11, n9, f9)) {F : Nat → Value} (ho : X o = some (.inr (.long, true), 1, F)) (hM1 : M1 o = none) (hr : pm_run G D false yX11_close [.ref x, .int v1] (M, z) (.inl (some (.int r))) (M1, z1)) : pm_ruh G D yL_close [.ref x, .int v1, .ref o] (exS X (M, z)) (some (.int 0)) (exS (pm_up X o (some (.inr (.long, true), 1, pm_up F (Int32.ofInt 0).toNatClampNeg (.long r.toInt64)))) (M1, z1)) := by
  refine xw_ruh mh_L_close rfl rfl (pL_close (xw_cv (As := [.int v1]) 7 dL_close_4 rfl iv_L_62 rfl (Nat.le_of_ble_eq_true rfl) (ex_at hx) cn_11 (ex_run _ _ _ _ _ _ _ hr) ?_))
  refine xw_fn 8 dL_close_7 rfl rfl (xw_last 9 dL_close_8 rfl ((ex_none hM1).trans ho) in_0 ?_)
  exact xw_goto 15 dL_close_9 rfl (xw_fn 16 dL_close_15 rfl rfl (xw_iret dL_close_16 rfl rfl ⟨rfl, ex_put hM1⟩))
theorem wL_close_x {G : pm_G} {D : Nat} {X M M1 : pm_M} {z z1 : Option Nat × Nat × Nat} {x o : Nat} {v1 : Int32} {k : Nat} {e : String} {n9 : Nat} {f9 : Nat → Value} (hx : M x = some (.inl 11, n9, f9)) (hk : ([pm_xB] : List String)[k]? = some e) (hr : pm_run G D false yX11_close [.ref x, .int v1] (M, z) (.inr e) (M1, z1)) : pm_ruh G D yL_close [.ref x, .int v1, .ref o] (exS X (M, z)) (some (.int (nn (k + 1)))) (exS X (M1, z1)) := by
  match k, hk with
  | 0, hk =>
    cases hk
    exact xw_ruh mh_L_close rfl rfl (pL_close (xw_cx (r9 := .inl (some (.int (nn 1)))) (As := [.int v1]) dL_close_4 iv_L_62 rfl (Nat.le_of_ble_eq_true rfl) (ex_at hx) cn_11 (ex_run _ _ _ _ _ _ _ hr) (fun KR' hK => Or.inr ⟨[], [], (0, 9, 12, 27), pm_xB, 1, rfl, (fun q hq => by cases hq), by decide, by decide, lk_27, cb_27, by decide, Or.inl ⟨3, Nat.le_of_ble_eq_true rfl, dL_close_12, dL_close_13, dL_close_14⟩, ⟨_, .int, rfl, rfl, rfl, hK⟩⟩) ⟨rfl, rfl⟩))
  | k + 1, hk => simp at hk
theorem dL_move_0 : decode cL_move 0 = .ok (.aload_n 2, 1) := by decide +kernel
theorem dL_move_1 : decode cL_move 1 = .ok (.iconst 0, 1) := by decide +kernel
theorem dL_move_2 : decode cL_move 2 = .ok (.aload_n 0, 1) := by decide +kernel
theorem dL_move_3 : decode cL_move 3 = .ok (.iload_n 1, 1) := by decide +kernel
theorem dL_move_4 : decode cL_move 4 = .ok (.invokevirtual 65, 3) := by decide +kernel
theorem dL_move_7 : decode cL_move 7 = .ok (.i2l, 1) := by decide +kernel
theorem dL_move_8 : decode cL_move 8 = .ok (.lastore, 1) := by decide +kernel
theorem dL_move_9 : decode cL_move 9 = .ok (.goto 6, 3) := by decide +kernel
theorem dL_move_12 : decode cL_move 12 = .ok (.astore_n 3, 1) := by decide +kernel
theorem dL_move_13 : decode cL_move 13 = .ok (.iconst 1, 1) := by decide +kernel
theorem dL_move_14 : decode cL_move 14 = .ok (.ireturn, 1) := by decide +kernel
theorem dL_move_15 : decode cL_move 15 = .ok (.iconst 0, 1) := by decide +kernel
theorem dL_move_16 : decode cL_move 16 = .ok (.ireturn, 1) := by decide +kernel
theorem mh_L_move : pm_mh yL_move cL_move 4 (some .int) [(0, 9, 12, 27)] := pt_h_ok 1317 115 (by decide +kernel)
theorem pL_move {G : pm_G} {cal : pm_Cal} {KR : pm_E} {ini : Bool} {S : pm_S} {x o : Nat} {v1 : Int32} (k : xw G cal RL ini cL_move (some .int) [(0, 9, 12, 27)] KR 4 (pm_ent [.ref x, .int v1, .ref o] 4) [.int v1, .ref x, .int (Int32.ofInt 0), .ref o] S) : xw G cal RL ini cL_move (some .int) [(0, 9, 12, 27)] KR 0 (pm_ent [.ref x, .int v1, .ref o] 4) [] S :=
  xw_fn 1 dL_move_0 rfl rfl (xw_fn 2 dL_move_1 rfl rfl (xw_fn 3 dL_move_2 rfl rfl (xw_fn 4 dL_move_3 rfl rfl (k))))
theorem wL_move_n {G : pm_G} {D : Nat} {X M M1 : pm_M} {z z1 : Option Nat × Nat × Nat} {x o : Nat} {v1 : Int32} {r : Int32} {n9 : Nat} {f9 : Nat → Value} (hx : M x = some (.inl 11, n9, f9)) {F : Nat → Value} (ho : X o = some (.inr (.long, true), 1, F)) (hM1 : M1 o = none) (hr : pm_run G D false yX11_move [.ref x, .int v1] (M, z) (.inl (some (.int r))) (M1, z1)) : pm_ruh G D yL_move [.ref x, .int v1, .ref o] (exS X (M, z)) (some (.int 0)) (exS (pm_up X o (some (.inr (.long, true), 1, pm_up F (Int32.ofInt 0).toNatClampNeg (.long r.toInt64)))) (M1, z1)) := by
  refine xw_ruh mh_L_move rfl rfl (pL_move (xw_cv (As := [.int v1]) 7 dL_move_4 rfl iv_L_65 rfl (Nat.le_of_ble_eq_true rfl) (ex_at hx) cn_11 (ex_run _ _ _ _ _ _ _ hr) ?_))
  refine xw_fn 8 dL_move_7 rfl rfl (xw_last 9 dL_move_8 rfl ((ex_none hM1).trans ho) in_0 ?_)
  exact xw_goto 15 dL_move_9 rfl (xw_fn 16 dL_move_15 rfl rfl (xw_iret dL_move_16 rfl rfl ⟨rfl, ex_put hM1⟩))
theorem wL_move_x {G : pm_G} {D : Nat} {X M M1 : pm_M} {z z1 : Option Nat × Nat × Nat} {x o : Nat} {v1 : Int32} {k : Nat} {e : String} {n9 : Nat} {f9 : Nat → Value} (hx : M x = some (.inl 11, n9, f9)) (hk : ([pm_xB] : List String)[k]? = some e) (hr : pm_run G D false yX11_move [.ref x, .int v1] (M, z) (.inr e) (M1, z1)) : pm_ruh G D yL_move [.ref x, .int v1, .ref o] (exS X (M, z)) (some (.int (nn (k + 1)))) (exS X (M1, z1)) := by
  match k, hk with
  | 0, hk =>
    cases hk
    exact xw_ruh mh_L_move rfl rfl (pL_move (xw_cx (r9 := .inl (some (.int (nn 1)))) (As := [.int v1]) dL_move_4 iv_L_65 rfl (Nat.le_of_ble_eq_true rfl) (ex_at hx) cn_11 (ex_run _ _ _ _ _ _ _ hr) (fun KR' hK => Or.inr ⟨[], [], (0, 9, 12, 27), pm_xB, 1, rfl, (fun q hq => by cases hq), by decide, by decide, lk_27, cb_27, by decide, Or.inl ⟨3, Nat.le_of_ble_eq_true rfl, dL_move_12, dL_move_13, dL_move_14⟩, ⟨_, .int, rfl, rfl, rfl, hK⟩⟩) ⟨rfl, rfl⟩))
  | k + 1, hk => simp at hk
theorem dL_moveBest_0 : decode cL_moveBest 0 = .ok (.aload_n 3, 1) := by decide +kernel
theorem dL_moveBest_1 : decode cL_moveBest 1 = .ok (.iconst 0, 1) := by decide +kernel
theorem dL_moveBest_2 : decode cL_moveBest 2 = .ok (.aload_n 0, 1) := by decide +kernel
theorem dL_moveBest_3 : decode cL_moveBest 3 = .ok (.iload_n 1, 1) := by decide +kernel
theorem dL_moveBest_4 : decode cL_moveBest 4 = .ok (.iload_n 2, 1) := by decide +kernel
theorem dL_moveBest_5 : decode cL_moveBest 5 = .ok (.invokevirtual 68, 3) := by decide +kernel
theorem dL_moveBest_8 : decode cL_moveBest 8 = .ok (.i2l, 1) := by decide +kernel
theorem dL_moveBest_9 : decode cL_moveBest 9 = .ok (.lastore, 1) := by decide +kernel
theorem dL_moveBest_10 : decode cL_moveBest 10 = .ok (.goto 7, 3) := by decide +kernel
theorem dL_moveBest_13 : decode cL_moveBest 13 = .ok (.astore 4, 2) := by decide +kernel
theorem dL_moveBest_15 : decode cL_moveBest 15 = .ok (.iconst 1, 1) := by decide +kernel
theorem dL_moveBest_16 : decode cL_moveBest 16 = .ok (.ireturn, 1) := by decide +kernel
theorem dL_moveBest_17 : decode cL_moveBest 17 = .ok (.iconst 0, 1) := by decide +kernel
theorem dL_moveBest_18 : decode cL_moveBest 18 = .ok (.ireturn, 1) := by decide +kernel
theorem mh_L_moveBest : pm_mh yL_moveBest cL_moveBest 5 (some .int) [(0, 10, 13, 27)] := pt_h_ok 1339 115 (by decide +kernel)
theorem pL_moveBest {G : pm_G} {cal : pm_Cal} {KR : pm_E} {ini : Bool} {S : pm_S} {x o : Nat} {v1 v2 : Int32} (k : xw G cal RL ini cL_moveBest (some .int) [(0, 10, 13, 27)] KR 5 (pm_ent [.ref x, .int v1, .int v2, .ref o] 5) [.int v2, .int v1, .ref x, .int (Int32.ofInt 0), .ref o] S) : xw G cal RL ini cL_moveBest (some .int) [(0, 10, 13, 27)] KR 0 (pm_ent [.ref x, .int v1, .int v2, .ref o] 5) [] S :=
  xw_fn 1 dL_moveBest_0 rfl rfl (xw_fn 2 dL_moveBest_1 rfl rfl (xw_fn 3 dL_moveBest_2 rfl rfl (xw_fn 4 dL_moveBest_3 rfl rfl (xw_fn 5 dL_moveBest_4 rfl rfl (k)))))
theorem wL_moveBest_n {G : pm_G} {D : Nat} {X M M1 : pm_M} {z z1 : Option Nat × Nat × Nat} {x o : Nat} {v1 v2 : Int32} {r : Int32} {n9 : Nat} {f9 : Nat → Value} (hx : M x = some (.inl 11, n9, f9)) {F : Nat → Value} (ho : X o = some (.inr (.long, true), 1, F)) (hM1 : M1 o = none) (hr : pm_run G D false yX11_moveBest [.ref x, .int v1, .int v2] (M, z) (.inl (some (.int r))) (M1, z1)) : pm_ruh G D yL_moveBest [.ref x, .int v1, .int v2, .ref o] (exS X (M, z)) (some (.int 0)) (exS (pm_up X o (some (.inr (.long, true), 1, pm_up F (Int32.ofInt 0).toNatClampNeg (.long r.toInt64)))) (M1, z1)) := by
  refine xw_ruh mh_L_moveBest rfl rfl (pL_moveBest (xw_cv (As := [.int v1, .int v2]) 8 dL_moveBest_5 rfl iv_L_68 rfl (Nat.le_of_ble_eq_true rfl) (ex_at hx) cn_11 (ex_run _ _ _ _ _ _ _ hr) ?_))
  refine xw_fn 9 dL_moveBest_8 rfl rfl (xw_last 10 dL_moveBest_9 rfl ((ex_none hM1).trans ho) in_0 ?_)
  exact xw_goto 17 dL_moveBest_10 rfl (xw_fn 18 dL_moveBest_17 rfl rfl (xw_iret dL_moveBest_18 rfl rfl ⟨rfl, ex_put hM1⟩))
theorem wL_moveBest_x {G : pm_G} {D : Nat} {X M M1 : pm_M} {z z1 : Option Nat × Nat × Nat} {x o : Nat} {v1 v2 : Int32} {k : Nat} {e : String} {n9 : Nat} {f9 : Nat → Value} (hx : M x = some (.inl 11, n9, f9)) (hk : ([pm_xB] : List String)[k]? = some e) (hr : pm_run G D false yX11_moveBest [.ref x, .int v1, .int v2] (M, z) (.inr e) (M1, z1)) : pm_ruh G D yL_moveBest [.ref x, .int v1, .int v2, .ref o] (exS X (M, z)) (some (.int (nn (k + 1)))) (exS X (M1, z1)) := by
  match k, hk with
  | 0, hk =>
    cases hk
    exact xw_ruh mh_L_moveBest rfl rfl (pL_moveBest (xw_cx (r9 := .inl (some (.int (nn 1)))) (As := [.int v1, .int v2]) dL_moveBest_5 iv_L_68 rfl (Nat.le_of_ble_eq_true rfl) (ex_at hx) cn_11 (ex_run _ _ _ _ _ _ _ hr) (fun KR' hK => Or.inr ⟨[], [], (0, 10, 13, 27), pm_xB, 1, rfl, (fun q hq => by cases hq), by decide, by decide, lk_27, cb_27, by decide, Or.inr ⟨4, Nat.le_of_ble_eq_true rfl, dL_moveBest_13, dL_moveBest_15, dL_moveBest_16⟩, ⟨_, .int, rfl, rfl, rfl, hK⟩⟩) ⟨rfl, rfl⟩))
  | k + 1, hk => simp at hk
theorem dL_abort_0 : decode cL_abort 0 = .ok (.aload_n 2, 1) := by decide +kernel
theorem dL_abort_1 : decode cL_abort 1 = .ok (.iconst 0, 1) := by decide +kernel
theorem dL_abort_2 : decode cL_abort 2 = .ok (.aload_n 0, 1) := by decide +kernel
theorem dL_abort_3 : decode cL_abort 3 = .ok (.iload_n 1, 1) := by decide +kernel
theorem dL_abort_4 : decode cL_abort 4 = .ok (.invokevirtual 71, 3) := by decide +kernel
theorem dL_abort_7 : decode cL_abort 7 = .ok (.i2l, 1) := by decide +kernel
theorem dL_abort_8 : decode cL_abort 8 = .ok (.lastore, 1) := by decide +kernel
theorem dL_abort_9 : decode cL_abort 9 = .ok (.goto 6, 3) := by decide +kernel
theorem dL_abort_12 : decode cL_abort 12 = .ok (.astore_n 3, 1) := by decide +kernel
theorem dL_abort_13 : decode cL_abort 13 = .ok (.iconst 1, 1) := by decide +kernel
theorem dL_abort_14 : decode cL_abort 14 = .ok (.ireturn, 1) := by decide +kernel
theorem dL_abort_15 : decode cL_abort 15 = .ok (.iconst 0, 1) := by decide +kernel
theorem dL_abort_16 : decode cL_abort 16 = .ok (.ireturn, 1) := by decide +kernel
theorem mh_L_abort : pm_mh yL_abort cL_abort 4 (some .int) [(0, 9, 12, 27)] := pt_h_ok 1354 115 (by decide +kernel)
theorem pL_abort {G : pm_G} {cal : pm_Cal} {KR : pm_E} {ini : Bool} {S : pm_S} {x o : Nat} {v1 : Int32} (k : xw G cal RL ini cL_abort (some .int) [(0, 9, 12, 27)] KR 4 (pm_ent [.ref x, .int v1, .ref o] 4) [.int v1, .ref x, .int (Int32.ofInt 0), .ref o] S) : xw G cal RL ini cL_abort (some .int) [(0, 9, 12, 27)] KR 0 (pm_ent [.ref x, .int v1, .ref o] 4) [] S :=
  xw_fn 1 dL_abort_0 rfl rfl (xw_fn 2 dL_abort_1 rfl rfl (xw_fn 3 dL_abort_2 rfl rfl (xw_fn 4 dL_abort_3 rfl rfl (k))))
theorem wL_abort_n {G : pm_G} {D : Nat} {X M M1 : pm_M} {z z1 : Option Nat × Nat × Nat} {x o : Nat} {v1 : Int32} {r : Int32} {n9 : Nat} {f9 : Nat → Value} (hx : M x = some (.inl 11, n9, f9)) {F : Nat → Value} (ho : X o = some (.inr (.long, true), 1, F)) (hM1 : M1 o = none) (hr : pm_run G D false yX11_abort [.ref x, .int v1] (M, z) (.inl (some (.int r))) (M1, z1)) : pm_ruh G D yL_abort [.ref x, .int v1, .ref o] (exS X (M, z)) (some (.int 0)) (exS (pm_up X o (some (.inr (.long, true), 1, pm_up F (Int32.ofInt 0).toNatClampNeg (.long r.toInt64)))) (M1, z1)) := by
  refine xw_ruh mh_L_abort rfl rfl (pL_abort (xw_cv (As := [.int v1]) 7 dL_abort_4 rfl iv_L_71 rfl (Nat.le_of_ble_eq_true rfl) (ex_at hx) cn_11 (ex_run _ _ _ _ _ _ _ hr) ?_))
  refine xw_fn 8 dL_abort_7 rfl rfl (xw_last 9 dL_abort_8 rfl ((ex_none hM1).trans ho) in_0 ?_)
  exact xw_goto 15 dL_abort_9 rfl (xw_fn 16 dL_abort_15 rfl rfl (xw_iret dL_abort_16 rfl rfl ⟨rfl, ex_put hM1⟩))
theorem wL_abort_x {G : pm_G} {D : Nat} {X M M1 : pm_M} {z z1 : Option Nat × Nat × Nat} {x o : Nat} {v1 : Int32} {k : Nat} {e : String} {n9 : Nat} {f9 : Nat → Value} (hx : M x = some (.inl 11, n9, f9)) (hk : ([pm_xB] : List String)[k]? = some e) (hr : pm_run G D false yX11_abort [.ref x, .int v1] (M, z) (.inr e) (M1, z1)) : pm_ruh G D yL_abort [.ref x, .int v1, .ref o] (exS X (M, z)) (some (.int (nn (k + 1)))) (exS X (M1, z1)) := by
  match k, hk with
  | 0, hk =>
    cases hk
    exact xw_ruh mh_L_abort rfl rfl (pL_abort (xw_cx (r9 := .inl (some (.int (nn 1)))) (As := [.int v1]) dL_abort_4 iv_L_71 rfl (Nat.le_of_ble_eq_true rfl) (ex_at hx) cn_11 (ex_run _ _ _ _ _ _ _ hr) (fun KR' hK => Or.inr ⟨[], [], (0, 9, 12, 27), pm_xB, 1, rfl, (fun q hq => by cases hq), by decide, by decide, lk_27, cb_27, by decide, Or.inl ⟨3, Nat.le_of_ble_eq_true rfl, dL_abort_12, dL_abort_13, dL_abort_14⟩, ⟨_, .int, rfl, rfl, rfl, hK⟩⟩) ⟨rfl, rfl⟩))
  | k + 1, hk => simp at hk
theorem dL_offer_0 : decode cL_offer 0 = .ok (.aload_n 3, 1) := by decide +kernel
theorem dL_offer_1 : decode cL_offer 1 = .ok (.iconst 0, 1) := by decide +kernel
theorem dL_offer_2 : decode cL_offer 2 = .ok (.aload_n 0, 1) := by decide +kernel
theorem dL_offer_3 : decode cL_offer 3 = .ok (.iload_n 1, 1) := by decide +kernel
theorem dL_offer_4 : decode cL_offer 4 = .ok (.iload_n 2, 1) := by decide +kernel
theorem dL_offer_5 : decode cL_offer 5 = .ok (.invokevirtual 74, 3) := by decide +kernel
theorem dL_offer_8 : decode cL_offer 8 = .ok (.i2l, 1) := by decide +kernel
theorem dL_offer_9 : decode cL_offer 9 = .ok (.lastore, 1) := by decide +kernel
theorem dL_offer_10 : decode cL_offer 10 = .ok (.goto 11, 3) := by decide +kernel
theorem dL_offer_13 : decode cL_offer 13 = .ok (.astore 4, 2) := by decide +kernel
theorem dL_offer_15 : decode cL_offer 15 = .ok (.iconst 1, 1) := by decide +kernel
theorem dL_offer_16 : decode cL_offer 16 = .ok (.ireturn, 1) := by decide +kernel
theorem dL_offer_17 : decode cL_offer 17 = .ok (.astore 4, 2) := by decide +kernel
theorem dL_offer_19 : decode cL_offer 19 = .ok (.iconst 2, 1) := by decide +kernel
theorem dL_offer_20 : decode cL_offer 20 = .ok (.ireturn, 1) := by decide +kernel
theorem dL_offer_21 : decode cL_offer 21 = .ok (.iconst 0, 1) := by decide +kernel
theorem dL_offer_22 : decode cL_offer 22 = .ok (.ireturn, 1) := by decide +kernel
theorem mh_L_offer : pm_mh yL_offer cL_offer 5 (some .int) [(0, 10, 13, 27), (0, 10, 17, 18)] := pt_h_ok 1365 115 (by decide +kernel)
theorem pL_offer {G : pm_G} {cal : pm_Cal} {KR : pm_E} {ini : Bool} {S : pm_S} {x o : Nat} {v1 v2 : Int32} (k : xw G cal RL ini cL_offer (some .int) [(0, 10, 13, 27), (0, 10, 17, 18)] KR 5 (pm_ent [.ref x, .int v1, .int v2, .ref o] 5) [.int v2, .int v1, .ref x, .int (Int32.ofInt 0), .ref o] S) : xw G cal RL ini cL_offer (some .int) [(0, 10, 13, 27), (0, 10, 17, 18)] KR 0 (pm_ent [.ref x, .int v1, .int v2, .ref o] 5) [] S :=
  xw_fn 1 dL_offer_0 rfl rfl (xw_fn 2 dL_offer_1 rfl rfl (xw_fn 3 dL_offer_2 rfl rfl (xw_fn 4 dL_offer_3 rfl rfl (xw_fn 5 dL_offer_4 rfl rfl (k)))))
theorem wL_offer_n {G : pm_G} {D : Nat} {X M M1 : pm_M} {z z1 : Option Nat × Nat × Nat} {x o : Nat} {v1 v2 : Int32} {r : Int32} {n9 : Nat} {f9 : Nat → Value} (hx : M x = some (.inl 11, n9, f9)) {F : Nat → Value} (ho : X o = some (.inr (.long, true), 1, F)) (hM1 : M1 o = none) (hr : pm_run G D false yX11_offer [.ref x, .int v1, .int v2] (M, z) (.inl (some (.int r))) (M1, z1)) : pm_ruh G D yL_offer [.ref x, .int v1, .int v2, .ref o] (exS X (M, z)) (some (.int 0)) (exS (pm_up X o (some (.inr (.long, true), 1, pm_up F (Int32.ofInt 0).toNatClampNeg (.long r.toInt64)))) (M1, z1)) := by
  refine xw_ruh mh_L_offer rfl rfl (pL_offer (xw_cv (As := [.int v1, .int v2]) 8 dL_offer_5 rfl iv_L_74 rfl (Nat.le_of_ble_eq_true rfl) (ex_at hx) cn_11 (ex_run _ _ _ _ _ _ _ hr) ?_))
  refine xw_fn 9 dL_offer_8 rfl rfl (xw_last 10 dL_offer_9 rfl ((ex_none hM1).trans ho) in_0 ?_)
  exact xw_goto 21 dL_offer_10 rfl (xw_fn 22 dL_offer_21 rfl rfl (xw_iret dL_offer_22 rfl rfl ⟨rfl, ex_put hM1⟩))
theorem wL_offer_x {G : pm_G} {D : Nat} {X M M1 : pm_M} {z z1 : Option Nat × Nat × Nat} {x o : Nat} {v1 v2 : Int32} {k : Nat} {e : String} {n9 : Nat} {f9 : Nat → Value} (hx : M x = some (.inl 11, n9, f9)) (hk : ([pm_xB, pm_xA] : List String)[k]? = some e) (hr : pm_run G D false yX11_offer [.ref x, .int v1, .int v2] (M, z) (.inr e) (M1, z1)) : pm_ruh G D yL_offer [.ref x, .int v1, .int v2, .ref o] (exS X (M, z)) (some (.int (nn (k + 1)))) (exS X (M1, z1)) := by
  match k, hk with
  | 0, hk =>
    cases hk
    exact xw_ruh mh_L_offer rfl rfl (pL_offer (xw_cx (r9 := .inl (some (.int (nn 1)))) (As := [.int v1, .int v2]) dL_offer_5 iv_L_74 rfl (Nat.le_of_ble_eq_true rfl) (ex_at hx) cn_11 (ex_run _ _ _ _ _ _ _ hr) (fun KR' hK => Or.inr ⟨[], [(0, 10, 17, 18)], (0, 10, 13, 27), pm_xB, 1, rfl, (fun q hq => by cases hq), by decide, by decide, lk_27, cb_27, by decide, Or.inr ⟨4, Nat.le_of_ble_eq_true rfl, dL_offer_13, dL_offer_15, dL_offer_16⟩, ⟨_, .int, rfl, rfl, rfl, hK⟩⟩) ⟨rfl, rfl⟩))
  | 1, hk =>
    cases hk
    exact xw_ruh mh_L_offer rfl rfl (pL_offer (xw_cx (r9 := .inl (some (.int (nn 2)))) (As := [.int v1, .int v2]) dL_offer_5 iv_L_74 rfl (Nat.le_of_ble_eq_true rfl) (ex_at hx) cn_11 (ex_run _ _ _ _ _ _ _ hr) (fun KR' hK => Or.inr ⟨[(0, 10, 13, 27)], [], (0, 10, 17, 18), pm_xA, 2, rfl, (fun q hq => by rcases List.mem_cons.mp hq with rfl | hq <;> first | exact Or.inr ⟨by decide, _, lk_27, by decide, by decide⟩ | cases hq), by decide, by decide, lk_18, cb_18, by decide, Or.inr ⟨4, Nat.le_of_ble_eq_true rfl, dL_offer_17, dL_offer_19, dL_offer_20⟩, ⟨_, .int, rfl, rfl, rfl, hK⟩⟩) ⟨rfl, rfl⟩))
  | k + 2, hk => simp at hk
theorem dL_run_0 : decode cL_run 0 = .ok (.aload_n 2, 1) := by decide +kernel
theorem dL_run_1 : decode cL_run 1 = .ok (.iconst 0, 1) := by decide +kernel
theorem dL_run_2 : decode cL_run 2 = .ok (.aload_n 0, 1) := by decide +kernel
theorem dL_run_3 : decode cL_run 3 = .ok (.iload_n 1, 1) := by decide +kernel
theorem dL_run_4 : decode cL_run 4 = .ok (.invokevirtual 77, 3) := by decide +kernel
theorem dL_run_7 : decode cL_run 7 = .ok (.i2l, 1) := by decide +kernel
theorem dL_run_8 : decode cL_run 8 = .ok (.lastore, 1) := by decide +kernel
theorem dL_run_9 : decode cL_run 9 = .ok (.goto 6, 3) := by decide +kernel
theorem dL_run_12 : decode cL_run 12 = .ok (.astore_n 3, 1) := by decide +kernel
theorem dL_run_13 : decode cL_run 13 = .ok (.iconst 1, 1) := by decide +kernel
theorem dL_run_14 : decode cL_run 14 = .ok (.ireturn, 1) := by decide +kernel
theorem dL_run_15 : decode cL_run 15 = .ok (.iconst 0, 1) := by decide +kernel
theorem dL_run_16 : decode cL_run 16 = .ok (.ireturn, 1) := by decide +kernel
theorem mh_L_run : pm_mh yL_run cL_run 4 (some .int) [(0, 9, 12, 18)] := pt_h_ok 1378 115 (by decide +kernel)
theorem pL_run {G : pm_G} {cal : pm_Cal} {KR : pm_E} {ini : Bool} {S : pm_S} {x o : Nat} {v1 : Int32} (k : xw G cal RL ini cL_run (some .int) [(0, 9, 12, 18)] KR 4 (pm_ent [.ref x, .int v1, .ref o] 4) [.int v1, .ref x, .int (Int32.ofInt 0), .ref o] S) : xw G cal RL ini cL_run (some .int) [(0, 9, 12, 18)] KR 0 (pm_ent [.ref x, .int v1, .ref o] 4) [] S :=
  xw_fn 1 dL_run_0 rfl rfl (xw_fn 2 dL_run_1 rfl rfl (xw_fn 3 dL_run_2 rfl rfl (xw_fn 4 dL_run_3 rfl rfl (k))))
theorem wL_run_n {G : pm_G} {D : Nat} {X M M1 : pm_M} {z z1 : Option Nat × Nat × Nat} {x o : Nat} {v1 : Int32} {r : Int32} {n9 : Nat} {f9 : Nat → Value} (hx : M x = some (.inl 11, n9, f9)) {F : Nat → Value} (ho : X o = some (.inr (.long, true), 1, F)) (hM1 : M1 o = none) (hr : pm_run G D false yX11_run [.ref x, .int v1] (M, z) (.inl (some (.int r))) (M1, z1)) : pm_ruh G D yL_run [.ref x, .int v1, .ref o] (exS X (M, z)) (some (.int 0)) (exS (pm_up X o (some (.inr (.long, true), 1, pm_up F (Int32.ofInt 0).toNatClampNeg (.long r.toInt64)))) (M1, z1)) := by
  refine xw_ruh mh_L_run rfl rfl (pL_run (xw_cv (As := [.int v1]) 7 dL_run_4 rfl iv_L_77 rfl (Nat.le_of_ble_eq_true rfl) (ex_at hx) cn_11 (ex_run _ _ _ _ _ _ _ hr) ?_))
  refine xw_fn 8 dL_run_7 rfl rfl (xw_last 9 dL_run_8 rfl ((ex_none hM1).trans ho) in_0 ?_)
  exact xw_goto 15 dL_run_9 rfl (xw_fn 16 dL_run_15 rfl rfl (xw_iret dL_run_16 rfl rfl ⟨rfl, ex_put hM1⟩))
theorem wL_run_x {G : pm_G} {D : Nat} {X M M1 : pm_M} {z z1 : Option Nat × Nat × Nat} {x o : Nat} {v1 : Int32} {k : Nat} {e : String} {n9 : Nat} {f9 : Nat → Value} (hx : M x = some (.inl 11, n9, f9)) (hk : ([pm_xA] : List String)[k]? = some e) (hr : pm_run G D false yX11_run [.ref x, .int v1] (M, z) (.inr e) (M1, z1)) : pm_ruh G D yL_run [.ref x, .int v1, .ref o] (exS X (M, z)) (some (.int (nn (k + 1)))) (exS X (M1, z1)) := by
  match k, hk with
  | 0, hk =>
    cases hk
    exact xw_ruh mh_L_run rfl rfl (pL_run (xw_cx (r9 := .inl (some (.int (nn 1)))) (As := [.int v1]) dL_run_4 iv_L_77 rfl (Nat.le_of_ble_eq_true rfl) (ex_at hx) cn_11 (ex_run _ _ _ _ _ _ _ hr) (fun KR' hK => Or.inr ⟨[], [], (0, 9, 12, 18), pm_xA, 1, rfl, (fun q hq => by cases hq), by decide, by decide, lk_18, cb_18, by decide, Or.inl ⟨3, Nat.le_of_ble_eq_true rfl, dL_run_12, dL_run_13, dL_run_14⟩, ⟨_, .int, rfl, rfl, rfl, hK⟩⟩) ⟨rfl, rfl⟩))
  | k + 1, hk => simp at hk
theorem dL_circuit_0 : decode cL_circuit 0 = .ok (.aload_n 3, 1) := by decide +kernel
theorem dL_circuit_1 : decode cL_circuit 1 = .ok (.iconst 0, 1) := by decide +kernel
theorem dL_circuit_2 : decode cL_circuit 2 = .ok (.aload_n 0, 1) := by decide +kernel
theorem dL_circuit_3 : decode cL_circuit 3 = .ok (.iload_n 1, 1) := by decide +kernel
theorem dL_circuit_4 : decode cL_circuit 4 = .ok (.iload_n 2, 1) := by decide +kernel
theorem dL_circuit_5 : decode cL_circuit 5 = .ok (.invokevirtual 80, 3) := by decide +kernel
theorem dL_circuit_8 : decode cL_circuit 8 = .ok (.i2l, 1) := by decide +kernel
theorem dL_circuit_9 : decode cL_circuit 9 = .ok (.lastore, 1) := by decide +kernel
theorem dL_circuit_10 : decode cL_circuit 10 = .ok (.goto 11, 3) := by decide +kernel
theorem dL_circuit_13 : decode cL_circuit 13 = .ok (.astore 4, 2) := by decide +kernel
theorem dL_circuit_15 : decode cL_circuit 15 = .ok (.iconst 1, 1) := by decide +kernel
theorem dL_circuit_16 : decode cL_circuit 16 = .ok (.ireturn, 1) := by decide +kernel
theorem dL_circuit_17 : decode cL_circuit 17 = .ok (.astore 4, 2) := by decide +kernel
theorem dL_circuit_19 : decode cL_circuit 19 = .ok (.iconst 2, 1) := by decide +kernel
theorem dL_circuit_20 : decode cL_circuit 20 = .ok (.ireturn, 1) := by decide +kernel
theorem dL_circuit_21 : decode cL_circuit 21 = .ok (.iconst 0, 1) := by decide +kernel
theorem dL_circuit_22 : decode cL_circuit 22 = .ok (.ireturn, 1) := by decide +kernel
theorem mh_L_circuit : pm_mh yL_circuit cL_circuit 5 (some .int) [(0, 10, 13, 27), (0, 10, 17, 18)] := pt_h_ok 1462 115 (by decide +kernel)
theorem pL_circuit {G : pm_G} {cal : pm_Cal} {KR : pm_E} {ini : Bool} {S : pm_S} {x o : Nat} {v1 v2 : Int32} (k : xw G cal RL ini cL_circuit (some .int) [(0, 10, 13, 27), (0, 10, 17, 18)] KR 5 (pm_ent [.ref x, .int v1, .int v2, .ref o] 5) [.int v2, .int v1, .ref x, .int (Int32.ofInt 0), .ref o] S) : xw G cal RL ini cL_circuit (some .int) [(0, 10, 13, 27), (0, 10, 17, 18)] KR 0 (pm_ent [.ref x, .int v1, .int v2, .ref o] 5) [] S :=
  xw_fn 1 dL_circuit_0 rfl rfl (xw_fn 2 dL_circuit_1 rfl rfl (xw_fn 3 dL_circuit_2 rfl rfl (xw_fn 4 dL_circuit_3 rfl rfl (xw_fn 5 dL_circuit_4 rfl rfl (k)))))
theorem wL_circuit_n {G : pm_G} {D : Nat} {X M M1 : pm_M} {z z1 : Option Nat × Nat × Nat} {x o : Nat} {v1 v2 : Int32} {r : Int32} {n9 : Nat} {f9 : Nat → Value} (hx : M x = some (.inl 11, n9, f9)) {F : Nat → Value} (ho : X o = some (.inr (.long, true), 1, F)) (hM1 : M1 o = none) (hr : pm_run G D false yX11_circuit [.ref x, .int v1, .int v2] (M, z) (.inl (some (.int r))) (M1, z1)) : pm_ruh G D yL_circuit [.ref x, .int v1, .int v2, .ref o] (exS X (M, z)) (some (.int 0)) (exS (pm_up X o (some (.inr (.long, true), 1, pm_up F (Int32.ofInt 0).toNatClampNeg (.long r.toInt64)))) (M1, z1)) := by
  refine xw_ruh mh_L_circuit rfl rfl (pL_circuit (xw_cv (As := [.int v1, .int v2]) 8 dL_circuit_5 rfl iv_L_80 rfl (Nat.le_of_ble_eq_true rfl) (ex_at hx) cn_11 (ex_run _ _ _ _ _ _ _ hr) ?_))
  refine xw_fn 9 dL_circuit_8 rfl rfl (xw_last 10 dL_circuit_9 rfl ((ex_none hM1).trans ho) in_0 ?_)
  exact xw_goto 21 dL_circuit_10 rfl (xw_fn 22 dL_circuit_21 rfl rfl (xw_iret dL_circuit_22 rfl rfl ⟨rfl, ex_put hM1⟩))
theorem wL_circuit_x {G : pm_G} {D : Nat} {X M M1 : pm_M} {z z1 : Option Nat × Nat × Nat} {x o : Nat} {v1 v2 : Int32} {k : Nat} {e : String} {n9 : Nat} {f9 : Nat → Value} (hx : M x = some (.inl 11, n9, f9)) (hk : ([pm_xB, pm_xA] : List String)[k]? = some e) (hr : pm_run G D false yX11_circuit [.ref x, .int v1, .int v2] (M, z) (.inr e) (M1, z1)) : pm_ruh G D yL_circuit [.ref x, .int v1, .int v2, .ref o] (exS X (M, z)) (some (.int (nn (k + 1)))) (exS X (M1, z1)) := by
  match k, hk with
  | 0, hk =>
    cases hk
    exact xw_ruh mh_L_circuit rfl rfl (pL_circuit (xw_cx (r9 := .inl (some (.int (nn 1)))) (As := [.int v1, .int v2]) dL_circuit_5 iv_L_80 rfl (Nat.le_of_ble_eq_true rfl) (ex_at hx) cn_11 (ex_run _ _ _ _ _ _ _ hr) (fun KR' hK => Or.inr ⟨[], [(0, 10, 17, 18)], (0, 10, 13, 27), pm_xB, 1, rfl, (fun q hq => by cases hq), by decide, by decide, lk_27, cb_27, by decide, Or.inr ⟨4, Nat.le_of_ble_eq_true rfl, dL_circuit_13, dL_circuit_15, dL_circuit_16⟩, ⟨_, .int, rfl, rfl, rfl, hK⟩⟩) ⟨rfl, rfl⟩))
  | 1, hk =>
    cases hk
    exact xw_ruh mh_L_circuit rfl rfl (pL_circuit (xw_cx (r9 := .inl (some (.int (nn 2)))) (As := [.int v1, .int v2]) dL_circuit_5 iv_L_80 rfl (Nat.le_of_ble_eq_true rfl) (ex_at hx) cn_11 (ex_run _ _ _ _ _ _ _ hr) (fun KR' hK => Or.inr ⟨[(0, 10, 13, 27)], [], (0, 10, 17, 18), pm_xA, 2, rfl, (fun q hq => by rcases List.mem_cons.mp hq with rfl | hq <;> first | exact Or.inr ⟨by decide, _, lk_27, by decide, by decide⟩ | cases hq), by decide, by decide, lk_18, cb_18, by decide, Or.inr ⟨4, Nat.le_of_ble_eq_true rfl, dL_circuit_17, dL_circuit_19, dL_circuit_20⟩, ⟨_, .int, rfl, rfl, rfl, hK⟩⟩) ⟨rfl, rfl⟩))
  | k + 2, hk => simp at hk
theorem dL_way_0 : decode cL_way 0 = .ok (.aload 5, 2) := by decide +kernel
theorem dL_way_2 : decode cL_way 2 = .ok (.iconst 0, 1) := by decide +kernel
theorem dL_way_3 : decode cL_way 3 = .ok (.aload_n 0, 1) := by decide +kernel
theorem dL_way_4 : decode cL_way 4 = .ok (.iload_n 1, 1) := by decide +kernel
theorem dL_way_5 : decode cL_way 5 = .ok (.iload_n 2, 1) := by decide +kernel
theorem dL_way_6 : decode cL_way 6 = .ok (.iload_n 3, 1) := by decide +kernel
theorem dL_way_7 : decode cL_way 7 = .ok (.iload 4, 2) := by decide +kernel
theorem dL_way_9 : decode cL_way 9 = .ok (.invokevirtual 83, 3) := by decide +kernel
theorem dL_way_12 : decode cL_way 12 = .ok (.i2l, 1) := by decide +kernel
theorem dL_way_13 : decode cL_way 13 = .ok (.lastore, 1) := by decide +kernel
theorem dL_way_14 : decode cL_way 14 = .ok (.goto 11, 3) := by decide +kernel
theorem dL_way_17 : decode cL_way 17 = .ok (.astore 6, 2) := by decide +kernel
theorem dL_way_19 : decode cL_way 19 = .ok (.iconst 1, 1) := by decide +kernel
theorem dL_way_20 : decode cL_way 20 = .ok (.ireturn, 1) := by decide +kernel
theorem dL_way_21 : decode cL_way 21 = .ok (.astore 6, 2) := by decide +kernel
theorem dL_way_23 : decode cL_way 23 = .ok (.iconst 2, 1) := by decide +kernel
theorem dL_way_24 : decode cL_way 24 = .ok (.ireturn, 1) := by decide +kernel
theorem dL_way_25 : decode cL_way 25 = .ok (.iconst 0, 1) := by decide +kernel
theorem dL_way_26 : decode cL_way 26 = .ok (.ireturn, 1) := by decide +kernel
theorem mh_L_way : pm_mh yL_way cL_way 7 (some .int) [(0, 14, 17, 27), (0, 14, 21, 18)] := pt_h_ok 1472 115 (by decide +kernel)
theorem pL_way {G : pm_G} {cal : pm_Cal} {KR : pm_E} {ini : Bool} {S : pm_S} {x o : Nat} {v1 v2 v3 v4 : Int32} (k : xw G cal RL ini cL_way (some .int) [(0, 14, 17, 27), (0, 14, 21, 18)] KR 9 (pm_ent [.ref x, .int v1, .int v2, .int v3, .int v4, .ref o] 7) [.int v4, .int v3, .int v2, .int v1, .ref x, .int (Int32.ofInt 0), .ref o] S) : xw G cal RL ini cL_way (some .int) [(0, 14, 17, 27), (0, 14, 21, 18)] KR 0 (pm_ent [.ref x, .int v1, .int v2, .int v3, .int v4, .ref o] 7) [] S :=
  xw_fn 2 dL_way_0 rfl rfl (xw_fn 3 dL_way_2 rfl rfl (xw_fn 4 dL_way_3 rfl rfl (xw_fn 5 dL_way_4 rfl rfl (xw_fn 6 dL_way_5 rfl rfl (xw_fn 7 dL_way_6 rfl rfl (xw_fn 9 dL_way_7 rfl rfl (k)))))))
theorem wL_way_n {G : pm_G} {D : Nat} {X M M1 : pm_M} {z z1 : Option Nat × Nat × Nat} {x o : Nat} {v1 v2 v3 v4 : Int32} {r : Int32} {n9 : Nat} {f9 : Nat → Value} (hx : M x = some (.inl 11, n9, f9)) {F : Nat → Value} (ho : X o = some (.inr (.long, true), 1, F)) (hM1 : M1 o = none) (hr : pm_run G D false yX11_way [.ref x, .int v1, .int v2, .int v3, .int v4] (M, z) (.inl (some (.int r))) (M1, z1)) : pm_ruh G D yL_way [.ref x, .int v1, .int v2, .int v3, .int v4, .ref o] (exS X (M, z)) (some (.int 0)) (exS (pm_up X o (some (.inr (.long, true), 1, pm_up F (Int32.ofInt 0).toNatClampNeg (.long r.toInt64)))) (M1, z1)) := by
  refine xw_ruh mh_L_way rfl rfl (pL_way (xw_cv (As := [.int v1, .int v2, .int v3, .int v4]) 12 dL_way_9 rfl iv_L_83 rfl (Nat.le_of_ble_eq_true rfl) (ex_at hx) cn_11 (ex_run _ _ _ _ _ _ _ hr) ?_))
  refine xw_fn 13 dL_way_12 rfl rfl (xw_last 14 dL_way_13 rfl ((ex_none hM1).trans ho) in_0 ?_)
  exact xw_goto 25 dL_way_14 rfl (xw_fn 26 dL_way_25 rfl rfl (xw_iret dL_way_26 rfl rfl ⟨rfl, ex_put hM1⟩))
theorem wL_way_x {G : pm_G} {D : Nat} {X M M1 : pm_M} {z z1 : Option Nat × Nat × Nat} {x o : Nat} {v1 v2 v3 v4 : Int32} {k : Nat} {e : String} {n9 : Nat} {f9 : Nat → Value} (hx : M x = some (.inl 11, n9, f9)) (hk : ([pm_xB, pm_xA] : List String)[k]? = some e) (hr : pm_run G D false yX11_way [.ref x, .int v1, .int v2, .int v3, .int v4] (M, z) (.inr e) (M1, z1)) : pm_ruh G D yL_way [.ref x, .int v1, .int v2, .int v3, .int v4, .ref o] (exS X (M, z)) (some (.int (nn (k + 1)))) (exS X (M1, z1)) := by
  match k, hk with
  | 0, hk =>
    cases hk
    exact xw_ruh mh_L_way rfl rfl (pL_way (xw_cx (r9 := .inl (some (.int (nn 1)))) (As := [.int v1, .int v2, .int v3, .int v4]) dL_way_9 iv_L_83 rfl (Nat.le_of_ble_eq_true rfl) (ex_at hx) cn_11 (ex_run _ _ _ _ _ _ _ hr) (fun KR' hK => Or.inr ⟨[], [(0, 14, 21, 18)], (0, 14, 17, 27), pm_xB, 1, rfl, (fun q hq => by cases hq), by decide, by decide, lk_27, cb_27, by decide, Or.inr ⟨6, Nat.le_of_ble_eq_true rfl, dL_way_17, dL_way_19, dL_way_20⟩, ⟨_, .int, rfl, rfl, rfl, hK⟩⟩) ⟨rfl, rfl⟩))
  | 1, hk =>
    cases hk
    exact xw_ruh mh_L_way rfl rfl (pL_way (xw_cx (r9 := .inl (some (.int (nn 2)))) (As := [.int v1, .int v2, .int v3, .int v4]) dL_way_9 iv_L_83 rfl (Nat.le_of_ble_eq_true rfl) (ex_at hx) cn_11 (ex_run _ _ _ _ _ _ _ hr) (fun KR' hK => Or.inr ⟨[(0, 14, 17, 27)], [], (0, 14, 21, 18), pm_xA, 2, rfl, (fun q hq => by rcases List.mem_cons.mp hq with rfl | hq <;> first | exact Or.inr ⟨by decide, _, lk_27, by decide, by decide⟩ | cases hq), by decide, by decide, lk_18, cb_18, by decide, Or.inr ⟨6, Nat.le_of_ble_eq_true rfl, dL_way_21, dL_way_23, dL_way_24⟩, ⟨_, .int, rfl, rfl, rfl, hK⟩⟩) ⟨rfl, rfl⟩))
  | k + 2, hk => simp at hk
theorem dL_packet_0 : decode cL_packet 0 = .ok (.aload_n 3, 1) := by decide +kernel
theorem dL_packet_1 : decode cL_packet 1 = .ok (.iconst 0, 1) := by decide +kernel
theorem dL_packet_2 : decode cL_packet 2 = .ok (.aload_n 0, 1) := by decide +kernel
theorem dL_packet_3 : decode cL_packet 3 = .ok (.iload_n 1, 1) := by decide +kernel
theorem dL_packet_4 : decode cL_packet 4 = .ok (.iload_n 2, 1) := by decide +kernel
theorem dL_packet_5 : decode cL_packet 5 = .ok (.invokevirtual 87, 3) := by decide +kernel
theorem dL_packet_8 : decode cL_packet 8 = .ok (.i2l, 1) := by decide +kernel
theorem dL_packet_9 : decode cL_packet 9 = .ok (.lastore, 1) := by decide +kernel
theorem dL_packet_10 : decode cL_packet 10 = .ok (.goto 11, 3) := by decide +kernel
theorem dL_packet_13 : decode cL_packet 13 = .ok (.astore 4, 2) := by decide +kernel
theorem dL_packet_15 : decode cL_packet 15 = .ok (.iconst 1, 1) := by decide +kernel
theorem dL_packet_16 : decode cL_packet 16 = .ok (.ireturn, 1) := by decide +kernel
theorem dL_packet_17 : decode cL_packet 17 = .ok (.astore 4, 2) := by decide +kernel
theorem dL_packet_19 : decode cL_packet 19 = .ok (.iconst 2, 1) := by decide +kernel
theorem dL_packet_20 : decode cL_packet 20 = .ok (.ireturn, 1) := by decide +kernel
theorem dL_packet_21 : decode cL_packet 21 = .ok (.iconst 0, 1) := by decide +kernel
theorem dL_packet_22 : decode cL_packet 22 = .ok (.ireturn, 1) := by decide +kernel
theorem mh_L_packet : pm_mh yL_packet cL_packet 5 (some .int) [(0, 10, 13, 27), (0, 10, 17, 18)] := pt_h_ok 1486 115 (by decide +kernel)
theorem pL_packet {G : pm_G} {cal : pm_Cal} {KR : pm_E} {ini : Bool} {S : pm_S} {x o : Nat} {v1 v2 : Int32} (k : xw G cal RL ini cL_packet (some .int) [(0, 10, 13, 27), (0, 10, 17, 18)] KR 5 (pm_ent [.ref x, .int v1, .int v2, .ref o] 5) [.int v2, .int v1, .ref x, .int (Int32.ofInt 0), .ref o] S) : xw G cal RL ini cL_packet (some .int) [(0, 10, 13, 27), (0, 10, 17, 18)] KR 0 (pm_ent [.ref x, .int v1, .int v2, .ref o] 5) [] S :=
  xw_fn 1 dL_packet_0 rfl rfl (xw_fn 2 dL_packet_1 rfl rfl (xw_fn 3 dL_packet_2 rfl rfl (xw_fn 4 dL_packet_3 rfl rfl (xw_fn 5 dL_packet_4 rfl rfl (k)))))
theorem wL_packet_n {G : pm_G} {D : Nat} {X M M1 : pm_M} {z z1 : Option Nat × Nat × Nat} {x o : Nat} {v1 v2 : Int32} {r : Int32} {n9 : Nat} {f9 : Nat → Value} (hx : M x = some (.inl 11, n9, f9)) {F : Nat → Value} (ho : X o = some (.inr (.long, true), 1, F)) (hM1 : M1 o = none) (hr : pm_run G D false yX11_packet [.ref x, .int v1, .int v2] (M, z) (.inl (some (.int r))) (M1, z1)) : pm_ruh G D yL_packet [.ref x, .int v1, .int v2, .ref o] (exS X (M, z)) (some (.int 0)) (exS (pm_up X o (some (.inr (.long, true), 1, pm_up F (Int32.ofInt 0).toNatClampNeg (.long r.toInt64)))) (M1, z1)) := by
  refine xw_ruh mh_L_packet rfl rfl (pL_packet (xw_cv (As := [.int v1, .int v2]) 8 dL_packet_5 rfl iv_L_87 rfl (Nat.le_of_ble_eq_true rfl) (ex_at hx) cn_11 (ex_run _ _ _ _ _ _ _ hr) ?_))
  refine xw_fn 9 dL_packet_8 rfl rfl (xw_last 10 dL_packet_9 rfl ((ex_none hM1).trans ho) in_0 ?_)
  exact xw_goto 21 dL_packet_10 rfl (xw_fn 22 dL_packet_21 rfl rfl (xw_iret dL_packet_22 rfl rfl ⟨rfl, ex_put hM1⟩))
theorem wL_packet_x {G : pm_G} {D : Nat} {X M M1 : pm_M} {z z1 : Option Nat × Nat × Nat} {x o : Nat} {v1 v2 : Int32} {k : Nat} {e : String} {n9 : Nat} {f9 : Nat → Value} (hx : M x = some (.inl 11, n9, f9)) (hk : ([pm_xB, pm_xA] : List String)[k]? = some e) (hr : pm_run G D false yX11_packet [.ref x, .int v1, .int v2] (M, z) (.inr e) (M1, z1)) : pm_ruh G D yL_packet [.ref x, .int v1, .int v2, .ref o] (exS X (M, z)) (some (.int (nn (k + 1)))) (exS X (M1, z1)) := by
  match k, hk with
  | 0, hk =>
    cases hk
    exact xw_ruh mh_L_packet rfl rfl (pL_packet (xw_cx (r9 := .inl (some (.int (nn 1)))) (As := [.int v1, .int v2]) dL_packet_5 iv_L_87 rfl (Nat.le_of_ble_eq_true rfl) (ex_at hx) cn_11 (ex_run _ _ _ _ _ _ _ hr) (fun KR' hK => Or.inr ⟨[], [(0, 10, 17, 18)], (0, 10, 13, 27), pm_xB, 1, rfl, (fun q hq => by cases hq), by decide, by decide, lk_27, cb_27, by decide, Or.inr ⟨4, Nat.le_of_ble_eq_true rfl, dL_packet_13, dL_packet_15, dL_packet_16⟩, ⟨_, .int, rfl, rfl, rfl, hK⟩⟩) ⟨rfl, rfl⟩))
  | 1, hk =>
    cases hk
    exact xw_ruh mh_L_packet rfl rfl (pL_packet (xw_cx (r9 := .inl (some (.int (nn 2)))) (As := [.int v1, .int v2]) dL_packet_5 iv_L_87 rfl (Nat.le_of_ble_eq_true rfl) (ex_at hx) cn_11 (ex_run _ _ _ _ _ _ _ hr) (fun KR' hK => Or.inr ⟨[(0, 10, 13, 27)], [], (0, 10, 17, 18), pm_xA, 2, rfl, (fun q hq => by rcases List.mem_cons.mp hq with rfl | hq <;> first | exact Or.inr ⟨by decide, _, lk_27, by decide, by decide⟩ | cases hq), by decide, by decide, lk_18, cb_18, by decide, Or.inr ⟨4, Nat.le_of_ble_eq_true rfl, dL_packet_17, dL_packet_19, dL_packet_20⟩, ⟨_, .int, rfl, rfl, rfl, hK⟩⟩) ⟨rfl, rfl⟩))
  | k + 2, hk => simp at hk
theorem dL_meanDelay_0 : decode cL_meanDelay 0 = .ok (.aload_n 2, 1) := by decide +kernel
theorem dL_meanDelay_1 : decode cL_meanDelay 1 = .ok (.iconst 0, 1) := by decide +kernel
theorem dL_meanDelay_2 : decode cL_meanDelay 2 = .ok (.aload_n 0, 1) := by decide +kernel
theorem dL_meanDelay_3 : decode cL_meanDelay 3 = .ok (.iload_n 1, 1) := by decide +kernel
theorem dL_meanDelay_4 : decode cL_meanDelay 4 = .ok (.invokevirtual 90, 3) := by decide +kernel
theorem dL_meanDelay_7 : decode cL_meanDelay 7 = .ok (.dastore, 1) := by decide +kernel
theorem dL_meanDelay_8 : decode cL_meanDelay 8 = .ok (.goto 6, 3) := by decide +kernel
theorem dL_meanDelay_11 : decode cL_meanDelay 11 = .ok (.astore_n 3, 1) := by decide +kernel
theorem dL_meanDelay_12 : decode cL_meanDelay 12 = .ok (.iconst 1, 1) := by decide +kernel
theorem dL_meanDelay_13 : decode cL_meanDelay 13 = .ok (.ireturn, 1) := by decide +kernel
theorem dL_meanDelay_14 : decode cL_meanDelay 14 = .ok (.iconst 0, 1) := by decide +kernel
theorem dL_meanDelay_15 : decode cL_meanDelay 15 = .ok (.ireturn, 1) := by decide +kernel
theorem mh_L_meanDelay : pm_mh yL_meanDelay cL_meanDelay 4 (some .int) [(0, 8, 11, 27)] := pt_h_ok 1494 115 (by decide +kernel)
theorem pL_meanDelay {G : pm_G} {cal : pm_Cal} {KR : pm_E} {ini : Bool} {S : pm_S} {x o : Nat} {v1 : Int32} (k : xw G cal RL ini cL_meanDelay (some .int) [(0, 8, 11, 27)] KR 4 (pm_ent [.ref x, .int v1, .ref o] 4) [.int v1, .ref x, .int (Int32.ofInt 0), .ref o] S) : xw G cal RL ini cL_meanDelay (some .int) [(0, 8, 11, 27)] KR 0 (pm_ent [.ref x, .int v1, .ref o] 4) [] S :=
  xw_fn 1 dL_meanDelay_0 rfl rfl (xw_fn 2 dL_meanDelay_1 rfl rfl (xw_fn 3 dL_meanDelay_2 rfl rfl (xw_fn 4 dL_meanDelay_3 rfl rfl (k))))
theorem wL_meanDelay_n {G : pm_G} {D : Nat} {X M M1 : pm_M} {z z1 : Option Nat × Nat × Nat} {x o : Nat} {v1 : Int32} {r : UInt64} {n9 : Nat} {f9 : Nat → Value} (hx : M x = some (.inl 11, n9, f9)) {F : Nat → Value} (ho : X o = some (.inr (.double, true), 1, F)) (hM1 : M1 o = none) (hr : pm_run G D false yX11_meanDelay [.ref x, .int v1] (M, z) (.inl (some (.double r))) (M1, z1)) : pm_ruh G D yL_meanDelay [.ref x, .int v1, .ref o] (exS X (M, z)) (some (.int 0)) (exS (pm_up X o (some (.inr (.double, true), 1, pm_up F (Int32.ofInt 0).toNatClampNeg (.double r)))) (M1, z1)) := by
  refine xw_ruh mh_L_meanDelay rfl rfl (pL_meanDelay (xw_cv (As := [.int v1]) 7 dL_meanDelay_4 rfl iv_L_90 rfl (Nat.le_of_ble_eq_true rfl) (ex_at hx) cn_11 (ex_run _ _ _ _ _ _ _ hr) ?_))
  refine xw_dast 8 dL_meanDelay_7 rfl ((ex_none hM1).trans ho) in_0 ?_
  exact xw_goto 14 dL_meanDelay_8 rfl (xw_fn 15 dL_meanDelay_14 rfl rfl (xw_iret dL_meanDelay_15 rfl rfl ⟨rfl, ex_put hM1⟩))
theorem wL_meanDelay_x {G : pm_G} {D : Nat} {X M M1 : pm_M} {z z1 : Option Nat × Nat × Nat} {x o : Nat} {v1 : Int32} {k : Nat} {e : String} {n9 : Nat} {f9 : Nat → Value} (hx : M x = some (.inl 11, n9, f9)) (hk : ([pm_xB] : List String)[k]? = some e) (hr : pm_run G D false yX11_meanDelay [.ref x, .int v1] (M, z) (.inr e) (M1, z1)) : pm_ruh G D yL_meanDelay [.ref x, .int v1, .ref o] (exS X (M, z)) (some (.int (nn (k + 1)))) (exS X (M1, z1)) := by
  match k, hk with
  | 0, hk =>
    cases hk
    exact xw_ruh mh_L_meanDelay rfl rfl (pL_meanDelay (xw_cx (r9 := .inl (some (.int (nn 1)))) (As := [.int v1]) dL_meanDelay_4 iv_L_90 rfl (Nat.le_of_ble_eq_true rfl) (ex_at hx) cn_11 (ex_run _ _ _ _ _ _ _ hr) (fun KR' hK => Or.inr ⟨[], [], (0, 8, 11, 27), pm_xB, 1, rfl, (fun q hq => by cases hq), by decide, by decide, lk_27, cb_27, by decide, Or.inl ⟨3, Nat.le_of_ble_eq_true rfl, dL_meanDelay_11, dL_meanDelay_12, dL_meanDelay_13⟩, ⟨_, .int, rfl, rfl, rfl, hK⟩⟩) ⟨rfl, rfl⟩))
  | k + 1, hk => simp at hk
theorem dL_canMove_0 : decode cL_canMove 0 = .ok (.aload_n 3, 1) := by decide +kernel
theorem dL_canMove_1 : decode cL_canMove 1 = .ok (.iconst 0, 1) := by decide +kernel
theorem dL_canMove_2 : decode cL_canMove 2 = .ok (.aload_n 0, 1) := by decide +kernel
theorem dL_canMove_3 : decode cL_canMove 3 = .ok (.iload_n 1, 1) := by decide +kernel
theorem dL_canMove_4 : decode cL_canMove 4 = .ok (.iload_n 2, 1) := by decide +kernel
theorem dL_canMove_5 : decode cL_canMove 5 = .ok (.invokevirtual 94, 3) := by decide +kernel
theorem dL_canMove_8 : decode cL_canMove 8 = .ok (.i2l, 1) := by decide +kernel
theorem dL_canMove_9 : decode cL_canMove 9 = .ok (.lastore, 1) := by decide +kernel
theorem dL_canMove_10 : decode cL_canMove 10 = .ok (.goto 7, 3) := by decide +kernel
theorem dL_canMove_13 : decode cL_canMove 13 = .ok (.astore 4, 2) := by decide +kernel
theorem dL_canMove_15 : decode cL_canMove 15 = .ok (.iconst 1, 1) := by decide +kernel
theorem dL_canMove_16 : decode cL_canMove 16 = .ok (.ireturn, 1) := by decide +kernel
theorem dL_canMove_17 : decode cL_canMove 17 = .ok (.iconst 0, 1) := by decide +kernel
theorem dL_canMove_18 : decode cL_canMove 18 = .ok (.ireturn, 1) := by decide +kernel
theorem mh_L_canMove : pm_mh yL_canMove cL_canMove 5 (some .int) [(0, 10, 13, 27)] := pt_h_ok 1502 115 (by decide +kernel)
theorem pL_canMove {G : pm_G} {cal : pm_Cal} {KR : pm_E} {ini : Bool} {S : pm_S} {x o : Nat} {v1 v2 : Int32} (k : xw G cal RL ini cL_canMove (some .int) [(0, 10, 13, 27)] KR 5 (pm_ent [.ref x, .int v1, .int v2, .ref o] 5) [.int v2, .int v1, .ref x, .int (Int32.ofInt 0), .ref o] S) : xw G cal RL ini cL_canMove (some .int) [(0, 10, 13, 27)] KR 0 (pm_ent [.ref x, .int v1, .int v2, .ref o] 5) [] S :=
  xw_fn 1 dL_canMove_0 rfl rfl (xw_fn 2 dL_canMove_1 rfl rfl (xw_fn 3 dL_canMove_2 rfl rfl (xw_fn 4 dL_canMove_3 rfl rfl (xw_fn 5 dL_canMove_4 rfl rfl (k)))))
theorem wL_canMove_n {G : pm_G} {D : Nat} {X M M1 : pm_M} {z z1 : Option Nat × Nat × Nat} {x o : Nat} {v1 v2 : Int32} {r : Int32} {n9 : Nat} {f9 : Nat → Value} (hx : M x = some (.inl 11, n9, f9)) {F : Nat → Value} (ho : X o = some (.inr (.long, true), 1, F)) (hM1 : M1 o = none) (hr : pm_run G D false yX11_canMove [.ref x, .int v1, .int v2] (M, z) (.inl (some (.int r))) (M1, z1)) : pm_ruh G D yL_canMove [.ref x, .int v1, .int v2, .ref o] (exS X (M, z)) (some (.int 0)) (exS (pm_up X o (some (.inr (.long, true), 1, pm_up F (Int32.ofInt 0).toNatClampNeg (.long r.toInt64)))) (M1, z1)) := by
  refine xw_ruh mh_L_canMove rfl rfl (pL_canMove (xw_cv (As := [.int v1, .int v2]) 8 dL_canMove_5 rfl iv_L_94 rfl (Nat.le_of_ble_eq_true rfl) (ex_at hx) cn_11 (ex_run _ _ _ _ _ _ _ hr) ?_))
  refine xw_fn 9 dL_canMove_8 rfl rfl (xw_last 10 dL_canMove_9 rfl ((ex_none hM1).trans ho) in_0 ?_)
  exact xw_goto 17 dL_canMove_10 rfl (xw_fn 18 dL_canMove_17 rfl rfl (xw_iret dL_canMove_18 rfl rfl ⟨rfl, ex_put hM1⟩))
theorem wL_canMove_x {G : pm_G} {D : Nat} {X M M1 : pm_M} {z z1 : Option Nat × Nat × Nat} {x o : Nat} {v1 v2 : Int32} {k : Nat} {e : String} {n9 : Nat} {f9 : Nat → Value} (hx : M x = some (.inl 11, n9, f9)) (hk : ([pm_xB] : List String)[k]? = some e) (hr : pm_run G D false yX11_canMove [.ref x, .int v1, .int v2] (M, z) (.inr e) (M1, z1)) : pm_ruh G D yL_canMove [.ref x, .int v1, .int v2, .ref o] (exS X (M, z)) (some (.int (nn (k + 1)))) (exS X (M1, z1)) := by
  match k, hk with
  | 0, hk =>
    cases hk
    exact xw_ruh mh_L_canMove rfl rfl (pL_canMove (xw_cx (r9 := .inl (some (.int (nn 1)))) (As := [.int v1, .int v2]) dL_canMove_5 iv_L_94 rfl (Nat.le_of_ble_eq_true rfl) (ex_at hx) cn_11 (ex_run _ _ _ _ _ _ _ hr) (fun KR' hK => Or.inr ⟨[], [], (0, 10, 13, 27), pm_xB, 1, rfl, (fun q hq => by cases hq), by decide, by decide, lk_27, cb_27, by decide, Or.inr ⟨4, Nat.le_of_ble_eq_true rfl, dL_canMove_13, dL_canMove_15, dL_canMove_16⟩, ⟨_, .int, rfl, rfl, rfl, hK⟩⟩) ⟨rfl, rfl⟩))
  | k + 1, hk => simp at hk
theorem dL_movedIn_0 : decode cL_movedIn 0 = .ok (.aload_n 2, 1) := by decide +kernel
theorem dL_movedIn_1 : decode cL_movedIn 1 = .ok (.iconst 0, 1) := by decide +kernel
theorem dL_movedIn_2 : decode cL_movedIn 2 = .ok (.aload_n 0, 1) := by decide +kernel
theorem dL_movedIn_3 : decode cL_movedIn 3 = .ok (.iload_n 1, 1) := by decide +kernel
theorem dL_movedIn_4 : decode cL_movedIn 4 = .ok (.invokevirtual 97, 3) := by decide +kernel
theorem dL_movedIn_7 : decode cL_movedIn 7 = .ok (.i2l, 1) := by decide +kernel
theorem dL_movedIn_8 : decode cL_movedIn 8 = .ok (.lastore, 1) := by decide +kernel
theorem dL_movedIn_9 : decode cL_movedIn 9 = .ok (.goto 6, 3) := by decide +kernel
theorem dL_movedIn_12 : decode cL_movedIn 12 = .ok (.astore_n 3, 1) := by decide +kernel
theorem dL_movedIn_13 : decode cL_movedIn 13 = .ok (.iconst 1, 1) := by decide +kernel
theorem dL_movedIn_14 : decode cL_movedIn 14 = .ok (.ireturn, 1) := by decide +kernel
theorem dL_movedIn_15 : decode cL_movedIn 15 = .ok (.iconst 0, 1) := by decide +kernel
theorem dL_movedIn_16 : decode cL_movedIn 16 = .ok (.ireturn, 1) := by decide +kernel
theorem mh_L_movedIn : pm_mh yL_movedIn cL_movedIn 4 (some .int) [(0, 9, 12, 27)] := pt_h_ok 1546 115 (by decide +kernel)
theorem pL_movedIn {G : pm_G} {cal : pm_Cal} {KR : pm_E} {ini : Bool} {S : pm_S} {x o : Nat} {v1 : Int32} (k : xw G cal RL ini cL_movedIn (some .int) [(0, 9, 12, 27)] KR 4 (pm_ent [.ref x, .int v1, .ref o] 4) [.int v1, .ref x, .int (Int32.ofInt 0), .ref o] S) : xw G cal RL ini cL_movedIn (some .int) [(0, 9, 12, 27)] KR 0 (pm_ent [.ref x, .int v1, .ref o] 4) [] S :=
  xw_fn 1 dL_movedIn_0 rfl rfl (xw_fn 2 dL_movedIn_1 rfl rfl (xw_fn 3 dL_movedIn_2 rfl rfl (xw_fn 4 dL_movedIn_3 rfl rfl (k))))
theorem wL_movedIn_n {G : pm_G} {D : Nat} {X M M1 : pm_M} {z z1 : Option Nat × Nat × Nat} {x o : Nat} {v1 : Int32} {r : Int32} {n9 : Nat} {f9 : Nat → Value} (hx : M x = some (.inl 11, n9, f9)) {F : Nat → Value} (ho : X o = some (.inr (.long, true), 1, F)) (hM1 : M1 o = none) (hr : pm_run G D false yX11_movedIn [.ref x, .int v1] (M, z) (.inl (some (.int r))) (M1, z1)) : pm_ruh G D yL_movedIn [.ref x, .int v1, .ref o] (exS X (M, z)) (some (.int 0)) (exS (pm_up X o (some (.inr (.long, true), 1, pm_up F (Int32.ofInt 0).toNatClampNeg (.long r.toInt64)))) (M1, z1)) := by
  refine xw_ruh mh_L_movedIn rfl rfl (pL_movedIn (xw_cv (As := [.int v1]) 7 dL_movedIn_4 rfl iv_L_97 rfl (Nat.le_of_ble_eq_true rfl) (ex_at hx) cn_11 (ex_run _ _ _ _ _ _ _ hr) ?_))
  refine xw_fn 8 dL_movedIn_7 rfl rfl (xw_last 9 dL_movedIn_8 rfl ((ex_none hM1).trans ho) in_0 ?_)
  exact xw_goto 15 dL_movedIn_9 rfl (xw_fn 16 dL_movedIn_15 rfl rfl (xw_iret dL_movedIn_16 rfl rfl ⟨rfl, ex_put hM1⟩))
theorem wL_movedIn_x {G : pm_G} {D : Nat} {X M M1 : pm_M} {z z1 : Option Nat × Nat × Nat} {x o : Nat} {v1 : Int32} {k : Nat} {e : String} {n9 : Nat} {f9 : Nat → Value} (hx : M x = some (.inl 11, n9, f9)) (hk : ([pm_xB] : List String)[k]? = some e) (hr : pm_run G D false yX11_movedIn [.ref x, .int v1] (M, z) (.inr e) (M1, z1)) : pm_ruh G D yL_movedIn [.ref x, .int v1, .ref o] (exS X (M, z)) (some (.int (nn (k + 1)))) (exS X (M1, z1)) := by
  match k, hk with
  | 0, hk =>
    cases hk
    exact xw_ruh mh_L_movedIn rfl rfl (pL_movedIn (xw_cx (r9 := .inl (some (.int (nn 1)))) (As := [.int v1]) dL_movedIn_4 iv_L_97 rfl (Nat.le_of_ble_eq_true rfl) (ex_at hx) cn_11 (ex_run _ _ _ _ _ _ _ hr) (fun KR' hK => Or.inr ⟨[], [], (0, 9, 12, 27), pm_xB, 1, rfl, (fun q hq => by cases hq), by decide, by decide, lk_27, cb_27, by decide, Or.inl ⟨3, Nat.le_of_ble_eq_true rfl, dL_movedIn_12, dL_movedIn_13, dL_movedIn_14⟩, ⟨_, .int, rfl, rfl, rfl, hK⟩⟩) ⟨rfl, rfl⟩))
  | k + 1, hk => simp at hk
theorem dL_ahead_0 : decode cL_ahead 0 = .ok (.aload_n 3, 1) := by decide +kernel
theorem dL_ahead_1 : decode cL_ahead 1 = .ok (.iconst 0, 1) := by decide +kernel
theorem dL_ahead_2 : decode cL_ahead 2 = .ok (.aload_n 0, 1) := by decide +kernel
theorem dL_ahead_3 : decode cL_ahead 3 = .ok (.iload_n 1, 1) := by decide +kernel
theorem dL_ahead_4 : decode cL_ahead 4 = .ok (.iload_n 2, 1) := by decide +kernel
theorem dL_ahead_5 : decode cL_ahead 5 = .ok (.invokevirtual 100, 3) := by decide +kernel
theorem dL_ahead_8 : decode cL_ahead 8 = .ok (.i2l, 1) := by decide +kernel
theorem dL_ahead_9 : decode cL_ahead 9 = .ok (.lastore, 1) := by decide +kernel
theorem dL_ahead_10 : decode cL_ahead 10 = .ok (.goto 7, 3) := by decide +kernel
theorem dL_ahead_13 : decode cL_ahead 13 = .ok (.astore 4, 2) := by decide +kernel
theorem dL_ahead_15 : decode cL_ahead 15 = .ok (.iconst 1, 1) := by decide +kernel
theorem dL_ahead_16 : decode cL_ahead 16 = .ok (.ireturn, 1) := by decide +kernel
theorem dL_ahead_17 : decode cL_ahead 17 = .ok (.iconst 0, 1) := by decide +kernel
theorem dL_ahead_18 : decode cL_ahead 18 = .ok (.ireturn, 1) := by decide +kernel
theorem mh_L_ahead : pm_mh yL_ahead cL_ahead 5 (some .int) [(0, 10, 13, 18)] := pt_h_ok 1557 115 (by decide +kernel)
theorem pL_ahead {G : pm_G} {cal : pm_Cal} {KR : pm_E} {ini : Bool} {S : pm_S} {x o : Nat} {v1 v2 : Int32} (k : xw G cal RL ini cL_ahead (some .int) [(0, 10, 13, 18)] KR 5 (pm_ent [.ref x, .int v1, .int v2, .ref o] 5) [.int v2, .int v1, .ref x, .int (Int32.ofInt 0), .ref o] S) : xw G cal RL ini cL_ahead (some .int) [(0, 10, 13, 18)] KR 0 (pm_ent [.ref x, .int v1, .int v2, .ref o] 5) [] S :=
  xw_fn 1 dL_ahead_0 rfl rfl (xw_fn 2 dL_ahead_1 rfl rfl (xw_fn 3 dL_ahead_2 rfl rfl (xw_fn 4 dL_ahead_3 rfl rfl (xw_fn 5 dL_ahead_4 rfl rfl (k)))))
theorem wL_ahead_n {G : pm_G} {D : Nat} {X M M1 : pm_M} {z z1 : Option Nat × Nat × Nat} {x o : Nat} {v1 v2 : Int32} {r : Int32} {n9 : Nat} {f9 : Nat → Value} (hx : M x = some (.inl 11, n9, f9)) {F : Nat → Value} (ho : X o = some (.inr (.long, true), 1, F)) (hM1 : M1 o = none) (hr : pm_run G D false yX11_ahead [.ref x, .int v1, .int v2] (M, z) (.inl (some (.int r))) (M1, z1)) : pm_ruh G D yL_ahead [.ref x, .int v1, .int v2, .ref o] (exS X (M, z)) (some (.int 0)) (exS (pm_up X o (some (.inr (.long, true), 1, pm_up F (Int32.ofInt 0).toNatClampNeg (.long r.toInt64)))) (M1, z1)) := by
  refine xw_ruh mh_L_ahead rfl rfl (pL_ahead (xw_cv (As := [.int v1, .int v2]) 8 dL_ahead_5 rfl iv_L_100 rfl (Nat.le_of_ble_eq_true rfl) (ex_at hx) cn_11 (ex_run _ _ _ _ _ _ _ hr) ?_))
  refine xw_fn 9 dL_ahead_8 rfl rfl (xw_last 10 dL_ahead_9 rfl ((ex_none hM1).trans ho) in_0 ?_)
  exact xw_goto 17 dL_ahead_10 rfl (xw_fn 18 dL_ahead_17 rfl rfl (xw_iret dL_ahead_18 rfl rfl ⟨rfl, ex_put hM1⟩))
theorem wL_ahead_x {G : pm_G} {D : Nat} {X M M1 : pm_M} {z z1 : Option Nat × Nat × Nat} {x o : Nat} {v1 v2 : Int32} {k : Nat} {e : String} {n9 : Nat} {f9 : Nat → Value} (hx : M x = some (.inl 11, n9, f9)) (hk : ([pm_xA] : List String)[k]? = some e) (hr : pm_run G D false yX11_ahead [.ref x, .int v1, .int v2] (M, z) (.inr e) (M1, z1)) : pm_ruh G D yL_ahead [.ref x, .int v1, .int v2, .ref o] (exS X (M, z)) (some (.int (nn (k + 1)))) (exS X (M1, z1)) := by
  match k, hk with
  | 0, hk =>
    cases hk
    exact xw_ruh mh_L_ahead rfl rfl (pL_ahead (xw_cx (r9 := .inl (some (.int (nn 1)))) (As := [.int v1, .int v2]) dL_ahead_5 iv_L_100 rfl (Nat.le_of_ble_eq_true rfl) (ex_at hx) cn_11 (ex_run _ _ _ _ _ _ _ hr) (fun KR' hK => Or.inr ⟨[], [], (0, 10, 13, 18), pm_xA, 1, rfl, (fun q hq => by cases hq), by decide, by decide, lk_18, cb_18, by decide, Or.inr ⟨4, Nat.le_of_ble_eq_true rfl, dL_ahead_13, dL_ahead_15, dL_ahead_16⟩, ⟨_, .int, rfl, rfl, rfl, hK⟩⟩) ⟨rfl, rfl⟩))
  | k + 1, hk => simp at hk
theorem dL_save_0 : decode cL_save 0 = .ok (.aload_n 0, 1) := by decide +kernel
theorem dL_save_1 : decode cL_save 1 = .ok (.iload_n 1, 1) := by decide +kernel
theorem dL_save_2 : decode cL_save 2 = .ok (.invokevirtual 103, 3) := by decide +kernel
theorem dL_save_5 : decode cL_save 5 = .ok (.goto 6, 3) := by decide +kernel
theorem dL_save_8 : decode cL_save 8 = .ok (.astore_n 2, 1) := by decide +kernel
theorem dL_save_9 : decode cL_save 9 = .ok (.iconst 1, 1) := by decide +kernel
theorem dL_save_10 : decode cL_save 10 = .ok (.ireturn, 1) := by decide +kernel
theorem dL_save_11 : decode cL_save 11 = .ok (.iconst 0, 1) := by decide +kernel
theorem dL_save_12 : decode cL_save 12 = .ok (.ireturn, 1) := by decide +kernel
theorem mh_L_save : pm_mh yL_save cL_save 3 (some .int) [(0, 5, 8, 18)] := pt_h_ok 1567 115 (by decide +kernel)
theorem pL_save {G : pm_G} {cal : pm_Cal} {KR : pm_E} {ini : Bool} {S : pm_S} {x : Nat} {v1 : Int32} (k : xw G cal RL ini cL_save (some .int) [(0, 5, 8, 18)] KR 2 (pm_ent [.ref x, .int v1] 3) [.int v1, .ref x] S) : xw G cal RL ini cL_save (some .int) [(0, 5, 8, 18)] KR 0 (pm_ent [.ref x, .int v1] 3) [] S :=
  xw_fn 1 dL_save_0 rfl rfl (xw_fn 2 dL_save_1 rfl rfl (k))
theorem wL_save_n {G : pm_G} {D : Nat} {X M M1 : pm_M} {z z1 : Option Nat × Nat × Nat} {x : Nat} {v1 : Int32} {n9 : Nat} {f9 : Nat → Value} (hx : M x = some (.inl 11, n9, f9)) (hr : pm_run G D false yX11_save [.ref x, .int v1] (M, z) (.inl none) (M1, z1)) : pm_ruh G D yL_save [.ref x, .int v1] (exS X (M, z)) (some (.int 0)) (exS X (M1, z1)) := by
  refine xw_ruh mh_L_save rfl rfl (pL_save (xw_cv (As := [.int v1]) 5 dL_save_2 rfl iv_L_103 rfl (Nat.le_of_ble_eq_true rfl) (ex_at hx) cn_11 (ex_run _ _ _ _ _ _ _ hr) ?_))
  exact xw_goto 11 dL_save_5 rfl (xw_fn 12 dL_save_11 rfl rfl (xw_iret dL_save_12 rfl rfl ⟨rfl, rfl⟩))
theorem wL_save_x {G : pm_G} {D : Nat} {X M M1 : pm_M} {z z1 : Option Nat × Nat × Nat} {x : Nat} {v1 : Int32} {k : Nat} {e : String} {n9 : Nat} {f9 : Nat → Value} (hx : M x = some (.inl 11, n9, f9)) (hk : ([pm_xA] : List String)[k]? = some e) (hr : pm_run G D false yX11_save [.ref x, .int v1] (M, z) (.inr e) (M1, z1)) : pm_ruh G D yL_save [.ref x, .int v1] (exS X (M, z)) (some (.int (nn (k + 1)))) (exS X (M1, z1)) := by
  match k, hk with
  | 0, hk =>
    cases hk
    exact xw_ruh mh_L_save rfl rfl (pL_save (xw_cx (r9 := .inl (some (.int (nn 1)))) (As := [.int v1]) dL_save_2 iv_L_103 rfl (Nat.le_of_ble_eq_true rfl) (ex_at hx) cn_11 (ex_run _ _ _ _ _ _ _ hr) (fun KR' hK => Or.inr ⟨[], [], (0, 5, 8, 18), pm_xA, 1, rfl, (fun q hq => by cases hq), by decide, by decide, lk_18, cb_18, by decide, Or.inl ⟨2, Nat.le_of_ble_eq_true rfl, dL_save_8, dL_save_9, dL_save_10⟩, ⟨_, .int, rfl, rfl, rfl, hK⟩⟩) ⟨rfl, rfl⟩))
  | k + 1, hk => simp at hk
theorem dL_restore_0 : decode cL_restore 0 = .ok (.aload_n 0, 1) := by decide +kernel
theorem dL_restore_1 : decode cL_restore 1 = .ok (.iload_n 1, 1) := by decide +kernel
theorem dL_restore_2 : decode cL_restore 2 = .ok (.invokevirtual 107, 3) := by decide +kernel
theorem dL_restore_5 : decode cL_restore 5 = .ok (.goto 9, 3) := by decide +kernel
theorem dL_restore_8 : decode cL_restore 8 = .ok (.astore_n 2, 1) := by decide +kernel
theorem dL_restore_9 : decode cL_restore 9 = .ok (.iconst 1, 1) := by decide +kernel
theorem dL_restore_10 : decode cL_restore 10 = .ok (.ireturn, 1) := by decide +kernel
theorem dL_restore_11 : decode cL_restore 11 = .ok (.astore_n 2, 1) := by decide +kernel
theorem dL_restore_12 : decode cL_restore 12 = .ok (.iconst 2, 1) := by decide +kernel
theorem dL_restore_13 : decode cL_restore 13 = .ok (.ireturn, 1) := by decide +kernel
theorem dL_restore_14 : decode cL_restore 14 = .ok (.iconst 0, 1) := by decide +kernel
theorem dL_restore_15 : decode cL_restore 15 = .ok (.ireturn, 1) := by decide +kernel
theorem mh_L_restore : pm_mh yL_restore cL_restore 3 (some .int) [(0, 5, 8, 18), (0, 5, 11, 13)] := pt_h_ok 1578 115 (by decide +kernel)
theorem pL_restore {G : pm_G} {cal : pm_Cal} {KR : pm_E} {ini : Bool} {S : pm_S} {x : Nat} {v1 : Int32} (k : xw G cal RL ini cL_restore (some .int) [(0, 5, 8, 18), (0, 5, 11, 13)] KR 2 (pm_ent [.ref x, .int v1] 3) [.int v1, .ref x] S) : xw G cal RL ini cL_restore (some .int) [(0, 5, 8, 18), (0, 5, 11, 13)] KR 0 (pm_ent [.ref x, .int v1] 3) [] S :=
  xw_fn 1 dL_restore_0 rfl rfl (xw_fn 2 dL_restore_1 rfl rfl (k))
theorem wL_restore_n {G : pm_G} {D : Nat} {X M M1 : pm_M} {z z1 : Option Nat × Nat × Nat} {x : Nat} {v1 : Int32} {n9 : Nat} {f9 : Nat → Value} (hx : M x = some (.inl 11, n9, f9)) (hr : pm_run G D false yX11_restore [.ref x, .int v1] (M, z) (.inl none) (M1, z1)) : pm_ruh G D yL_restore [.ref x, .int v1] (exS X (M, z)) (some (.int 0)) (exS X (M1, z1)) := by
  refine xw_ruh mh_L_restore rfl rfl (pL_restore (xw_cv (As := [.int v1]) 5 dL_restore_2 rfl iv_L_107 rfl (Nat.le_of_ble_eq_true rfl) (ex_at hx) cn_11 (ex_run _ _ _ _ _ _ _ hr) ?_))
  exact xw_goto 14 dL_restore_5 rfl (xw_fn 15 dL_restore_14 rfl rfl (xw_iret dL_restore_15 rfl rfl ⟨rfl, rfl⟩))
theorem wL_restore_x {G : pm_G} {D : Nat} {X M M1 : pm_M} {z z1 : Option Nat × Nat × Nat} {x : Nat} {v1 : Int32} {k : Nat} {e : String} {n9 : Nat} {f9 : Nat → Value} (hx : M x = some (.inl 11, n9, f9)) (hk : ([pm_xA, pm_xI] : List String)[k]? = some e) (hr : pm_run G D false yX11_restore [.ref x, .int v1] (M, z) (.inr e) (M1, z1)) : pm_ruh G D yL_restore [.ref x, .int v1] (exS X (M, z)) (some (.int (nn (k + 1)))) (exS X (M1, z1)) := by
  match k, hk with
  | 0, hk =>
    cases hk
    exact xw_ruh mh_L_restore rfl rfl (pL_restore (xw_cx (r9 := .inl (some (.int (nn 1)))) (As := [.int v1]) dL_restore_2 iv_L_107 rfl (Nat.le_of_ble_eq_true rfl) (ex_at hx) cn_11 (ex_run _ _ _ _ _ _ _ hr) (fun KR' hK => Or.inr ⟨[], [(0, 5, 11, 13)], (0, 5, 8, 18), pm_xA, 1, rfl, (fun q hq => by cases hq), by decide, by decide, lk_18, cb_18, by decide, Or.inl ⟨2, Nat.le_of_ble_eq_true rfl, dL_restore_8, dL_restore_9, dL_restore_10⟩, ⟨_, .int, rfl, rfl, rfl, hK⟩⟩) ⟨rfl, rfl⟩))
  | 1, hk =>
    cases hk
    exact xw_ruh mh_L_restore rfl rfl (pL_restore (xw_cx (r9 := .inl (some (.int (nn 2)))) (As := [.int v1]) dL_restore_2 iv_L_107 rfl (Nat.le_of_ble_eq_true rfl) (ex_at hx) cn_11 (ex_run _ _ _ _ _ _ _ hr) (fun KR' hK => Or.inr ⟨[(0, 5, 8, 18)], [], (0, 5, 11, 13), pm_xI, 2, rfl, (fun q hq => by rcases List.mem_cons.mp hq with rfl | hq <;> first | exact Or.inr ⟨by decide, _, lk_18, by decide, by decide⟩ | cases hq), by decide, by decide, lk_13, cb_13, by decide, Or.inl ⟨2, Nat.le_of_ble_eq_true rfl, dL_restore_11, dL_restore_12, dL_restore_13⟩, ⟨_, .int, rfl, rfl, rfl, hK⟩⟩) ⟨rfl, rfl⟩))
  | k + 2, hk => simp at hk
