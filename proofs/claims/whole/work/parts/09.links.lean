theorem uwk_0 : ∀ k, k < 3 → lw_tbl[[351, 353, 355].getD k 0]? = some (u_lay RX1 TX1 k) ∧ goodWord (u_lay RX1 TX1 k) = true := by decide +kernel
theorem uw_0 : ∀ w ∈ u_ws RX1 TX1 3, w ∈ mTbl := fun w hw => by
  obtain ⟨k, hk, rfl⟩ := List.mem_map.mp hw
  have h := uwk_0 k (List.mem_range.mp hk)
  exact mTbl_at _ h.1 h.2
theorem uwk_1 : ∀ k, k < 5 → lw_tbl[[170, 172, 174, 176, 178].getD k 0]? = some (u_lay RX2 TX2 k) ∧ goodWord (u_lay RX2 TX2 k) = true := by decide +kernel
theorem uw_1 : ∀ w ∈ u_ws RX2 TX2 5, w ∈ mTbl := fun w hw => by
  obtain ⟨k, hk, rfl⟩ := List.mem_map.mp hw
  have h := uwk_1 k (List.mem_range.mp hk)
  exact mTbl_at _ h.1 h.2
theorem uwk_2 : ∀ k, k < 4 → lw_tbl[[331, 333, 335, 337].getD k 0]? = some (u_lay RX3 TX3 k) ∧ goodWord (u_lay RX3 TX3 k) = true := by decide +kernel
theorem uw_2 : ∀ w ∈ u_ws RX3 TX3 4, w ∈ mTbl := fun w hw => by
  obtain ⟨k, hk, rfl⟩ := List.mem_map.mp hw
  have h := uwk_2 k (List.mem_range.mp hk)
  exact mTbl_at _ h.1 h.2
theorem uwk_3 : ∀ k, k < 5 → lw_tbl[[261, 263, 265, 267, 269].getD k 0]? = some (u_lay RX4 TX4 k) ∧ goodWord (u_lay RX4 TX4 k) = true := by decide +kernel
theorem uw_3 : ∀ w ∈ u_ws RX4 TX4 5, w ∈ mTbl := fun w hw => by
  obtain ⟨k, hk, rfl⟩ := List.mem_map.mp hw
  have h := uwk_3 k (List.mem_range.mp hk)
  exact mTbl_at _ h.1 h.2
theorem uwk_4 : ∀ k, k < 8 → lw_tbl[[194, 196, 198, 200, 202, 204, 206, 208].getD k 0]? = some (u_lay RX6 TX6 k) ∧ goodWord (u_lay RX6 TX6 k) = true := by decide +kernel
theorem uw_4 : ∀ w ∈ u_ws RX6 TX6 8, w ∈ mTbl := fun w hw => by
  obtain ⟨k, hk, rfl⟩ := List.mem_map.mp hw
  have h := uwk_4 k (List.mem_range.mp hk)
  exact mTbl_at _ h.1 h.2
theorem uwk_5 : ∀ k, k < 7 → lw_tbl[[232, 234, 236, 238, 240, 242, 244].getD k 0]? = some (u_lay RX7 TX7 k) ∧ goodWord (u_lay RX7 TX7 k) = true := by decide +kernel
theorem uw_5 : ∀ w ∈ u_ws RX7 TX7 7, w ∈ mTbl := fun w hw => by
  obtain ⟨k, hk, rfl⟩ := List.mem_map.mp hw
  have h := uwk_5 k (List.mem_range.mp hk)
  exact mTbl_at _ h.1 h.2
theorem uwk_6 : ∀ k, k < 10 → lw_tbl[[299, 301, 303, 305, 307, 309, 311, 313, 315, 317].getD k 0]? = some (u_lay RX8 TX8 k) ∧ goodWord (u_lay RX8 TX8 k) = true := by decide +kernel
theorem uw_6 : ∀ w ∈ u_ws RX8 TX8 10, w ∈ mTbl := fun w hw => by
  obtain ⟨k, hk, rfl⟩ := List.mem_map.mp hw
  have h := uwk_6 k (List.mem_range.mp hk)
  exact mTbl_at _ h.1 h.2
theorem uwk_7 : ∀ k, k < 15 → lw_tbl[[373, 375, 377, 379, 381, 383, 385, 387, 389, 391, 393, 395, 397, 399, 401].getD k 0]? = some (u_lay RX9 TX9 k) ∧ goodWord (u_lay RX9 TX9 k) = true := by decide +kernel
theorem uw_7 : ∀ w ∈ u_ws RX9 TX9 15, w ∈ mTbl := fun w hw => by
  obtain ⟨k, hk, rfl⟩ := List.mem_map.mp hw
  have h := uwk_7 k (List.mem_range.mp hk)
  exact mTbl_at _ h.1 h.2
theorem uwk_8 : ∀ k, k < 58 → lw_tbl[[1251, 1253, 1255, 1257, 1259, 1261, 1263, 1265, 1267, 1269, 1271, 1273, 1275, 1277, 1279, 1281, 1283, 1285, 1287, 1289, 1291, 1293, 1295, 1297, 1299, 1301, 1303, 1305, 1307, 1309, 1311, 1313, 1315, 1317, 1319, 1321, 1323, 1325, 1327, 1329, 1331, 1333, 1335, 1337, 1339, 1341, 1343, 1345, 1347, 1349, 1351, 1353, 1355, 1357, 1359, 1361, 1363, 1365].getD k 0]? = some (u_lay RX10 TX10 k) ∧ goodWord (u_lay RX10 TX10 k) = true := by decide +kernel
theorem uw_8 : ∀ w ∈ u_ws RX10 TX10 58, w ∈ mTbl := fun w hw => by
  obtain ⟨k, hk, rfl⟩ := List.mem_map.mp hw
  have h := uwk_8 k (List.mem_range.mp hk)
  exact mTbl_at _ h.1 h.2
theorem fl_X9_9 : mFL "BinProver" 9 7 0 := ⟨RX9, TX9, 15, tyX9, rfl, by decide, rfl, uw_7, mTbl_at 358 (by decide +kernel) rfl, tyX9_ok, nmX9⟩
theorem fl_X9_13 : mFL "BinProver" 13 7 1 := ⟨RX9, TX9, 15, tyX9, rfl, by decide, rfl, uw_7, mTbl_at 359 (by decide +kernel) rfl, tyX9_ok, nmX9⟩
theorem fl_X9_17 : mFL "BinProver" 17 7 2 := ⟨RX9, TX9, 15, tyX9, rfl, by decide, rfl, uw_7, mTbl_at 360 (by decide +kernel) rfl, tyX9_ok, nmX9⟩
theorem fl_X9_20 : mFL "BinProver" 20 7 3 := ⟨RX9, TX9, 15, tyX9, rfl, by decide, rfl, uw_7, mTbl_at 361 (by decide +kernel) rfl, tyX9_ok, nmX9⟩
theorem fl_X9_27 : mFL "BinProver" 27 7 4 := ⟨RX9, TX9, 15, tyX9, rfl, by decide, rfl, uw_7, mTbl_at 362 (by decide +kernel) rfl, tyX9_ok, nmX9⟩
theorem fl_X9_34 : mFL "BinProver" 34 7 5 := ⟨RX9, TX9, 15, tyX9, rfl, by decide, rfl, uw_7, mTbl_at 363 (by decide +kernel) rfl, tyX9_ok, nmX9⟩
theorem fl_X9_38 : mFL "BinProver" 38 7 6 := ⟨RX9, TX9, 15, tyX9, rfl, by decide, rfl, uw_7, mTbl_at 364 (by decide +kernel) rfl, tyX9_ok, nmX9⟩
theorem fl_X9_44 : mFL "BinProver" 44 7 7 := ⟨RX9, TX9, 15, tyX9, rfl, by decide, rfl, uw_7, mTbl_at 365 (by decide +kernel) rfl, tyX9_ok, nmX9⟩
theorem fl_X9_48 : mFL "BinProver" 48 7 8 := ⟨RX9, TX9, 15, tyX9, rfl, by decide, rfl, uw_7, mTbl_at 366 (by decide +kernel) rfl, tyX9_ok, nmX9⟩
theorem fl_X9_54 : mFL "BinProver" 54 7 9 := ⟨RX9, TX9, 15, tyX9, rfl, by decide, rfl, uw_7, mTbl_at 367 (by decide +kernel) rfl, tyX9_ok, nmX9⟩
theorem fl_X9_61 : mFL "BinProver" 61 7 10 := ⟨RX9, TX9, 15, tyX9, rfl, by decide, rfl, uw_7, mTbl_at 368 (by decide +kernel) rfl, tyX9_ok, nmX9⟩
theorem fl_X9_68 : mFL "BinProver" 68 7 11 := ⟨RX9, TX9, 15, tyX9, rfl, by decide, rfl, uw_7, mTbl_at 369 (by decide +kernel) rfl, tyX9_ok, nmX9⟩
theorem fl_X9_75 : mFL "BinProver" 75 7 12 := ⟨RX9, TX9, 15, tyX9, rfl, by decide, rfl, uw_7, mTbl_at 370 (by decide +kernel) rfl, tyX9_ok, nmX9⟩
theorem fl_X9_79 : mFL "BinProver" 79 7 13 := ⟨RX9, TX9, 15, tyX9, rfl, by decide, rfl, uw_7, mTbl_at 371 (by decide +kernel) rfl, tyX9_ok, nmX9⟩
theorem fl_X9_83 : mFL "BinProver" 83 7 14 := ⟨RX9, TX9, 15, tyX9, rfl, by decide, rfl, uw_7, mTbl_at 372 (by decide +kernel) rfl, tyX9_ok, nmX9⟩
theorem fl_X9_101 : mFL "BinProver" 101 4 2 := ⟨RX6, TX6, 8, tyX6, rfl, by decide, rfl, uw_4, mTbl_at 188 (by decide +kernel) rfl, tyX6_ok, nmX6⟩
theorem fl_X9_104 : mFL "BinProver" 104 5 1 := ⟨RX7, TX7, 7, tyX7, rfl, by decide, rfl, uw_5, mTbl_at 223 (by decide +kernel) rfl, tyX7_ok, nmX7⟩
theorem fl_X9_107 : mFL "BinProver" 107 4 0 := ⟨RX6, TX6, 8, tyX6, rfl, by decide, rfl, uw_4, mTbl_at 184 (by decide +kernel) rfl, tyX6_ok, nmX6⟩
theorem fl_X9_117 : mFL "BinProver" 117 4 1 := ⟨RX6, TX6, 8, tyX6, rfl, by decide, rfl, uw_4, mTbl_at 186 (by decide +kernel) rfl, tyX6_ok, nmX6⟩
theorem fl_X9_124 : mFL "BinProver" 124 1 0 := ⟨RX2, TX2, 5, tyX2, rfl, by decide, rfl, uw_1, mTbl_at 141 (by decide +kernel) rfl, tyX2_ok, nmX2⟩
theorem fl_X9_127 : mFL "BinProver" 127 1 1 := ⟨RX2, TX2, 5, tyX2, rfl, by decide, rfl, uw_1, mTbl_at 150 (by decide +kernel) rfl, tyX2_ok, nmX2⟩
theorem fl_X9_151 : mFL "BinProver" 151 5 2 := ⟨RX7, TX7, 7, tyX7, rfl, by decide, rfl, uw_5, mTbl_at 225 (by decide +kernel) rfl, tyX7_ok, nmX7⟩
theorem fl_X9_154 : mFL "BinProver" 154 5 3 := ⟨RX7, TX7, 7, tyX7, rfl, by decide, rfl, uw_5, mTbl_at 228 (by decide +kernel) rfl, tyX7_ok, nmX7⟩
theorem fl_X9_165 : mFL "BinProver" 165 1 2 := ⟨RX2, TX2, 5, tyX2, rfl, by decide, rfl, uw_1, mTbl_at 157 (by decide +kernel) rfl, tyX2_ok, nmX2⟩
theorem fl_X9_183 : mFL "BinProver" 183 5 0 := ⟨RX7, TX7, 7, tyX7, rfl, by decide, rfl, uw_5, mTbl_at 221 (by decide +kernel) rfl, tyX7_ok, nmX7⟩
theorem fl_X9_199 : mFL "BinProver" 199 3 2 := ⟨RX4, TX4, 5, tyX4, rfl, by decide, rfl, uw_3, mTbl_at 258 (by decide +kernel) rfl, tyX4_ok, nmX4⟩
theorem fl_X9_202 : mFL "BinProver" 202 3 0 := ⟨RX4, TX4, 5, tyX4, rfl, by decide, rfl, uw_3, mTbl_at 254 (by decide +kernel) rfl, tyX4_ok, nmX4⟩
theorem fl_X9_212 : mFL "BinProver" 212 1 3 := ⟨RX2, TX2, 5, tyX2, rfl, by decide, rfl, uw_1, mTbl_at 164 (by decide +kernel) rfl, tyX2_ok, nmX2⟩
theorem fl_X9_269 : mFL "BinProver" 269 6 1 := ⟨RX8, TX8, 10, tyX8, rfl, by decide, rfl, uw_6, mTbl_at 285 (by decide +kernel) rfl, tyX8_ok, nmX8⟩
theorem fl_X9_271 : mFL "BinProver" 271 6 6 := ⟨RX8, TX8, 10, tyX8, rfl, by decide, rfl, uw_6, mTbl_at 295 (by decide +kernel) rfl, tyX8_ok, nmX8⟩
theorem fl_X9_274 : mFL "BinProver" 274 6 2 := ⟨RX8, TX8, 10, tyX8, rfl, by decide, rfl, uw_6, mTbl_at 287 (by decide +kernel) rfl, tyX8_ok, nmX8⟩
theorem fl_X9_277 : mFL "BinProver" 277 6 3 := ⟨RX8, TX8, 10, tyX8, rfl, by decide, rfl, uw_6, mTbl_at 289 (by decide +kernel) rfl, tyX8_ok, nmX8⟩
theorem fl_X9_280 : mFL "BinProver" 280 6 4 := ⟨RX8, TX8, 10, tyX8, rfl, by decide, rfl, uw_6, mTbl_at 291 (by decide +kernel) rfl, tyX8_ok, nmX8⟩
theorem fl_X9_283 : mFL "BinProver" 283 6 5 := ⟨RX8, TX8, 10, tyX8, rfl, by decide, rfl, uw_6, mTbl_at 293 (by decide +kernel) rfl, tyX8_ok, nmX8⟩
theorem fl_X9_288 : mFL "BinProver" 288 6 0 := ⟨RX8, TX8, 10, tyX8, rfl, by decide, rfl, uw_6, mTbl_at 283 (by decide +kernel) rfl, tyX8_ok, nmX8⟩
theorem fl_X9_396 : mFL "BinProver" 396 0 0 := ⟨RX1, TX1, 3, tyX1, rfl, by decide, rfl, uw_0, mTbl_at 347 (by decide +kernel) rfl, tyX1_ok, nmX1⟩
theorem fl_X9_399 : mFL "BinProver" 399 0 1 := ⟨RX1, TX1, 3, tyX1, rfl, by decide, rfl, uw_0, mTbl_at 349 (by decide +kernel) rfl, tyX1_ok, nmX1⟩
theorem fl_X0_15 : mFL "BinProver$Bounds" 15 1 0 := ⟨RX2, TX2, 5, tyX2, rfl, by decide, rfl, uw_1, mTbl_at 136 (by decide +kernel) rfl, tyX2_ok, nmX2⟩
theorem fl_X0_25 : mFL "BinProver$Bounds" 25 1 1 := ⟨RX2, TX2, 5, tyX2, rfl, by decide, rfl, uw_1, mTbl_at 147 (by decide +kernel) rfl, tyX2_ok, nmX2⟩
theorem fl_X0_28 : mFL "BinProver$Bounds" 28 1 2 := ⟨RX2, TX2, 5, tyX2, rfl, by decide, rfl, uw_1, mTbl_at 153 (by decide +kernel) rfl, tyX2_ok, nmX2⟩
theorem fl_X1_9 : mFL "BinProver$Guess" 9 0 0 := ⟨RX1, TX1, 3, tyX1, rfl, by decide, rfl, uw_0, mTbl_at 346 (by decide +kernel) rfl, tyX1_ok, nmX1⟩
theorem fl_X1_15 : mFL "BinProver$Guess" 15 0 1 := ⟨RX1, TX1, 3, tyX1, rfl, by decide, rfl, uw_0, mTbl_at 348 (by decide +kernel) rfl, tyX1_ok, nmX1⟩
theorem fl_X1_18 : mFL "BinProver$Guess" 18 0 2 := ⟨RX1, TX1, 3, tyX1, rfl, by decide, rfl, uw_0, mTbl_at 350 (by decide +kernel) rfl, tyX1_ok, nmX1⟩
theorem fl_X1_22 : mFL "BinProver$Guess" 22 5 3 := ⟨RX7, TX7, 7, tyX7, rfl, by decide, rfl, uw_5, mTbl_at 227 (by decide +kernel) rfl, tyX7_ok, nmX7⟩
theorem fl_X1_40 : mFL "BinProver$Guess" 40 1 1 := ⟨RX2, TX2, 5, tyX2, rfl, by decide, rfl, uw_1, mTbl_at 146 (by decide +kernel) rfl, tyX2_ok, nmX2⟩
theorem fl_X1_45 : mFL "BinProver$Guess" 45 1 2 := ⟨RX2, TX2, 5, tyX2, rfl, by decide, rfl, uw_1, mTbl_at 152 (by decide +kernel) rfl, tyX2_ok, nmX2⟩
theorem fl_X1_48 : mFL "BinProver$Guess" 48 1 0 := ⟨RX2, TX2, 5, tyX2, rfl, by decide, rfl, uw_1, mTbl_at 137 (by decide +kernel) rfl, tyX2_ok, nmX2⟩
theorem fl_X2_9 : mFL "BinProver$Lot" 9 1 0 := ⟨RX2, TX2, 5, tyX2, rfl, by decide, rfl, uw_1, mTbl_at 134 (by decide +kernel) rfl, tyX2_ok, nmX2⟩
theorem fl_X2_15 : mFL "BinProver$Lot" 15 1 1 := ⟨RX2, TX2, 5, tyX2, rfl, by decide, rfl, uw_1, mTbl_at 142 (by decide +kernel) rfl, tyX2_ok, nmX2⟩
theorem fl_X2_18 : mFL "BinProver$Lot" 18 1 2 := ⟨RX2, TX2, 5, tyX2, rfl, by decide, rfl, uw_1, mTbl_at 151 (by decide +kernel) rfl, tyX2_ok, nmX2⟩
theorem fl_X2_22 : mFL "BinProver$Lot" 22 1 3 := ⟨RX2, TX2, 5, tyX2, rfl, by decide, rfl, uw_1, mTbl_at 159 (by decide +kernel) rfl, tyX2_ok, nmX2⟩
theorem fl_X2_25 : mFL "BinProver$Lot" 25 1 4 := ⟨RX2, TX2, 5, tyX2, rfl, by decide, rfl, uw_1, mTbl_at 165 (by decide +kernel) rfl, tyX2_ok, nmX2⟩
theorem fl_X3_11 : mFL "BinProver$Net" 11 2 0 := ⟨RX3, TX3, 4, tyX3, rfl, by decide, rfl, uw_2, mTbl_at 327 (by decide +kernel) rfl, tyX3_ok, nmX3⟩
theorem fl_X3_16 : mFL "BinProver$Net" 16 2 1 := ⟨RX3, TX3, 4, tyX3, rfl, by decide, rfl, uw_2, mTbl_at 328 (by decide +kernel) rfl, tyX3_ok, nmX3⟩
theorem fl_X3_19 : mFL "BinProver$Net" 19 2 2 := ⟨RX3, TX3, 4, tyX3, rfl, by decide, rfl, uw_2, mTbl_at 329 (by decide +kernel) rfl, tyX3_ok, nmX3⟩
theorem fl_X3_23 : mFL "BinProver$Net" 23 2 3 := ⟨RX3, TX3, 4, tyX3, rfl, by decide, rfl, uw_2, mTbl_at 330 (by decide +kernel) rfl, tyX3_ok, nmX3⟩
theorem fl_X3_35 : mFL "BinProver$Net" 35 1 1 := ⟨RX2, TX2, 5, tyX2, rfl, by decide, rfl, uw_1, mTbl_at 144 (by decide +kernel) rfl, tyX2_ok, nmX2⟩
theorem fl_X3_40 : mFL "BinProver$Net" 40 1 3 := ⟨RX2, TX2, 5, tyX2, rfl, by decide, rfl, uw_1, mTbl_at 161 (by decide +kernel) rfl, tyX2_ok, nmX2⟩
theorem fl_X3_43 : mFL "BinProver$Net" 43 1 4 := ⟨RX2, TX2, 5, tyX2, rfl, by decide, rfl, uw_1, mTbl_at 167 (by decide +kernel) rfl, tyX2_ok, nmX2⟩
theorem fl_X3_50 : mFL "BinProver$Net" 50 1 2 := ⟨RX2, TX2, 5, tyX2, rfl, by decide, rfl, uw_1, mTbl_at 154 (by decide +kernel) rfl, tyX2_ok, nmX2⟩
theorem fl_X3_59 : mFL "BinProver$Net" 59 1 0 := ⟨RX2, TX2, 5, tyX2, rfl, by decide, rfl, uw_1, mTbl_at 140 (by decide +kernel) rfl, tyX2_ok, nmX2⟩
theorem fl_X4_9 : mFL "BinProver$Packer" 9 3 0 := ⟨RX4, TX4, 5, tyX4, rfl, by decide, rfl, uw_3, mTbl_at 253 (by decide +kernel) rfl, tyX4_ok, nmX4⟩
theorem fl_X4_15 : mFL "BinProver$Packer" 15 3 1 := ⟨RX4, TX4, 5, tyX4, rfl, by decide, rfl, uw_3, mTbl_at 255 (by decide +kernel) rfl, tyX4_ok, nmX4⟩
theorem fl_X4_18 : mFL "BinProver$Packer" 18 3 2 := ⟨RX4, TX4, 5, tyX4, rfl, by decide, rfl, uw_3, mTbl_at 257 (by decide +kernel) rfl, tyX4_ok, nmX4⟩
theorem fl_X4_22 : mFL "BinProver$Packer" 22 3 3 := ⟨RX4, TX4, 5, tyX4, rfl, by decide, rfl, uw_3, mTbl_at 259 (by decide +kernel) rfl, tyX4_ok, nmX4⟩
theorem fl_X4_25 : mFL "BinProver$Packer" 25 3 4 := ⟨RX4, TX4, 5, tyX4, rfl, by decide, rfl, uw_3, mTbl_at 260 (by decide +kernel) rfl, tyX4_ok, nmX4⟩
theorem fl_X4_38 : mFL "BinProver$Packer" 38 1 1 := ⟨RX2, TX2, 5, tyX2, rfl, by decide, rfl, uw_1, mTbl_at 148 (by decide +kernel) rfl, tyX2_ok, nmX2⟩
theorem fl_X4_43 : mFL "BinProver$Packer" 43 1 4 := ⟨RX2, TX2, 5, tyX2, rfl, by decide, rfl, uw_1, mTbl_at 168 (by decide +kernel) rfl, tyX2_ok, nmX2⟩
theorem fl_X4_46 : mFL "BinProver$Packer" 46 1 3 := ⟨RX2, TX2, 5, tyX2, rfl, by decide, rfl, uw_1, mTbl_at 162 (by decide +kernel) rfl, tyX2_ok, nmX2⟩
theorem fl_X4_49 : mFL "BinProver$Packer" 49 1 2 := ⟨RX2, TX2, 5, tyX2, rfl, by decide, rfl, uw_1, mTbl_at 156 (by decide +kernel) rfl, tyX2_ok, nmX2⟩
theorem fl_X4_52 : mFL "BinProver$Packer" 52 1 0 := ⟨RX2, TX2, 5, tyX2, rfl, by decide, rfl, uw_1, mTbl_at 139 (by decide +kernel) rfl, tyX2_ok, nmX2⟩
theorem fl_X5_14 : mFL "BinProver$Patterns" 14 1 1 := ⟨RX2, TX2, 5, tyX2, rfl, by decide, rfl, uw_1, mTbl_at 143 (by decide +kernel) rfl, tyX2_ok, nmX2⟩
theorem fl_X5_20 : mFL "BinProver$Patterns" 20 1 4 := ⟨RX2, TX2, 5, tyX2, rfl, by decide, rfl, uw_1, mTbl_at 166 (by decide +kernel) rfl, tyX2_ok, nmX2⟩
theorem fl_X5_28 : mFL "BinProver$Patterns" 28 1 0 := ⟨RX2, TX2, 5, tyX2, rfl, by decide, rfl, uw_1, mTbl_at 138 (by decide +kernel) rfl, tyX2_ok, nmX2⟩
theorem fl_X5_31 : mFL "BinProver$Patterns" 31 1 2 := ⟨RX2, TX2, 5, tyX2, rfl, by decide, rfl, uw_1, mTbl_at 155 (by decide +kernel) rfl, tyX2_ok, nmX2⟩
theorem fl_X5_43 : mFL "BinProver$Patterns" 43 1 3 := ⟨RX2, TX2, 5, tyX2, rfl, by decide, rfl, uw_1, mTbl_at 163 (by decide +kernel) rfl, tyX2_ok, nmX2⟩
theorem fl_X6_12 : mFL "BinProver$Reader" 12 4 0 := ⟨RX6, TX6, 8, tyX6, rfl, by decide, rfl, uw_4, mTbl_at 183 (by decide +kernel) rfl, tyX6_ok, nmX6⟩
theorem fl_X6_20 : mFL "BinProver$Reader" 20 4 1 := ⟨RX6, TX6, 8, tyX6, rfl, by decide, rfl, uw_4, mTbl_at 185 (by decide +kernel) rfl, tyX6_ok, nmX6⟩
theorem fl_X6_24 : mFL "BinProver$Reader" 24 4 2 := ⟨RX6, TX6, 8, tyX6, rfl, by decide, rfl, uw_4, mTbl_at 187 (by decide +kernel) rfl, tyX6_ok, nmX6⟩
theorem fl_X6_28 : mFL "BinProver$Reader" 28 4 3 := ⟨RX6, TX6, 8, tyX6, rfl, by decide, rfl, uw_4, mTbl_at 189 (by decide +kernel) rfl, tyX6_ok, nmX6⟩
theorem fl_X6_31 : mFL "BinProver$Reader" 31 4 4 := ⟨RX6, TX6, 8, tyX6, rfl, by decide, rfl, uw_4, mTbl_at 190 (by decide +kernel) rfl, tyX6_ok, nmX6⟩
theorem fl_X6_34 : mFL "BinProver$Reader" 34 4 5 := ⟨RX6, TX6, 8, tyX6, rfl, by decide, rfl, uw_4, mTbl_at 191 (by decide +kernel) rfl, tyX6_ok, nmX6⟩
theorem fl_X6_37 : mFL "BinProver$Reader" 37 4 6 := ⟨RX6, TX6, 8, tyX6, rfl, by decide, rfl, uw_4, mTbl_at 192 (by decide +kernel) rfl, tyX6_ok, nmX6⟩
theorem fl_X6_40 : mFL "BinProver$Reader" 40 4 7 := ⟨RX6, TX6, 8, tyX6, rfl, by decide, rfl, uw_4, mTbl_at 193 (by decide +kernel) rfl, tyX6_ok, nmX6⟩
theorem fl_X6_66 : mFL "BinProver$Reader" 66 1 0 := ⟨RX2, TX2, 5, tyX2, rfl, by decide, rfl, uw_1, mTbl_at 135 (by decide +kernel) rfl, tyX2_ok, nmX2⟩
theorem fl_X6_69 : mFL "BinProver$Reader" 69 1 1 := ⟨RX2, TX2, 5, tyX2, rfl, by decide, rfl, uw_1, mTbl_at 145 (by decide +kernel) rfl, tyX2_ok, nmX2⟩
theorem fl_X6_119 : mFL "BinProver$Reader" 119 1 2 := ⟨RX2, TX2, 5, tyX2, rfl, by decide, rfl, uw_1, mTbl_at 158 (by decide +kernel) rfl, tyX2_ok, nmX2⟩
theorem fl_X7_11 : mFL "BinProver$Stock" 11 5 0 := ⟨RX7, TX7, 7, tyX7, rfl, by decide, rfl, uw_5, mTbl_at 220 (by decide +kernel) rfl, tyX7_ok, nmX7⟩
theorem fl_X7_15 : mFL "BinProver$Stock" 15 5 1 := ⟨RX7, TX7, 7, tyX7, rfl, by decide, rfl, uw_5, mTbl_at 222 (by decide +kernel) rfl, tyX7_ok, nmX7⟩
theorem fl_X7_19 : mFL "BinProver$Stock" 19 5 2 := ⟨RX7, TX7, 7, tyX7, rfl, by decide, rfl, uw_5, mTbl_at 224 (by decide +kernel) rfl, tyX7_ok, nmX7⟩
theorem fl_X7_23 : mFL "BinProver$Stock" 23 5 3 := ⟨RX7, TX7, 7, tyX7, rfl, by decide, rfl, uw_5, mTbl_at 226 (by decide +kernel) rfl, tyX7_ok, nmX7⟩
theorem fl_X7_26 : mFL "BinProver$Stock" 26 5 4 := ⟨RX7, TX7, 7, tyX7, rfl, by decide, rfl, uw_5, mTbl_at 229 (by decide +kernel) rfl, tyX7_ok, nmX7⟩
theorem fl_X7_29 : mFL "BinProver$Stock" 29 5 5 := ⟨RX7, TX7, 7, tyX7, rfl, by decide, rfl, uw_5, mTbl_at 230 (by decide +kernel) rfl, tyX7_ok, nmX7⟩
theorem fl_X7_32 : mFL "BinProver$Stock" 32 5 6 := ⟨RX7, TX7, 7, tyX7, rfl, by decide, rfl, uw_5, mTbl_at 231 (by decide +kernel) rfl, tyX7_ok, nmX7⟩
theorem fl_X8_9 : mFL "BinProver$Tree" 9 6 0 := ⟨RX8, TX8, 10, tyX8, rfl, by decide, rfl, uw_6, mTbl_at 282 (by decide +kernel) rfl, tyX8_ok, nmX8⟩
theorem fl_X8_15 : mFL "BinProver$Tree" 15 6 1 := ⟨RX8, TX8, 10, tyX8, rfl, by decide, rfl, uw_6, mTbl_at 284 (by decide +kernel) rfl, tyX8_ok, nmX8⟩
theorem fl_X8_19 : mFL "BinProver$Tree" 19 6 2 := ⟨RX8, TX8, 10, tyX8, rfl, by decide, rfl, uw_6, mTbl_at 286 (by decide +kernel) rfl, tyX8_ok, nmX8⟩
theorem fl_X8_22 : mFL "BinProver$Tree" 22 6 3 := ⟨RX8, TX8, 10, tyX8, rfl, by decide, rfl, uw_6, mTbl_at 288 (by decide +kernel) rfl, tyX8_ok, nmX8⟩
theorem fl_X8_25 : mFL "BinProver$Tree" 25 6 4 := ⟨RX8, TX8, 10, tyX8, rfl, by decide, rfl, uw_6, mTbl_at 290 (by decide +kernel) rfl, tyX8_ok, nmX8⟩
theorem fl_X8_28 : mFL "BinProver$Tree" 28 6 5 := ⟨RX8, TX8, 10, tyX8, rfl, by decide, rfl, uw_6, mTbl_at 292 (by decide +kernel) rfl, tyX8_ok, nmX8⟩
theorem fl_X8_31 : mFL "BinProver$Tree" 31 6 6 := ⟨RX8, TX8, 10, tyX8, rfl, by decide, rfl, uw_6, mTbl_at 294 (by decide +kernel) rfl, tyX8_ok, nmX8⟩
theorem fl_X8_38 : mFL "BinProver$Tree" 38 6 7 := ⟨RX8, TX8, 10, tyX8, rfl, by decide, rfl, uw_6, mTbl_at 296 (by decide +kernel) rfl, tyX8_ok, nmX8⟩
theorem fl_X8_44 : mFL "BinProver$Tree" 44 6 8 := ⟨RX8, TX8, 10, tyX8, rfl, by decide, rfl, uw_6, mTbl_at 297 (by decide +kernel) rfl, tyX8_ok, nmX8⟩
theorem fl_X8_47 : mFL "BinProver$Tree" 47 6 9 := ⟨RX8, TX8, 10, tyX8, rfl, by decide, rfl, uw_6, mTbl_at 298 (by decide +kernel) rfl, tyX8_ok, nmX8⟩
theorem fl_X8_54 : mFL "BinProver$Tree" 54 3 1 := ⟨RX4, TX4, 5, tyX4, rfl, by decide, rfl, uw_3, mTbl_at 256 (by decide +kernel) rfl, tyX4_ok, nmX4⟩
theorem fl_X8_63 : mFL "BinProver$Tree" 63 1 3 := ⟨RX2, TX2, 5, tyX2, rfl, by decide, rfl, uw_1, mTbl_at 160 (by decide +kernel) rfl, tyX2_ok, nmX2⟩
theorem fl_X8_102 : mFL "BinProver$Tree" 102 1 1 := ⟨RX2, TX2, 5, tyX2, rfl, by decide, rfl, uw_1, mTbl_at 149 (by decide +kernel) rfl, tyX2_ok, nmX2⟩
theorem fl_X8_105 : mFL "BinProver$Tree" 105 1 4 := ⟨RX2, TX2, 5, tyX2, rfl, by decide, rfl, uw_1, mTbl_at 169 (by decide +kernel) rfl, tyX2_ok, nmX2⟩
theorem fl_X10_9 : mFL "BinProverModel" 9 8 0 := ⟨RX10, TX10, 58, tyX10, rfl, by decide, rfl, uw_8, mTbl_at 1193 (by decide +kernel) rfl, tyX10_ok, nmX10⟩
theorem fl_X10_13 : mFL "BinProverModel" 13 8 1 := ⟨RX10, TX10, 58, tyX10, rfl, by decide, rfl, uw_8, mTbl_at 1194 (by decide +kernel) rfl, tyX10_ok, nmX10⟩
theorem fl_X10_16 : mFL "BinProverModel" 16 8 2 := ⟨RX10, TX10, 58, tyX10, rfl, by decide, rfl, uw_8, mTbl_at 1195 (by decide +kernel) rfl, tyX10_ok, nmX10⟩
theorem fl_X10_19 : mFL "BinProverModel" 19 8 3 := ⟨RX10, TX10, 58, tyX10, rfl, by decide, rfl, uw_8, mTbl_at 1196 (by decide +kernel) rfl, tyX10_ok, nmX10⟩
theorem fl_X10_22 : mFL "BinProverModel" 22 8 4 := ⟨RX10, TX10, 58, tyX10, rfl, by decide, rfl, uw_8, mTbl_at 1197 (by decide +kernel) rfl, tyX10_ok, nmX10⟩
theorem fl_X10_25 : mFL "BinProverModel" 25 8 6 := ⟨RX10, TX10, 58, tyX10, rfl, by decide, rfl, uw_8, mTbl_at 1199 (by decide +kernel) rfl, tyX10_ok, nmX10⟩
theorem fl_X10_29 : mFL "BinProverModel" 29 8 15 := ⟨RX10, TX10, 58, tyX10, rfl, by decide, rfl, uw_8, mTbl_at 1208 (by decide +kernel) rfl, tyX10_ok, nmX10⟩
theorem fl_X10_32 : mFL "BinProverModel" 32 8 17 := ⟨RX10, TX10, 58, tyX10, rfl, by decide, rfl, uw_8, mTbl_at 1210 (by decide +kernel) rfl, tyX10_ok, nmX10⟩
theorem fl_X10_35 : mFL "BinProverModel" 35 8 25 := ⟨RX10, TX10, 58, tyX10, rfl, by decide, rfl, uw_8, mTbl_at 1218 (by decide +kernel) rfl, tyX10_ok, nmX10⟩
theorem fl_X10_38 : mFL "BinProverModel" 38 8 26 := ⟨RX10, TX10, 58, tyX10, rfl, by decide, rfl, uw_8, mTbl_at 1219 (by decide +kernel) rfl, tyX10_ok, nmX10⟩
theorem fl_X10_41 : mFL "BinProverModel" 41 8 30 := ⟨RX10, TX10, 58, tyX10, rfl, by decide, rfl, uw_8, mTbl_at 1223 (by decide +kernel) rfl, tyX10_ok, nmX10⟩
theorem fl_X10_44 : mFL "BinProverModel" 44 8 31 := ⟨RX10, TX10, 58, tyX10, rfl, by decide, rfl, uw_8, mTbl_at 1224 (by decide +kernel) rfl, tyX10_ok, nmX10⟩
theorem fl_X10_47 : mFL "BinProverModel" 47 8 32 := ⟨RX10, TX10, 58, tyX10, rfl, by decide, rfl, uw_8, mTbl_at 1225 (by decide +kernel) rfl, tyX10_ok, nmX10⟩
theorem fl_X10_50 : mFL "BinProverModel" 50 8 34 := ⟨RX10, TX10, 58, tyX10, rfl, by decide, rfl, uw_8, mTbl_at 1227 (by decide +kernel) rfl, tyX10_ok, nmX10⟩
theorem fl_X10_53 : mFL "BinProverModel" 53 8 35 := ⟨RX10, TX10, 58, tyX10, rfl, by decide, rfl, uw_8, mTbl_at 1228 (by decide +kernel) rfl, tyX10_ok, nmX10⟩
theorem fl_X10_56 : mFL "BinProverModel" 56 8 36 := ⟨RX10, TX10, 58, tyX10, rfl, by decide, rfl, uw_8, mTbl_at 1229 (by decide +kernel) rfl, tyX10_ok, nmX10⟩
theorem fl_X10_59 : mFL "BinProverModel" 59 8 39 := ⟨RX10, TX10, 58, tyX10, rfl, by decide, rfl, uw_8, mTbl_at 1232 (by decide +kernel) rfl, tyX10_ok, nmX10⟩
theorem fl_X10_62 : mFL "BinProverModel" 62 8 41 := ⟨RX10, TX10, 58, tyX10, rfl, by decide, rfl, uw_8, mTbl_at 1234 (by decide +kernel) rfl, tyX10_ok, nmX10⟩
theorem fl_X10_65 : mFL "BinProverModel" 65 8 42 := ⟨RX10, TX10, 58, tyX10, rfl, by decide, rfl, uw_8, mTbl_at 1235 (by decide +kernel) rfl, tyX10_ok, nmX10⟩
theorem fl_X10_68 : mFL "BinProverModel" 68 8 43 := ⟨RX10, TX10, 58, tyX10, rfl, by decide, rfl, uw_8, mTbl_at 1236 (by decide +kernel) rfl, tyX10_ok, nmX10⟩
theorem fl_X10_72 : mFL "BinProverModel" 72 8 50 := ⟨RX10, TX10, 58, tyX10, rfl, by decide, rfl, uw_8, mTbl_at 1243 (by decide +kernel) rfl, tyX10_ok, nmX10⟩
theorem fl_X10_75 : mFL "BinProverModel" 75 8 51 := ⟨RX10, TX10, 58, tyX10, rfl, by decide, rfl, uw_8, mTbl_at 1244 (by decide +kernel) rfl, tyX10_ok, nmX10⟩
theorem fl_X10_78 : mFL "BinProverModel" 78 8 52 := ⟨RX10, TX10, 58, tyX10, rfl, by decide, rfl, uw_8, mTbl_at 1245 (by decide +kernel) rfl, tyX10_ok, nmX10⟩
theorem fl_X10_81 : mFL "BinProverModel" 81 8 54 := ⟨RX10, TX10, 58, tyX10, rfl, by decide, rfl, uw_8, mTbl_at 1247 (by decide +kernel) rfl, tyX10_ok, nmX10⟩
theorem fl_X10_84 : mFL "BinProverModel" 84 8 55 := ⟨RX10, TX10, 58, tyX10, rfl, by decide, rfl, uw_8, mTbl_at 1248 (by decide +kernel) rfl, tyX10_ok, nmX10⟩
theorem fl_X10_87 : mFL "BinProverModel" 87 8 56 := ⟨RX10, TX10, 58, tyX10, rfl, by decide, rfl, uw_8, mTbl_at 1249 (by decide +kernel) rfl, tyX10_ok, nmX10⟩
theorem fl_X10_90 : mFL "BinProverModel" 90 8 5 := ⟨RX10, TX10, 58, tyX10, rfl, by decide, rfl, uw_8, mTbl_at 1198 (by decide +kernel) rfl, tyX10_ok, nmX10⟩
theorem fl_X10_93 : mFL "BinProverModel" 93 8 20 := ⟨RX10, TX10, 58, tyX10, rfl, by decide, rfl, uw_8, mTbl_at 1213 (by decide +kernel) rfl, tyX10_ok, nmX10⟩
theorem fl_X10_104 : mFL "BinProverModel" 104 8 18 := ⟨RX10, TX10, 58, tyX10, rfl, by decide, rfl, uw_8, mTbl_at 1211 (by decide +kernel) rfl, tyX10_ok, nmX10⟩
theorem fl_X10_107 : mFL "BinProverModel" 107 8 19 := ⟨RX10, TX10, 58, tyX10, rfl, by decide, rfl, uw_8, mTbl_at 1212 (by decide +kernel) rfl, tyX10_ok, nmX10⟩
theorem fl_X10_110 : mFL "BinProverModel" 110 8 23 := ⟨RX10, TX10, 58, tyX10, rfl, by decide, rfl, uw_8, mTbl_at 1216 (by decide +kernel) rfl, tyX10_ok, nmX10⟩
theorem fl_X10_113 : mFL "BinProverModel" 113 8 22 := ⟨RX10, TX10, 58, tyX10, rfl, by decide, rfl, uw_8, mTbl_at 1215 (by decide +kernel) rfl, tyX10_ok, nmX10⟩
theorem fl_X10_116 : mFL "BinProverModel" 116 8 21 := ⟨RX10, TX10, 58, tyX10, rfl, by decide, rfl, uw_8, mTbl_at 1214 (by decide +kernel) rfl, tyX10_ok, nmX10⟩
theorem fl_X10_127 : mFL "BinProverModel" 127 8 24 := ⟨RX10, TX10, 58, tyX10, rfl, by decide, rfl, uw_8, mTbl_at 1217 (by decide +kernel) rfl, tyX10_ok, nmX10⟩
theorem fl_X10_141 : mFL "BinProverModel" 141 8 28 := ⟨RX10, TX10, 58, tyX10, rfl, by decide, rfl, uw_8, mTbl_at 1221 (by decide +kernel) rfl, tyX10_ok, nmX10⟩
theorem fl_X10_144 : mFL "BinProverModel" 144 8 27 := ⟨RX10, TX10, 58, tyX10, rfl, by decide, rfl, uw_8, mTbl_at 1220 (by decide +kernel) rfl, tyX10_ok, nmX10⟩
theorem fl_X10_160 : mFL "BinProverModel" 160 8 29 := ⟨RX10, TX10, 58, tyX10, rfl, by decide, rfl, uw_8, mTbl_at 1222 (by decide +kernel) rfl, tyX10_ok, nmX10⟩
theorem fl_X10_163 : mFL "BinProverModel" 163 8 16 := ⟨RX10, TX10, 58, tyX10, rfl, by decide, rfl, uw_8, mTbl_at 1209 (by decide +kernel) rfl, tyX10_ok, nmX10⟩
theorem fl_X10_172 : mFL "BinProverModel" 172 8 7 := ⟨RX10, TX10, 58, tyX10, rfl, by decide, rfl, uw_8, mTbl_at 1200 (by decide +kernel) rfl, tyX10_ok, nmX10⟩
theorem fl_X10_175 : mFL "BinProverModel" 175 8 14 := ⟨RX10, TX10, 58, tyX10, rfl, by decide, rfl, uw_8, mTbl_at 1207 (by decide +kernel) rfl, tyX10_ok, nmX10⟩
theorem fl_X10_178 : mFL "BinProverModel" 178 8 10 := ⟨RX10, TX10, 58, tyX10, rfl, by decide, rfl, uw_8, mTbl_at 1203 (by decide +kernel) rfl, tyX10_ok, nmX10⟩
theorem fl_X10_181 : mFL "BinProverModel" 181 8 9 := ⟨RX10, TX10, 58, tyX10, rfl, by decide, rfl, uw_8, mTbl_at 1202 (by decide +kernel) rfl, tyX10_ok, nmX10⟩
theorem fl_X10_184 : mFL "BinProverModel" 184 8 8 := ⟨RX10, TX10, 58, tyX10, rfl, by decide, rfl, uw_8, mTbl_at 1201 (by decide +kernel) rfl, tyX10_ok, nmX10⟩
theorem fl_X10_187 : mFL "BinProverModel" 187 8 33 := ⟨RX10, TX10, 58, tyX10, rfl, by decide, rfl, uw_8, mTbl_at 1226 (by decide +kernel) rfl, tyX10_ok, nmX10⟩
theorem fl_X10_193 : mFL "BinProverModel" 193 8 38 := ⟨RX10, TX10, 58, tyX10, rfl, by decide, rfl, uw_8, mTbl_at 1231 (by decide +kernel) rfl, tyX10_ok, nmX10⟩
theorem fl_X10_199 : mFL "BinProverModel" 199 8 37 := ⟨RX10, TX10, 58, tyX10, rfl, by decide, rfl, uw_8, mTbl_at 1230 (by decide +kernel) rfl, tyX10_ok, nmX10⟩
theorem fl_X10_212 : mFL "BinProverModel" 212 8 40 := ⟨RX10, TX10, 58, tyX10, rfl, by decide, rfl, uw_8, mTbl_at 1233 (by decide +kernel) rfl, tyX10_ok, nmX10⟩
theorem fl_X10_238 : mFL "BinProverModel" 238 8 45 := ⟨RX10, TX10, 58, tyX10, rfl, by decide, rfl, uw_8, mTbl_at 1238 (by decide +kernel) rfl, tyX10_ok, nmX10⟩
theorem fl_X10_241 : mFL "BinProverModel" 241 8 49 := ⟨RX10, TX10, 58, tyX10, rfl, by decide, rfl, uw_8, mTbl_at 1242 (by decide +kernel) rfl, tyX10_ok, nmX10⟩
theorem fl_X10_245 : mFL "BinProverModel" 245 8 48 := ⟨RX10, TX10, 58, tyX10, rfl, by decide, rfl, uw_8, mTbl_at 1241 (by decide +kernel) rfl, tyX10_ok, nmX10⟩
theorem fl_X10_251 : mFL "BinProverModel" 251 8 44 := ⟨RX10, TX10, 58, tyX10, rfl, by decide, rfl, uw_8, mTbl_at 1237 (by decide +kernel) rfl, tyX10_ok, nmX10⟩
theorem fl_X10_254 : mFL "BinProverModel" 254 8 47 := ⟨RX10, TX10, 58, tyX10, rfl, by decide, rfl, uw_8, mTbl_at 1240 (by decide +kernel) rfl, tyX10_ok, nmX10⟩
theorem fl_X10_260 : mFL "BinProverModel" 260 8 46 := ⟨RX10, TX10, 58, tyX10, rfl, by decide, rfl, uw_8, mTbl_at 1239 (by decide +kernel) rfl, tyX10_ok, nmX10⟩
theorem fl_X10_289 : mFL "BinProverModel" 289 8 53 := ⟨RX10, TX10, 58, tyX10, rfl, by decide, rfl, uw_8, mTbl_at 1246 (by decide +kernel) rfl, tyX10_ok, nmX10⟩
theorem fl_X10_384 : mFL "BinProverModel" 384 8 57 := ⟨RX10, TX10, 58, tyX10, rfl, by decide, rfl, uw_8, mTbl_at 1250 (by decide +kernel) rfl, tyX10_ok, nmX10⟩
theorem fl_X10_391 : mFL "BinProverModel" 391 8 11 := ⟨RX10, TX10, 58, tyX10, rfl, by decide, rfl, uw_8, mTbl_at 1204 (by decide +kernel) rfl, tyX10_ok, nmX10⟩
theorem fl_X10_394 : mFL "BinProverModel" 394 8 12 := ⟨RX10, TX10, 58, tyX10, rfl, by decide, rfl, uw_8, mTbl_at 1205 (by decide +kernel) rfl, tyX10_ok, nmX10⟩
theorem fl_X10_397 : mFL "BinProverModel" 397 8 13 := ⟨RX10, TX10, 58, tyX10, rfl, by decide, rfl, uw_8, mTbl_at 1206 (by decide +kernel) rfl, tyX10_ok, nmX10⟩
theorem fw_0_0 : mFW 0 0 .int := fun C T N h => by
  have h : (RX1, TX1, 3) = (C, T, N) := Option.some.inj h
  cases h
  exact ⟨rfl, by decide +kernel⟩
theorem fw_0_1 : mFW 0 1 .int := fun C T N h => by
  have h : (RX1, TX1, 3) = (C, T, N) := Option.some.inj h
  cases h
  exact ⟨rfl, by decide +kernel⟩
theorem fw_1_0 : mFW 1 0 .int := fun C T N h => by
  have h : (RX2, TX2, 5) = (C, T, N) := Option.some.inj h
  cases h
  exact ⟨rfl, by decide +kernel⟩
theorem fw_1_1 : mFW 1 1 .int := fun C T N h => by
  have h : (RX2, TX2, 5) = (C, T, N) := Option.some.inj h
  cases h
  exact ⟨rfl, by decide +kernel⟩
theorem fw_2_3 : mFW 2 3 .int := fun C T N h => by
  have h : (RX3, TX3, 4) = (C, T, N) := Option.some.inj h
  cases h
  exact ⟨rfl, by decide +kernel⟩
theorem fw_3_2 : mFW 3 2 .int := fun C T N h => by
  have h : (RX4, TX4, 5) = (C, T, N) := Option.some.inj h
  cases h
  exact ⟨rfl, by decide +kernel⟩
theorem fw_3_3 : mFW 3 3 .int := fun C T N h => by
  have h : (RX4, TX4, 5) = (C, T, N) := Option.some.inj h
  cases h
  exact ⟨rfl, by decide +kernel⟩
theorem fw_4_2 : mFW 4 2 .int := fun C T N h => by
  have h : (RX6, TX6, 8) = (C, T, N) := Option.some.inj h
  cases h
  exact ⟨rfl, by decide +kernel⟩
theorem fw_4_3 : mFW 4 3 .int := fun C T N h => by
  have h : (RX6, TX6, 8) = (C, T, N) := Option.some.inj h
  cases h
  exact ⟨rfl, by decide +kernel⟩
theorem fw_4_4 : mFW 4 4 .int := fun C T N h => by
  have h : (RX6, TX6, 8) = (C, T, N) := Option.some.inj h
  cases h
  exact ⟨rfl, by decide +kernel⟩
theorem fw_4_5 : mFW 4 5 .int := fun C T N h => by
  have h : (RX6, TX6, 8) = (C, T, N) := Option.some.inj h
  cases h
  exact ⟨rfl, by decide +kernel⟩
theorem fw_4_6 : mFW 4 6 .int := fun C T N h => by
  have h : (RX6, TX6, 8) = (C, T, N) := Option.some.inj h
  cases h
  exact ⟨rfl, by decide +kernel⟩
theorem fw_4_7 : mFW 4 7 .int := fun C T N h => by
  have h : (RX6, TX6, 8) = (C, T, N) := Option.some.inj h
  cases h
  exact ⟨rfl, by decide +kernel⟩
theorem fw_5_2 : mFW 5 2 .int := fun C T N h => by
  have h : (RX7, TX7, 7) = (C, T, N) := Option.some.inj h
  cases h
  exact ⟨rfl, by decide +kernel⟩
theorem fw_5_3 : mFW 5 3 .int := fun C T N h => by
  have h : (RX7, TX7, 7) = (C, T, N) := Option.some.inj h
  cases h
  exact ⟨rfl, by decide +kernel⟩
theorem fw_6_1 : mFW 6 1 .int := fun C T N h => by
  have h : (RX8, TX8, 10) = (C, T, N) := Option.some.inj h
  cases h
  exact ⟨rfl, by decide +kernel⟩
theorem fw_6_2 : mFW 6 2 .int := fun C T N h => by
  have h : (RX8, TX8, 10) = (C, T, N) := Option.some.inj h
  cases h
  exact ⟨rfl, by decide +kernel⟩
theorem fw_6_3 : mFW 6 3 .int := fun C T N h => by
  have h : (RX8, TX8, 10) = (C, T, N) := Option.some.inj h
  cases h
  exact ⟨rfl, by decide +kernel⟩
theorem fw_6_4 : mFW 6 4 .int := fun C T N h => by
  have h : (RX8, TX8, 10) = (C, T, N) := Option.some.inj h
  cases h
  exact ⟨rfl, by decide +kernel⟩
theorem fw_6_5 : mFW 6 5 .int := fun C T N h => by
  have h : (RX8, TX8, 10) = (C, T, N) := Option.some.inj h
  cases h
  exact ⟨rfl, by decide +kernel⟩
theorem fw_6_6 : mFW 6 6 .boolean := fun C T N h => by
  have h : (RX8, TX8, 10) = (C, T, N) := Option.some.inj h
  cases h
  exact ⟨rfl, by decide +kernel⟩
theorem fw_7_1 : mFW 7 1 .int := fun C T N h => by
  have h : (RX9, TX9, 15) = (C, T, N) := Option.some.inj h
  cases h
  exact ⟨rfl, by decide +kernel⟩
theorem fw_7_2 : mFW 7 2 .int := fun C T N h => by
  have h : (RX9, TX9, 15) = (C, T, N) := Option.some.inj h
  cases h
  exact ⟨rfl, by decide +kernel⟩
theorem fw_7_3 : mFW 7 3 .boolean := fun C T N h => by
  have h : (RX9, TX9, 15) = (C, T, N) := Option.some.inj h
  cases h
  exact ⟨rfl, by decide +kernel⟩
theorem fw_8_5 : mFW 8 5 .int := fun C T N h => by
  have h : (RX10, TX10, 58) = (C, T, N) := Option.some.inj h
  cases h
  exact ⟨rfl, by decide +kernel⟩
theorem fw_8_6 : mFW 8 6 .int := fun C T N h => by
  have h : (RX10, TX10, 58) = (C, T, N) := Option.some.inj h
  cases h
  exact ⟨rfl, by decide +kernel⟩
theorem fw_8_7 : mFW 8 7 .int := fun C T N h => by
  have h : (RX10, TX10, 58) = (C, T, N) := Option.some.inj h
  cases h
  exact ⟨rfl, by decide +kernel⟩
theorem fw_8_8 : mFW 8 8 .int := fun C T N h => by
  have h : (RX10, TX10, 58) = (C, T, N) := Option.some.inj h
  cases h
  exact ⟨rfl, by decide +kernel⟩
theorem fw_8_9 : mFW 8 9 .int := fun C T N h => by
  have h : (RX10, TX10, 58) = (C, T, N) := Option.some.inj h
  cases h
  exact ⟨rfl, by decide +kernel⟩
theorem fw_8_10 : mFW 8 10 .int := fun C T N h => by
  have h : (RX10, TX10, 58) = (C, T, N) := Option.some.inj h
  cases h
  exact ⟨rfl, by decide +kernel⟩
theorem fw_8_11 : mFW 8 11 .int := fun C T N h => by
  have h : (RX10, TX10, 58) = (C, T, N) := Option.some.inj h
  cases h
  exact ⟨rfl, by decide +kernel⟩
theorem fw_8_12 : mFW 8 12 .int := fun C T N h => by
  have h : (RX10, TX10, 58) = (C, T, N) := Option.some.inj h
  cases h
  exact ⟨rfl, by decide +kernel⟩
theorem fw_8_13 : mFW 8 13 .int := fun C T N h => by
  have h : (RX10, TX10, 58) = (C, T, N) := Option.some.inj h
  cases h
  exact ⟨rfl, by decide +kernel⟩
theorem fw_8_14 : mFW 8 14 .int := fun C T N h => by
  have h : (RX10, TX10, 58) = (C, T, N) := Option.some.inj h
  cases h
  exact ⟨rfl, by decide +kernel⟩
theorem fw_8_16 : mFW 8 16 .int := fun C T N h => by
  have h : (RX10, TX10, 58) = (C, T, N) := Option.some.inj h
  cases h
  exact ⟨rfl, by decide +kernel⟩
theorem fw_8_17 : mFW 8 17 .int := fun C T N h => by
  have h : (RX10, TX10, 58) = (C, T, N) := Option.some.inj h
  cases h
  exact ⟨rfl, by decide +kernel⟩
theorem fw_8_18 : mFW 8 18 .int := fun C T N h => by
  have h : (RX10, TX10, 58) = (C, T, N) := Option.some.inj h
  cases h
  exact ⟨rfl, by decide +kernel⟩
theorem fw_8_19 : mFW 8 19 .int := fun C T N h => by
  have h : (RX10, TX10, 58) = (C, T, N) := Option.some.inj h
  cases h
  exact ⟨rfl, by decide +kernel⟩
theorem fw_8_20 : mFW 8 20 .int := fun C T N h => by
  have h : (RX10, TX10, 58) = (C, T, N) := Option.some.inj h
  cases h
  exact ⟨rfl, by decide +kernel⟩
theorem fw_8_21 : mFW 8 21 .int := fun C T N h => by
  have h : (RX10, TX10, 58) = (C, T, N) := Option.some.inj h
  cases h
  exact ⟨rfl, by decide +kernel⟩
theorem fw_8_22 : mFW 8 22 .int := fun C T N h => by
  have h : (RX10, TX10, 58) = (C, T, N) := Option.some.inj h
  cases h
  exact ⟨rfl, by decide +kernel⟩
theorem fw_8_23 : mFW 8 23 .int := fun C T N h => by
  have h : (RX10, TX10, 58) = (C, T, N) := Option.some.inj h
  cases h
  exact ⟨rfl, by decide +kernel⟩
theorem fw_8_24 : mFW 8 24 .int := fun C T N h => by
  have h : (RX10, TX10, 58) = (C, T, N) := Option.some.inj h
  cases h
  exact ⟨rfl, by decide +kernel⟩
theorem fw_8_27 : mFW 8 27 .int := fun C T N h => by
  have h : (RX10, TX10, 58) = (C, T, N) := Option.some.inj h
  cases h
  exact ⟨rfl, by decide +kernel⟩
theorem fw_8_28 : mFW 8 28 .int := fun C T N h => by
  have h : (RX10, TX10, 58) = (C, T, N) := Option.some.inj h
  cases h
  exact ⟨rfl, by decide +kernel⟩
theorem fw_8_29 : mFW 8 29 .int := fun C T N h => by
  have h : (RX10, TX10, 58) = (C, T, N) := Option.some.inj h
  cases h
  exact ⟨rfl, by decide +kernel⟩
theorem fw_8_33 : mFW 8 33 .int := fun C T N h => by
  have h : (RX10, TX10, 58) = (C, T, N) := Option.some.inj h
  cases h
  exact ⟨rfl, by decide +kernel⟩
theorem fw_8_37 : mFW 8 37 .int := fun C T N h => by
  have h : (RX10, TX10, 58) = (C, T, N) := Option.some.inj h
  cases h
  exact ⟨rfl, by decide +kernel⟩
theorem fw_8_38 : mFW 8 38 .int := fun C T N h => by
  have h : (RX10, TX10, 58) = (C, T, N) := Option.some.inj h
  cases h
  exact ⟨rfl, by decide +kernel⟩
theorem fw_8_40 : mFW 8 40 .int := fun C T N h => by
  have h : (RX10, TX10, 58) = (C, T, N) := Option.some.inj h
  cases h
  exact ⟨rfl, by decide +kernel⟩
theorem fw_8_44 : mFW 8 44 .int := fun C T N h => by
  have h : (RX10, TX10, 58) = (C, T, N) := Option.some.inj h
  cases h
  exact ⟨rfl, by decide +kernel⟩
theorem fw_8_45 : mFW 8 45 .int := fun C T N h => by
  have h : (RX10, TX10, 58) = (C, T, N) := Option.some.inj h
  cases h
  exact ⟨rfl, by decide +kernel⟩
theorem fw_8_46 : mFW 8 46 .int := fun C T N h => by
  have h : (RX10, TX10, 58) = (C, T, N) := Option.some.inj h
  cases h
  exact ⟨rfl, by decide +kernel⟩
theorem fw_8_47 : mFW 8 47 .int := fun C T N h => by
  have h : (RX10, TX10, 58) = (C, T, N) := Option.some.inj h
  cases h
  exact ⟨rfl, by decide +kernel⟩
theorem fw_8_48 : mFW 8 48 .int := fun C T N h => by
  have h : (RX10, TX10, 58) = (C, T, N) := Option.some.inj h
  cases h
  exact ⟨rfl, by decide +kernel⟩
theorem fw_8_49 : mFW 8 49 .boolean := fun C T N h => by
  have h : (RX10, TX10, 58) = (C, T, N) := Option.some.inj h
  cases h
  exact ⟨rfl, by decide +kernel⟩
theorem fw_8_53 : mFW 8 53 .int := fun C T N h => by
  have h : (RX10, TX10, 58) = (C, T, N) := Option.some.inj h
  cases h
  exact ⟨rfl, by decide +kernel⟩
theorem fw_8_57 : mFW 8 57 .int := fun C T N h => by
  have h : (RX10, TX10, 58) = (C, T, N) := Option.some.inj h
  cases h
  exact ⟨rfl, by decide +kernel⟩
abbrev qX9_apart : mMth := (yX9_apart, cX9_apart, 3, some .int)
theorem cm_X9_apart : mCm qX9_apart 1 := ⟨mTbl_at 91 (by decide +kernel) rfl, mTbl_at 852 (by decide +kernel) rfl, ⟨by decide +kernel, by decide +kernel⟩, by decide +kernel, by decide +kernel, by decide⟩
abbrev qX9_best : mMth := (yX9_best, cX9_best, 4, some .int)
theorem cm_X9_best : mCm qX9_best 2 := ⟨mTbl_at 91 (by decide +kernel) rfl, mTbl_at 1039 (by decide +kernel) rfl, ⟨by decide +kernel, by decide +kernel⟩, by decide +kernel, by decide +kernel, by decide⟩
abbrev qX9_bin : mMth := (yX9_bin, cX9_bin, 3, some .int)
theorem cm_X9_bin : mCm qX9_bin 2 := ⟨mTbl_at 91 (by decide +kernel) rfl, mTbl_at 898 (by decide +kernel) rfl, ⟨by decide +kernel, by decide +kernel⟩, by decide +kernel, by decide +kernel, by decide⟩
abbrev qX9_bound : mMth := (yX9_bound, cX9_bound, 3, some .int)
theorem cm_X9_bound : mCm qX9_bound 1 := ⟨mTbl_at 91 (by decide +kernel) rfl, mTbl_at 939 (by decide +kernel) rfl, ⟨by decide +kernel, by decide +kernel⟩, by decide +kernel, by decide +kernel, by decide⟩
abbrev qX9_copyFilled : mMth := (yX9_copyFilled, cX9_copyFilled, 3, some .int)
theorem cm_X9_copyFilled : mCm qX9_copyFilled 0 := ⟨mTbl_at 91 (by decide +kernel) rfl, mTbl_at 438 (by decide +kernel) rfl, ⟨by decide +kernel, by decide +kernel⟩, by decide +kernel, by decide +kernel, by decide⟩
abbrev qX9_count : mMth := (yX9_count, cX9_count, 2, some .int)
theorem cm_X9_count : mCm qX9_count 1 := ⟨mTbl_at 91 (by decide +kernel) rfl, mTbl_at 837 (by decide +kernel) rfl, ⟨by decide +kernel, by decide +kernel⟩, by decide +kernel, by decide +kernel, by decide⟩
abbrev qX9_critical : mMth := (yX9_critical, cX9_critical, 5, some .int)
theorem cm_X9_critical : mCm qX9_critical 1 := ⟨mTbl_at 91 (by decide +kernel) rfl, mTbl_at 849 (by decide +kernel) rfl, ⟨by decide +kernel, by decide +kernel⟩, by decide +kernel, by decide +kernel, by decide⟩
abbrev qX9_fault : mMth := (yX9_fault, cX9_fault, 1, some .int)
theorem cm_X9_fault : mCm qX9_fault 0 := ⟨mTbl_at 91 (by decide +kernel) rfl, mTbl_at 415 (by decide +kernel) rfl, ⟨by decide +kernel, by decide +kernel⟩, by decide +kernel, by decide +kernel, by decide⟩
abbrev qX9_feed : mMth := (yX9_feed, cX9_feed, 6, some .int)
theorem cm_X9_feed : mCm qX9_feed 5 := ⟨mTbl_at 91 (by decide +kernel) rfl, mTbl_at 407 (by decide +kernel) rfl, ⟨by decide +kernel, by decide +kernel⟩, by decide +kernel, by decide +kernel, by decide⟩
abbrev qX9_forget : mMth := (yX9_forget, cX9_forget, 1, none)
theorem cm_X9_forget : mCm qX9_forget 0 := ⟨mTbl_at 91 (by decide +kernel) rfl, mTbl_at 626 (by decide +kernel) rfl, ⟨by decide +kernel, by decide +kernel⟩, by decide +kernel, by decide +kernel, by decide⟩
abbrev qX9_freeAbove : mMth := (yX9_freeAbove, cX9_freeAbove, 4, some .int)
theorem cm_X9_freeAbove : mCm qX9_freeAbove 1 := ⟨mTbl_at 91 (by decide +kernel) rfl, mTbl_at 845 (by decide +kernel) rfl, ⟨by decide +kernel, by decide +kernel⟩, by decide +kernel, by decide +kernel, by decide⟩
abbrev qX9_freeIn : mMth := (yX9_freeIn, cX9_freeIn, 2, some .int)
theorem cm_X9_freeIn : mCm qX9_freeIn 1 := ⟨mTbl_at 91 (by decide +kernel) rfl, mTbl_at 488 (by decide +kernel) rfl, ⟨by decide +kernel, by decide +kernel⟩, by decide +kernel, by decide +kernel, by decide⟩
abbrev qX9_goods : mMth := (yX9_goods, cX9_goods, 3, some .int)
theorem cm_X9_goods : mCm qX9_goods 1 := ⟨mTbl_at 91 (by decide +kernel) rfl, mTbl_at 646 (by decide +kernel) rfl, ⟨by decide +kernel, by decide +kernel⟩, by decide +kernel, by decide +kernel, by decide⟩
abbrev qX9_guaranteed : mMth := (yX9_guaranteed, cX9_guaranteed, 4, some .int)
theorem cm_X9_guaranteed : mCm qX9_guaranteed 1 := ⟨mTbl_at 91 (by decide +kernel) rfl, mTbl_at 931 (by decide +kernel) rfl, ⟨by decide +kernel, by decide +kernel⟩, by decide +kernel, by decide +kernel, by decide⟩
abbrev qX9_high : mMth := (yX9_high, cX9_high, 4, some .int)
theorem cm_X9_high : mCm qX9_high 2 := ⟨mTbl_at 91 (by decide +kernel) rfl, mTbl_at 1071 (by decide +kernel) rfl, ⟨by decide +kernel, by decide +kernel⟩, by decide +kernel, by decide +kernel, by decide⟩
abbrev qX9_image : mMth := (yX9_image, cX9_image, 1, none)
theorem cm_X9_image : mCm qX9_image 0 := ⟨mTbl_at 91 (by decide +kernel) rfl, mTbl_at 630 (by decide +kernel) rfl, ⟨by decide +kernel, by decide +kernel⟩, by decide +kernel, by decide +kernel, by decide⟩
abbrev qX9_into : mMth := (yX9_into, cX9_into, 3, some .int)
theorem cm_X9_into : mCm qX9_into 2 := ⟨mTbl_at 91 (by decide +kernel) rfl, mTbl_at 923 (by decide +kernel) rfl, ⟨by decide +kernel, by decide +kernel⟩, by decide +kernel, by decide +kernel, by decide⟩
abbrev qX9_isSort : mMth := (yX9_isSort, cX9_isSort, 2, some .boolean)
theorem cm_X9_isSort : mCm qX9_isSort 1 := ⟨mTbl_at 91 (by decide +kernel) rfl, mTbl_at 423 (by decide +kernel) rfl, ⟨by decide +kernel, by decide +kernel⟩, by decide +kernel, by decide +kernel, by decide⟩
abbrev qX9_join : mMth := (yX9_join, cX9_join, 4, some .int)
theorem cm_X9_join : mCm qX9_join 2 := ⟨mTbl_at 91 (by decide +kernel) rfl, mTbl_at 606 (by decide +kernel) rfl, ⟨by decide +kernel, by decide +kernel⟩, by decide +kernel, by decide +kernel, by decide⟩
abbrev qX9_load : mMth := (yX9_load, cX9_load, 3, some .int)
theorem cm_X9_load : mCm qX9_load 0 := ⟨mTbl_at 91 (by decide +kernel) rfl, mTbl_at 515 (by decide +kernel) rfl, ⟨by decide +kernel, by decide +kernel⟩, by decide +kernel, by decide +kernel, by decide⟩
abbrev qX9_look : mMth := (yX9_look, cX9_look, 3, some .int)
theorem cm_X9_look : mCm qX9_look 1 := ⟨mTbl_at 91 (by decide +kernel) rfl, mTbl_at 1149 (by decide +kernel) rfl, ⟨by decide +kernel, by decide +kernel⟩, by decide +kernel, by decide +kernel, by decide⟩
abbrev qX9_needBin : mMth := (yX9_needBin, cX9_needBin, 2, none)
theorem cm_X9_needBin : mCm qX9_needBin 1 := ⟨mTbl_at 91 (by decide +kernel) rfl, mTbl_at 902 (by decide +kernel) rfl, ⟨by decide +kernel, by decide +kernel⟩, by decide +kernel, by decide +kernel, by decide⟩
abbrev qX9_needRule : mMth := (yX9_needRule, cX9_needRule, 2, none)
theorem cm_X9_needRule : mCm qX9_needRule 1 := ⟨mTbl_at 91 (by decide +kernel) rfl, mTbl_at 914 (by decide +kernel) rfl, ⟨by decide +kernel, by decide +kernel⟩, by decide +kernel, by decide +kernel, by decide⟩
abbrev qX9_needSort : mMth := (yX9_needSort, cX9_needSort, 2, none)
theorem cm_X9_needSort : mCm qX9_needSort 1 := ⟨mTbl_at 91 (by decide +kernel) rfl, mTbl_at 881 (by decide +kernel) rfl, ⟨by decide +kernel, by decide +kernel⟩, by decide +kernel, by decide +kernel, by decide⟩
abbrev qX9_needSortOrNone : mMth := (yX9_needSortOrNone, cX9_needSortOrNone, 2, none)
theorem cm_X9_needSortOrNone : mCm qX9_needSortOrNone 1 := ⟨mTbl_at 91 (by decide +kernel) rfl, mTbl_at 1019 (by decide +kernel) rfl, ⟨by decide +kernel, by decide +kernel⟩, by decide +kernel, by decide +kernel, by decide⟩
abbrev qX9_net : mMth := (yX9_net, cX9_net, 4, some .int)
theorem cm_X9_net : mCm qX9_net 1 := ⟨mTbl_at 91 (by decide +kernel) rfl, mTbl_at 1047 (by decide +kernel) rfl, ⟨by decide +kernel, by decide +kernel⟩, by decide +kernel, by decide +kernel, by decide⟩
abbrev qX9_note : mMth := (yX9_note, cX9_note, 3, some .int)
theorem cm_X9_note : mCm qX9_note 2 := ⟨mTbl_at 91 (by decide +kernel) rfl, mTbl_at 618 (by decide +kernel) rfl, ⟨by decide +kernel, by decide +kernel⟩, by decide +kernel, by decide +kernel, by decide⟩
abbrev qX9_odds : mMth := (yX9_odds, cX9_odds, 9, some .int)
theorem cm_X9_odds : mCm qX9_odds 2 := ⟨mTbl_at 91 (by decide +kernel) rfl, mTbl_at 1172 (by decide +kernel) rfl, ⟨by decide +kernel, by decide +kernel⟩, by decide +kernel, by decide +kernel, by decide⟩
abbrev qX9_other : mMth := (yX9_other, cX9_other, 3, some .int)
theorem cm_X9_other : mCm qX9_other 1 := ⟨mTbl_at 91 (by decide +kernel) rfl, mTbl_at 1118 (by decide +kernel) rfl, ⟨by decide +kernel, by decide +kernel⟩, by decide +kernel, by decide +kernel, by decide⟩
abbrev qX9_pack : mMth := (yX9_pack, cX9_pack, 5, some .int)
theorem cm_X9_pack : mCm qX9_pack 2 := ⟨mTbl_at 91 (by decide +kernel) rfl, mTbl_at 419 (by decide +kernel) rfl, ⟨by decide +kernel, by decide +kernel⟩, by decide +kernel, by decide +kernel, by decide⟩
abbrev qX9_pattern : mMth := (yX9_pattern, cX9_pattern, 4, some .int)
theorem cm_X9_pattern : mCm qX9_pattern 2 := ⟨mTbl_at 91 (by decide +kernel) rfl, mTbl_at 1015 (by decide +kernel) rfl, ⟨by decide +kernel, by decide +kernel⟩, by decide +kernel, by decide +kernel, by decide⟩
abbrev qX9_patterns : mMth := (yX9_patterns, cX9_patterns, 3, some .int)
theorem cm_X9_patterns : mCm qX9_patterns 1 := ⟨mTbl_at 91 (by decide +kernel) rfl, mTbl_at 978 (by decide +kernel) rfl, ⟨by decide +kernel, by decide +kernel⟩, by decide +kernel, by decide +kernel, by decide⟩
abbrev qX9_power : mMth := (yX9_power, cX9_power, 4, some .int)
theorem cm_X9_power : mCm qX9_power 2 := ⟨mTbl_at 91 (by decide +kernel) rfl, mTbl_at 1176 (by decide +kernel) rfl, ⟨by decide +kernel, by decide +kernel⟩, by decide +kernel, by decide +kernel, by decide⟩
abbrev qX9_put : mMth := (yX9_put, cX9_put, 3, some .int)
theorem cm_X9_put : mCm qX9_put 2 := ⟨mTbl_at 91 (by decide +kernel) rfl, mTbl_at 483 (by decide +kernel) rfl, ⟨by decide +kernel, by decide +kernel⟩, by decide +kernel, by decide +kernel, by decide⟩
abbrev qX9_refuseAct : mMth := (yX9_refuseAct, cX9_refuseAct, 1, some .int)
theorem cm_X9_refuseAct : mCm qX9_refuseAct 0 := ⟨mTbl_at 91 (by decide +kernel) rfl, mTbl_at 434 (by decide +kernel) rfl, ⟨by decide +kernel, by decide +kernel⟩, by decide +kernel, by decide +kernel, by decide⟩
abbrev qX9_rest : mMth := (yX9_rest, cX9_rest, 4, some .int)
theorem cm_X9_rest : mCm qX9_rest 2 := ⟨mTbl_at 91 (by decide +kernel) rfl, mTbl_at 510 (by decide +kernel) rfl, ⟨by decide +kernel, by decide +kernel⟩, by decide +kernel, by decide +kernel, by decide⟩
abbrev qX9_restNow : mMth := (yX9_restNow, cX9_restNow, 2, some (.object "BinProver$Lot"))
theorem cm_X9_restNow : mCm qX9_restNow 0 := ⟨mTbl_at 91 (by decide +kernel) rfl, mTbl_at 519 (by decide +kernel) rfl, ⟨by decide +kernel, by decide +kernel⟩, by decide +kernel, by decide +kernel, by decide⟩
abbrev qX9_restore : mMth := (yX9_restore, cX9_restore, 1, some .boolean)
theorem cm_X9_restore : mCm qX9_restore 0 := ⟨mTbl_at 91 (by decide +kernel) rfl, mTbl_at 638 (by decide +kernel) rfl, ⟨by decide +kernel, by decide +kernel⟩, by decide +kernel, by decide +kernel, by decide⟩
abbrev qX9_rule : mMth := (yX9_rule, cX9_rule, 2, some .int)
theorem cm_X9_rule : mCm qX9_rule 1 := ⟨mTbl_at 91 (by decide +kernel) rfl, mTbl_at 910 (by decide +kernel) rfl, ⟨by decide +kernel, by decide +kernel⟩, by decide +kernel, by decide +kernel, by decide⟩
abbrev qX9_sort : mMth := (yX9_sort, cX9_sort, 3, some .int)
theorem cm_X9_sort : mCm qX9_sort 2 := ⟨mTbl_at 91 (by decide +kernel) rfl, mTbl_at 877 (by decide +kernel) rfl, ⟨by decide +kernel, by decide +kernel⟩, by decide +kernel, by decide +kernel, by decide⟩
abbrev qX9_spare : mMth := (yX9_spare, cX9_spare, 6, some .int)
theorem cm_X9_spare : mCm qX9_spare 1 := ⟨mTbl_at 91 (by decide +kernel) rfl, mTbl_at 1106 (by decide +kernel) rfl, ⟨by decide +kernel, by decide +kernel⟩, by decide +kernel, by decide +kernel, by decide⟩
abbrev qX9_split : mMth := (yX9_split, cX9_split, 3, some .int)
theorem cm_X9_split : mCm qX9_split 1 := ⟨mTbl_at 91 (by decide +kernel) rfl, mTbl_at 962 (by decide +kernel) rfl, ⟨by decide +kernel, by decide +kernel⟩, by decide +kernel, by decide +kernel, by decide⟩
abbrev qX9_step : mMth := (yX9_step, cX9_step, 3, some .int)
theorem cm_X9_step : mCm qX9_step 1 := ⟨mTbl_at 91 (by decide +kernel) rfl, mTbl_at 970 (by decide +kernel) rfl, ⟨by decide +kernel, by decide +kernel⟩, by decide +kernel, by decide +kernel, by decide⟩
abbrev qX9_take : mMth := (yX9_take, cX9_take, 3, some .int)
theorem cm_X9_take : mCm qX9_take 2 := ⟨mTbl_at 91 (by decide +kernel) rfl, mTbl_at 492 (by decide +kernel) rfl, ⟨by decide +kernel, by decide +kernel⟩, by decide +kernel, by decide +kernel, by decide⟩
abbrev qX9_tapeInt : mMth := (yX9_tapeInt, cX9_tapeInt, 3, none)
theorem cm_X9_tapeInt : mCm qX9_tapeInt 1 := ⟨mTbl_at 91 (by decide +kernel) rfl, mTbl_at 411 (by decide +kernel) rfl, ⟨by decide +kernel, by decide +kernel⟩, by decide +kernel, by decide +kernel, by decide⟩
abbrev qX9_toHold : mMth := (yX9_toHold, cX9_toHold, 5, some .int)
theorem cm_X9_toHold : mCm qX9_toHold 1 := ⟨mTbl_at 91 (by decide +kernel) rfl, mTbl_at 1092 (by decide +kernel) rfl, ⟨by decide +kernel, by decide +kernel⟩, by decide +kernel, by decide +kernel, by decide⟩
abbrev qX9_topUp : mMth := (yX9_topUp, cX9_topUp, 4, some .int)
theorem cm_X9_topUp : mCm qX9_topUp 2 := ⟨mTbl_at 91 (by decide +kernel) rfl, mTbl_at 1081 (by decide +kernel) rfl, ⟨by decide +kernel, by decide +kernel⟩, by decide +kernel, by decide +kernel, by decide⟩
abbrev qX9_tree : mMth := (yX9_tree, cX9_tree, 2, some .int)
theorem cm_X9_tree : mCm qX9_tree 1 := ⟨mTbl_at 91 (by decide +kernel) rfl, mTbl_at 1031 (by decide +kernel) rfl, ⟨by decide +kernel, by decide +kernel⟩, by decide +kernel, by decide +kernel, by decide⟩
abbrev qX9_undo : mMth := (yX9_undo, cX9_undo, 1, some .int)
theorem cm_X9_undo : mCm qX9_undo 0 := ⟨mTbl_at 91 (by decide +kernel) rfl, mTbl_at 610 (by decide +kernel) rfl, ⟨by decide +kernel, by decide +kernel⟩, by decide +kernel, by decide +kernel, by decide⟩
abbrev qX9_wasteNow : mMth := (yX9_wasteNow, cX9_wasteNow, 1, some .int)
theorem cm_X9_wasteNow : mCm qX9_wasteNow 0 := ⟨mTbl_at 91 (by decide +kernel) rfl, mTbl_at 841 (by decide +kernel) rfl, ⟨by decide +kernel, by decide +kernel⟩, by decide +kernel, by decide +kernel, by decide⟩
abbrev qX9_years : mMth := (yX9_years, cX9_years, 12, some .int)
theorem cm_X9_years : mCm qX9_years 4 := ⟨mTbl_at 91 (by decide +kernel) rfl, mTbl_at 1183 (by decide +kernel) rfl, ⟨by decide +kernel, by decide +kernel⟩, by decide +kernel, by decide +kernel, by decide⟩
abbrev qX0_areaOf : mMth := (yX0_areaOf, cX0_areaOf, 2, some .int)
theorem cm_X0_areaOf : mCm qX0_areaOf 2 := ⟨mTbl_at 110 (by decide +kernel) rfl, mTbl_at 560 (by decide +kernel) rfl, ⟨by decide +kernel, by decide +kernel⟩, by decide +kernel, by decide +kernel, by decide⟩
abbrev qX0_bestSplit : mMth := (yX0_bestSplit, cX0_bestSplit, 6, some .int)
theorem cm_X0_bestSplit : mCm qX0_bestSplit 2 := ⟨mTbl_at 110 (by decide +kernel) rfl, mTbl_at 943 (by decide +kernel) rfl, ⟨by decide +kernel, by decide +kernel⟩, by decide +kernel, by decide +kernel, by decide⟩
abbrev qX0_bestStep : mMth := (yX0_bestStep, cX0_bestStep, 6, some .int)
theorem cm_X0_bestStep : mCm qX0_bestStep 2 := ⟨mTbl_at 110 (by decide +kernel) rfl, mTbl_at 947 (by decide +kernel) rfl, ⟨by decide +kernel, by decide +kernel⟩, by decide +kernel, by decide +kernel, by decide⟩
abbrev qX0_greatestOf : mMth := (yX0_greatestOf, cX0_greatestOf, 4, some .int)
theorem cm_X0_greatestOf : mCm qX0_greatestOf 2 := ⟨mTbl_at 110 (by decide +kernel) rfl, mTbl_at 951 (by decide +kernel) rfl, ⟨by decide +kernel, by decide +kernel⟩, by decide +kernel, by decide +kernel, by decide⟩
abbrev qX0_reaches : mMth := (yX0_reaches, cX0_reaches, 4, some .boolean)
theorem cm_X0_reaches : mCm qX0_reaches 3 := ⟨mTbl_at 110 (by decide +kernel) rfl, mTbl_at 557 (by decide +kernel) rfl, ⟨by decide +kernel, by decide +kernel⟩, by decide +kernel, by decide +kernel, by decide⟩
abbrev qX0_roundUp : mMth := (yX0_roundUp, cX0_roundUp, 2, some .int)
theorem cm_X0_roundUp : mCm qX0_roundUp 2 := ⟨mTbl_at 110 (by decide +kernel) rfl, mTbl_at 567 (by decide +kernel) rfl, ⟨by decide +kernel, by decide +kernel⟩, by decide +kernel, by decide +kernel, by decide⟩
abbrev qX0_splitOf : mMth := (yX0_splitOf, cX0_splitOf, 7, some .int)
theorem cm_X0_splitOf : mCm qX0_splitOf 3 := ⟨mTbl_at 110 (by decide +kernel) rfl, mTbl_at 576 (by decide +kernel) rfl, ⟨by decide +kernel, by decide +kernel⟩, by decide +kernel, by decide +kernel, by decide⟩
abbrev qX0_stepOf : mMth := (yX0_stepOf, cX0_stepOf, 7, some .int)
theorem cm_X0_stepOf : mCm qX0_stepOf 3 := ⟨mTbl_at 110 (by decide +kernel) rfl, mTbl_at 570 (by decide +kernel) rfl, ⟨by decide +kernel, by decide +kernel⟩, by decide +kernel, by decide +kernel, by decide⟩
abbrev qX1_agrees : mMth := (yX1_agrees, cX1_agrees, 5, some .boolean)
theorem cm_X1_agrees : mCm qX1_agrees 3 := ⟨mTbl_at 98 (by decide +kernel) rfl, mTbl_at 1123 (by decide +kernel) rfl, ⟨by decide +kernel, by decide +kernel⟩, by decide +kernel, by decide +kernel, by decide⟩
abbrev qX1_search : mMth := (yX1_search, cX1_search, 8, none)
theorem cm_X1_search : mCm qX1_search 4 := ⟨mTbl_at 98 (by decide +kernel) rfl, mTbl_at 1136 (by decide +kernel) rfl, ⟨by decide +kernel, by decide +kernel⟩, by decide +kernel, by decide +kernel, by decide⟩
abbrev qX1_see : mMth := (yX1_see, cX1_see, 4, none)
theorem cm_X1_see : mCm qX1_see 2 := ⟨mTbl_at 98 (by decide +kernel) rfl, mTbl_at 1142 (by decide +kernel) rfl, ⟨by decide +kernel, by decide +kernel⟩, by decide +kernel, by decide +kernel, by decide⟩
abbrev qX1_unlike : mMth := (yX1_unlike, cX1_unlike, 2, some .int)
theorem cm_X1_unlike : mCm qX1_unlike 1 := ⟨mTbl_at 98 (by decide +kernel) rfl, mTbl_at 1158 (by decide +kernel) rfl, ⟨by decide +kernel, by decide +kernel⟩, by decide +kernel, by decide +kernel, by decide⟩
abbrev qX1_widest : mMth := (yX1_widest, cX1_widest, 3, some .int)
theorem cm_X1_widest : mCm qX1_widest 0 := ⟨mTbl_at 98 (by decide +kernel) rfl, mTbl_at 1154 (by decide +kernel) rfl, ⟨by decide +kernel, by decide +kernel⟩, by decide +kernel, by decide +kernel, by decide⟩
abbrev qX2_arrange : mMth := (yX2_arrange, cX2_arrange, 3, none)
theorem cm_X2_arrange : mCm qX2_arrange 0 := ⟨mTbl_at 93 (by decide +kernel) rfl, mTbl_at 825 (by decide +kernel) rfl, ⟨by decide +kernel, by decide +kernel⟩, by decide +kernel, by decide +kernel, by decide⟩
abbrev qX2_becomeLike : mMth := (yX2_becomeLike, cX2_becomeLike, 2, none)
theorem cm_X2_becomeLike : mCm qX2_becomeLike 1 := ⟨mTbl_at 93 (by decide +kernel) rfl, mTbl_at 523 (by decide +kernel) rfl, ⟨by decide +kernel, by decide +kernel⟩, by decide +kernel, by decide +kernel, by decide⟩
abbrev qX2_cut : mMth := (yX2_cut, cX2_cut, 2, some .int)
theorem cm_X2_cut : mCm qX2_cut 2 := ⟨mTbl_at 93 (by decide +kernel) rfl, mTbl_at 573 (by decide +kernel) rfl, ⟨by decide +kernel, by decide +kernel⟩, by decide +kernel, by decide +kernel, by decide⟩
abbrev qX2_rankOf : mMth := (yX2_rankOf, cX2_rankOf, 3, some .int)
theorem cm_X2_rankOf : mCm qX2_rankOf 1 := ⟨mTbl_at 93 (by decide +kernel) rfl, mTbl_at 886 (by decide +kernel) rfl, ⟨by decide +kernel, by decide +kernel⟩, by decide +kernel, by decide +kernel, by decide⟩
abbrev qX2_tallest : mMth := (yX2_tallest, cX2_tallest, 3, some .int)
theorem cm_X2_tallest : mCm qX2_tallest 0 := ⟨mTbl_at 93 (by decide +kernel) rfl, mTbl_at 1098 (by decide +kernel) rfl, ⟨by decide +kernel, by decide +kernel⟩, by decide +kernel, by decide +kernel, by decide⟩
abbrev qX2_things : mMth := (yX2_things, cX2_things, 3, some .int)
theorem cm_X2_things : mCm qX2_things 0 := ⟨mTbl_at 93 (by decide +kernel) rfl, mTbl_at 1110 (by decide +kernel) rfl, ⟨by decide +kernel, by decide +kernel⟩, by decide +kernel, by decide +kernel, by decide⟩
abbrev qX2_weightOf : mMth := (yX2_weightOf, cX2_weightOf, 4, some .int)
theorem cm_X2_weightOf : mCm qX2_weightOf 1 := ⟨mTbl_at 93 (by decide +kernel) rfl, mTbl_at 564 (by decide +kernel) rfl, ⟨by decide +kernel, by decide +kernel⟩, by decide +kernel, by decide +kernel, by decide⟩
abbrev qX2_weightOfBin : mMth := (yX2_weightOfBin, cX2_weightOfBin, 5, some .int)
theorem cm_X2_weightOfBin : mCm qX2_weightOfBin 1 := ⟨mTbl_at 93 (by decide +kernel) rfl, mTbl_at 446 (by decide +kernel) rfl, ⟨by decide +kernel, by decide +kernel⟩, by decide +kernel, by decide +kernel, by decide⟩
abbrev qX3_arcsFrom : mMth := (yX3_arcsFrom, cX3_arcsFrom, 5, some .int)
theorem cm_X3_arcsFrom : mCm qX3_arcsFrom 3 := ⟨mTbl_at 97 (by decide +kernel) rfl, mTbl_at 999 (by decide +kernel) rfl, ⟨by decide +kernel, by decide +kernel⟩, by decide +kernel, by decide +kernel, by decide⟩
abbrev qX3_countArcs : mMth := (yX3_countArcs, cX3_countArcs, 8, some .int)
theorem cm_X3_countArcs : mCm qX3_countArcs 2 := ⟨mTbl_at 97 (by decide +kernel) rfl, mTbl_at 1064 (by decide +kernel) rfl, ⟨by decide +kernel, by decide +kernel⟩, by decide +kernel, by decide +kernel, by decide⟩
abbrev qX3_countPoints : mMth := (yX3_countPoints, cX3_countPoints, 8, some .int)
theorem cm_X3_countPoints : mCm qX3_countPoints 2 := ⟨mTbl_at 97 (by decide +kernel) rfl, mTbl_at 1052 (by decide +kernel) rfl, ⟨by decide +kernel, by decide +kernel⟩, by decide +kernel, by decide +kernel, by decide⟩
abbrev qX3_fillGreatest : mMth := (yX3_fillGreatest, cX3_fillGreatest, 9, none)
theorem cm_X3_fillGreatest : mCm qX3_fillGreatest 3 := ⟨mTbl_at 97 (by decide +kernel) rfl, mTbl_at 1085 (by decide +kernel) rfl, ⟨by decide +kernel, by decide +kernel⟩, by decide +kernel, by decide +kernel, by decide⟩
abbrev qX3_goFrom : mMth := (yX3_goFrom, cX3_goFrom, 8, none)
theorem cm_X3_goFrom : mCm qX3_goFrom 2 := ⟨mTbl_at 97 (by decide +kernel) rfl, mTbl_at 995 (by decide +kernel) rfl, ⟨by decide +kernel, by decide +kernel⟩, by decide +kernel, by decide +kernel, by decide⟩
abbrev qX3_highOf : mMth := (yX3_highOf, cX3_highOf, 5, some .int)
theorem cm_X3_highOf : mCm qX3_highOf 3 := ⟨mTbl_at 97 (by decide +kernel) rfl, mTbl_at 1060 (by decide +kernel) rfl, ⟨by decide +kernel, by decide +kernel⟩, by decide +kernel, by decide +kernel, by decide⟩
abbrev qX3_isPoint : mMth := (yX3_isPoint, cX3_isPoint, 4, some .boolean)
theorem cm_X3_isPoint : mCm qX3_isPoint 3 := ⟨mTbl_at 97 (by decide +kernel) rfl, mTbl_at 1056 (by decide +kernel) rfl, ⟨by decide +kernel, by decide +kernel⟩, by decide +kernel, by decide +kernel, by decide⟩
abbrev qX3_lay : mMth := (yX3_lay, cX3_lay, 4, none)
theorem cm_X3_lay : mCm qX3_lay 1 := ⟨mTbl_at 97 (by decide +kernel) rfl, mTbl_at 986 (by decide +kernel) rfl, ⟨by decide +kernel, by decide +kernel⟩, by decide +kernel, by decide +kernel, by decide⟩
abbrev qX3_reachOf : mMth := (yX3_reachOf, cX3_reachOf, 8, some .int)
theorem cm_X3_reachOf : mCm qX3_reachOf 3 := ⟨mTbl_at 97 (by decide +kernel) rfl, mTbl_at 990 (by decide +kernel) rfl, ⟨by decide +kernel, by decide +kernel⟩, by decide +kernel, by decide +kernel, by decide⟩
abbrev qX3_waysThrough : mMth := (yX3_waysThrough, cX3_waysThrough, 4, some .int)
theorem cm_X3_waysThrough : mCm qX3_waysThrough 1 := ⟨mTbl_at 97 (by decide +kernel) rfl, mTbl_at 982 (by decide +kernel) rfl, ⟨by decide +kernel, by decide +kernel⟩, by decide +kernel, by decide +kernel, by decide⟩
abbrev qX4_choose : mMth := (yX4_choose, cX4_choose, 7, some .int)
theorem cm_X4_choose : mCm qX4_choose 4 := ⟨mTbl_at 95 (by decide +kernel) rfl, mTbl_at 450 (by decide +kernel) rfl, ⟨by decide +kernel, by decide +kernel⟩, by decide +kernel, by decide +kernel, by decide⟩
abbrev qX4_isLiked : mMth := (yX4_isLiked, cX4_isLiked, 3, some .boolean)
theorem cm_X4_isLiked : mCm qX4_isLiked 3 := ⟨mTbl_at 95 (by decide +kernel) rfl, mTbl_at 456 (by decide +kernel) rfl, ⟨by decide +kernel, by decide +kernel⟩, by decide +kernel, by decide +kernel, by decide⟩
abbrev qX4_openBin : mMth := (yX4_openBin, cX4_openBin, 2, some .int)
theorem cm_X4_openBin : mCm qX4_openBin 0 := ⟨mTbl_at 95 (by decide +kernel) rfl, mTbl_at 541 (by decide +kernel) rfl, ⟨by decide +kernel, by decide +kernel⟩, by decide +kernel, by decide +kernel, by decide⟩
abbrev qX4_packAll : mMth := (yX4_packAll, cX4_packAll, 6, some .int)
theorem cm_X4_packAll : mCm qX4_packAll 2 := ⟨mTbl_at 95 (by decide +kernel) rfl, mTbl_at 532 (by decide +kernel) rfl, ⟨by decide +kernel, by decide +kernel⟩, by decide +kernel, by decide +kernel, by decide⟩
abbrev qX4_packOne : mMth := (yX4_packOne, cX4_packOne, 6, none)
theorem cm_X4_packOne : mCm qX4_packOne 4 := ⟨mTbl_at 95 (by decide +kernel) rfl, mTbl_at 536 (by decide +kernel) rfl, ⟨by decide +kernel, by decide +kernel⟩, by decide +kernel, by decide +kernel, by decide⟩
abbrev qX5_begin : mMth := (yX5_begin, cX5_begin, 4, none)
theorem cm_X5_begin : mCm qX5_begin 3 := ⟨mTbl_at 111 (by decide +kernel) rfl, mTbl_at 583 (by decide +kernel) rfl, ⟨by decide +kernel, by decide +kernel⟩, by decide +kernel, by decide +kernel, by decide⟩
abbrev qX5_countMaximal : mMth := (yX5_countMaximal, cX5_countMaximal, 5, some .int)
theorem cm_X5_countMaximal : mCm qX5_countMaximal 3 := ⟨mTbl_at 111 (by decide +kernel) rfl, mTbl_at 1004 (by decide +kernel) rfl, ⟨by decide +kernel, by decide +kernel⟩, by decide +kernel, by decide +kernel, by decide⟩
abbrev qX5_fillFrom : mMth := (yX5_fillFrom, cX5_fillFrom, 7, some .int)
theorem cm_X5_fillFrom : mCm qX5_fillFrom 4 := ⟨mTbl_at 111 (by decide +kernel) rfl, mTbl_at 586 (by decide +kernel) rfl, ⟨by decide +kernel, by decide +kernel⟩, by decide +kernel, by decide +kernel, by decide⟩
abbrev qX5_goOn : mMth := (yX5_goOn, cX5_goOn, 5, some .boolean)
theorem cm_X5_goOn : mCm qX5_goOn 3 := ⟨mTbl_at 111 (by decide +kernel) rfl, mTbl_at 593 (by decide +kernel) rfl, ⟨by decide +kernel, by decide +kernel⟩, by decide +kernel, by decide +kernel, by decide⟩
abbrev qX5_goTo : mMth := (yX5_goTo, cX5_goTo, 4, some .boolean)
theorem cm_X5_goTo : mCm qX5_goTo 3 := ⟨mTbl_at 111 (by decide +kernel) rfl, mTbl_at 1022 (by decide +kernel) rfl, ⟨by decide +kernel, by decide +kernel⟩, by decide +kernel, by decide +kernel, by decide⟩
abbrev qX5_isMaximal : mMth := (yX5_isMaximal, cX5_isMaximal, 5, some .boolean)
theorem cm_X5_isMaximal : mCm qX5_isMaximal 4 := ⟨mTbl_at 111 (by decide +kernel) rfl, mTbl_at 597 (by decide +kernel) rfl, ⟨by decide +kernel, by decide +kernel⟩, by decide +kernel, by decide +kernel, by decide⟩
abbrev qX6_begin : mMth := (yX6_begin, cX6_begin, 2, none)
theorem cm_X6_begin : mCm qX6_begin 0 := ⟨mTbl_at 92 (by decide +kernel) rfl, mTbl_at 720 (by decide +kernel) rfl, ⟨by decide +kernel, by decide +kernel⟩, by decide +kernel, by decide +kernel, by decide⟩
abbrev qX6_endOfToken : mMth := (yX6_endOfToken, cX6_endOfToken, 4, some .int)
theorem cm_X6_endOfToken : mCm qX6_endOfToken 3 := ⟨mTbl_at 92 (by decide +kernel) rfl, mTbl_at 727 (by decide +kernel) rfl, ⟨by decide +kernel, by decide +kernel⟩, by decide +kernel, by decide +kernel, by decide⟩
abbrev qX6_isBlank : mMth := (yX6_isBlank, cX6_isBlank, 1, some .boolean)
theorem cm_X6_isBlank : mCm qX6_isBlank 1 := ⟨mTbl_at 92 (by decide +kernel) rfl, mTbl_at 724 (by decide +kernel) rfl, ⟨by decide +kernel, by decide +kernel⟩, by decide +kernel, by decide +kernel, by decide⟩
abbrev qX6_isDigit : mMth := (yX6_isDigit, cX6_isDigit, 1, some .boolean)
theorem cm_X6_isDigit : mCm qX6_isDigit 1 := ⟨mTbl_at 92 (by decide +kernel) rfl, mTbl_at 733 (by decide +kernel) rfl, ⟨by decide +kernel, by decide +kernel⟩, by decide +kernel, by decide +kernel, by decide⟩
abbrev qX6_isLetter : mMth := (yX6_isLetter, cX6_isLetter, 1, some .boolean)
theorem cm_X6_isLetter : mCm qX6_isLetter 1 := ⟨mTbl_at 92 (by decide +kernel) rfl, mTbl_at 730 (by decide +kernel) rfl, ⟨by decide +kernel, by decide +kernel⟩, by decide +kernel, by decide +kernel, by decide⟩
abbrev qX6_isWord : mMth := (yX6_isWord, cX6_isWord, 5, some .boolean)
theorem cm_X6_isWord : mCm qX6_isWord 4 := ⟨mTbl_at 92 (by decide +kernel) rfl, mTbl_at 746 (by decide +kernel) rfl, ⟨by decide +kernel, by decide +kernel⟩, by decide +kernel, by decide +kernel, by decide⟩
abbrev qX6_numberOf : mMth := (yX6_numberOf, cX6_numberOf, 5, some .int)
theorem cm_X6_numberOf : mCm qX6_numberOf 3 := ⟨mTbl_at 92 (by decide +kernel) rfl, mTbl_at 799 (by decide +kernel) rfl, ⟨by decide +kernel, by decide +kernel⟩, by decide +kernel, by decide +kernel, by decide⟩
abbrev qX6_readText : mMth := (yX6_readText, cX6_readText, 7, some .int)
theorem cm_X6_readText : mCm qX6_readText 2 := ⟨mTbl_at 92 (by decide +kernel) rfl, mTbl_at 716 (by decide +kernel) rfl, ⟨by decide +kernel, by decide +kernel⟩, by decide +kernel, by decide +kernel, by decide⟩
abbrev qX6_takeCapacity : mMth := (yX6_takeCapacity, cX6_takeCapacity, 2, some .int)
theorem cm_X6_takeCapacity : mCm qX6_takeCapacity 1 := ⟨mTbl_at 92 (by decide +kernel) rfl, mTbl_at 807 (by decide +kernel) rfl, ⟨by decide +kernel, by decide +kernel⟩, by decide +kernel, by decide +kernel, by decide⟩
abbrev qX6_takeNumber : mMth := (yX6_takeNumber, cX6_takeNumber, 2, some .int)
theorem cm_X6_takeNumber : mCm qX6_takeNumber 1 := ⟨mTbl_at 92 (by decide +kernel) rfl, mTbl_at 803 (by decide +kernel) rfl, ⟨by decide +kernel, by decide +kernel⟩, by decide +kernel, by decide +kernel, by decide⟩
abbrev qX6_takeRest : mMth := (yX6_takeRest, cX6_takeRest, 2, some .int)
theorem cm_X6_takeRest : mCm qX6_takeRest 1 := ⟨mTbl_at 92 (by decide +kernel) rfl, mTbl_at 815 (by decide +kernel) rfl, ⟨by decide +kernel, by decide +kernel⟩, by decide +kernel, by decide +kernel, by decide⟩
abbrev qX6_takeSize : mMth := (yX6_takeSize, cX6_takeSize, 2, some .int)
theorem cm_X6_takeSize : mCm qX6_takeSize 1 := ⟨mTbl_at 92 (by decide +kernel) rfl, mTbl_at 811 (by decide +kernel) rfl, ⟨by decide +kernel, by decide +kernel⟩, by decide +kernel, by decide +kernel, by decide⟩
abbrev qX6_takeSort : mMth := (yX6_takeSort, cX6_takeSort, 3, some .int)
theorem cm_X6_takeSort : mCm qX6_takeSort 1 := ⟨mTbl_at 92 (by decide +kernel) rfl, mTbl_at 820 (by decide +kernel) rfl, ⟨by decide +kernel, by decide +kernel⟩, by decide +kernel, by decide +kernel, by decide⟩
abbrev qX6_takeToken : mMth := (yX6_takeToken, cX6_takeToken, 4, some .int)
theorem cm_X6_takeToken : mCm qX6_takeToken 3 := ⟨mTbl_at 92 (by decide +kernel) rfl, mTbl_at 738 (by decide +kernel) rfl, ⟨by decide +kernel, by decide +kernel⟩, by decide +kernel, by decide +kernel, by decide⟩
abbrev qX6_takeWord : mMth := (yX6_takeWord, cX6_takeWord, 4, some .int)
theorem cm_X6_takeWord : mCm qX6_takeWord 3 := ⟨mTbl_at 92 (by decide +kernel) rfl, mTbl_at 742 (by decide +kernel) rfl, ⟨by decide +kernel, by decide +kernel⟩, by decide +kernel, by decide +kernel, by decide⟩
abbrev qX7_addBin : mMth := (yX7_addBin, cX7_addBin, 4, none)
theorem cm_X7_addBin : mCm qX7_addBin 1 := ⟨mTbl_at 94 (by decide +kernel) rfl, mTbl_at 467 (by decide +kernel) rfl, ⟨by decide +kernel, by decide +kernel⟩, by decide +kernel, by decide +kernel, by decide⟩
abbrev qX7_addNote : mMth := (yX7_addNote, cX7_addNote, 3, some .boolean)
theorem cm_X7_addNote : mCm qX7_addNote 2 := ⟨mTbl_at 94 (by decide +kernel) rfl, mTbl_at 622 (by decide +kernel) rfl, ⟨by decide +kernel, by decide +kernel⟩, by decide +kernel, by decide +kernel, by decide⟩
abbrev qX7_becomeLike : mMth := (yX7_becomeLike, cX7_becomeLike, 2, none)
theorem cm_X7_becomeLike : mCm qX7_becomeLike 1 := ⟨mTbl_at 94 (by decide +kernel) rfl, mTbl_at 634 (by decide +kernel) rfl, ⟨by decide +kernel, by decide +kernel⟩, by decide +kernel, by decide +kernel, by decide⟩
abbrev qX7_beginWith : mMth := (yX7_beginWith, cX7_beginWith, 3, none)
theorem cm_X7_beginWith : mCm qX7_beginWith 1 := ⟨mTbl_at 94 (by decide +kernel) rfl, mTbl_at 829 (by decide +kernel) rfl, ⟨by decide +kernel, by decide +kernel⟩, by decide +kernel, by decide +kernel, by decide⟩
abbrev qX7_bins : mMth := (yX7_bins, cX7_bins, 1, some .int)
theorem cm_X7_bins : mCm qX7_bins 0 := ⟨mTbl_at 94 (by decide +kernel) rfl, mTbl_at 442 (by decide +kernel) rfl, ⟨by decide +kernel, by decide +kernel⟩, by decide +kernel, by decide +kernel, by decide⟩
abbrev qX7_binsOfNote : mMth := (yX7_binsOfNote, cX7_binsOfNote, 2, some .int)
theorem cm_X7_binsOfNote : mCm qX7_binsOfNote 1 := ⟨mTbl_at 94 (by decide +kernel) rfl, mTbl_at 1132 (by decide +kernel) rfl, ⟨by decide +kernel, by decide +kernel⟩, by decide +kernel, by decide +kernel, by decide⟩
abbrev qX7_dropBin : mMth := (yX7_dropBin, cX7_dropBin, 3, none)
theorem cm_X7_dropBin : mCm qX7_dropBin 1 := ⟨mTbl_at 94 (by decide +kernel) rfl, mTbl_at 506 (by decide +kernel) rfl, ⟨by decide +kernel, by decide +kernel⟩, by decide +kernel, by decide +kernel, by decide⟩
abbrev qX7_goBack : mMth := (yX7_goBack, cX7_goBack, 1, some .boolean)
theorem cm_X7_goBack : mCm qX7_goBack 0 := ⟨mTbl_at 94 (by decide +kernel) rfl, mTbl_at 614 (by decide +kernel) rfl, ⟨by decide +kernel, by decide +kernel⟩, by decide +kernel, by decide +kernel, by decide⟩
abbrev qX7_inBins : mMth := (yX7_inBins, cX7_inBins, 4, some .int)
theorem cm_X7_inBins : mCm qX7_inBins 1 := ⟨mTbl_at 94 (by decide +kernel) rfl, mTbl_at 890 (by decide +kernel) rfl, ⟨by decide +kernel, by decide +kernel⟩, by decide +kernel, by decide +kernel, by decide⟩
abbrev qX7_isBin : mMth := (yX7_isBin, cX7_isBin, 2, some .boolean)
theorem cm_X7_isBin : mCm qX7_isBin 1 := ⟨mTbl_at 94 (by decide +kernel) rfl, mTbl_at 476 (by decide +kernel) rfl, ⟨by decide +kernel, by decide +kernel⟩, by decide +kernel, by decide +kernel, by decide⟩
abbrev qX7_moveIn : mMth := (yX7_moveIn, cX7_moveIn, 3, none)
theorem cm_X7_moveIn : mCm qX7_moveIn 2 := ⟨mTbl_at 94 (by decide +kernel) rfl, mTbl_at 472 (by decide +kernel) rfl, ⟨by decide +kernel, by decide +kernel⟩, by decide +kernel, by decide +kernel, by decide⟩
abbrev qX7_moveOut : mMth := (yX7_moveOut, cX7_moveOut, 3, none)
theorem cm_X7_moveOut : mCm qX7_moveOut 2 := ⟨mTbl_at 94 (by decide +kernel) rfl, mTbl_at 502 (by decide +kernel) rfl, ⟨by decide +kernel, by decide +kernel⟩, by decide +kernel, by decide +kernel, by decide⟩
abbrev qX7_one : mMth := (yX7_one, cX7_one, 1, some .long)
theorem cm_X7_one : mCm qX7_one 1 := ⟨mTbl_at 94 (by decide +kernel) rfl, mTbl_at 479 (by decide +kernel) rfl, ⟨by decide +kernel, by decide +kernel⟩, by decide +kernel, by decide +kernel, by decide⟩
abbrev qX7_part : mMth := (yX7_part, cX7_part, 3, some .int)
theorem cm_X7_part : mCm qX7_part 2 := ⟨mTbl_at 94 (by decide +kernel) rfl, mTbl_at 430 (by decide +kernel) rfl, ⟨by decide +kernel, by decide +kernel⟩, by decide +kernel, by decide +kernel, by decide⟩
abbrev qX7_remember : mMth := (yX7_remember, cX7_remember, 1, none)
theorem cm_X7_remember : mCm qX7_remember 0 := ⟨mTbl_at 94 (by decide +kernel) rfl, mTbl_at 460 (by decide +kernel) rfl, ⟨by decide +kernel, by decide +kernel⟩, by decide +kernel, by decide +kernel, by decide⟩
abbrev qX7_restOf : mMth := (yX7_restOf, cX7_restOf, 2, some .int)
theorem cm_X7_restOf : mCm qX7_restOf 1 := ⟨mTbl_at 94 (by decide +kernel) rfl, mTbl_at 427 (by decide +kernel) rfl, ⟨by decide +kernel, by decide +kernel⟩, by decide +kernel, by decide +kernel, by decide⟩
abbrev qX7_restOfAll : mMth := (yX7_restOfAll, cX7_restOfAll, 3, some .int)
theorem cm_X7_restOfAll : mCm qX7_restOfAll 0 := ⟨mTbl_at 94 (by decide +kernel) rfl, mTbl_at 497 (by decide +kernel) rfl, ⟨by decide +kernel, by decide +kernel⟩, by decide +kernel, by decide +kernel, by decide⟩
abbrev qX7_ruleOfNote : mMth := (yX7_ruleOfNote, cX7_ruleOfNote, 2, some .int)
theorem cm_X7_ruleOfNote : mCm qX7_ruleOfNote 1 := ⟨mTbl_at 94 (by decide +kernel) rfl, mTbl_at 1127 (by decide +kernel) rfl, ⟨by decide +kernel, by decide +kernel⟩, by decide +kernel, by decide +kernel, by decide⟩
abbrev qX8_branch : mMth := (yX8_branch, cX8_branch, 7, none)
theorem cm_X8_branch : mCm qX8_branch 3 := ⟨mTbl_at 96 (by decide +kernel) rfl, mTbl_at 580 (by decide +kernel) rfl, ⟨by decide +kernel, by decide +kernel⟩, by decide +kernel, by decide +kernel, by decide⟩
abbrev qX8_fewestOf : mMth := (yX8_fewestOf, cX8_fewestOf, 2, some .int)
theorem cm_X8_fewestOf : mCm qX8_fewestOf 1 := ⟨mTbl_at 96 (by decide +kernel) rfl, mTbl_at 528 (by decide +kernel) rfl, ⟨by decide +kernel, by decide +kernel⟩, by decide +kernel, by decide +kernel, by decide⟩
abbrev qX8_finish : mMth := (yX8_finish, cX8_finish, 3, none)
theorem cm_X8_finish : mCm qX8_finish 1 := ⟨mTbl_at 96 (by decide +kernel) rfl, mTbl_at 554 (by decide +kernel) rfl, ⟨by decide +kernel, by decide +kernel⟩, by decide +kernel, by decide +kernel, by decide⟩
abbrev qX8_firstBin : mMth := (yX8_firstBin, cX8_firstBin, 4, some .long)
theorem cm_X8_firstBin : mCm qX8_firstBin 0 := ⟨mTbl_at 96 (by decide +kernel) rfl, mTbl_at 601 (by decide +kernel) rfl, ⟨by decide +kernel, by decide +kernel⟩, by decide +kernel, by decide +kernel, by decide⟩
abbrev qX8_firstLeft : mMth := (yX8_firstLeft, cX8_firstLeft, 3, some .int)
theorem cm_X8_firstLeft : mCm qX8_firstLeft 2 := ⟨mTbl_at 96 (by decide +kernel) rfl, mTbl_at 550 (by decide +kernel) rfl, ⟨by decide +kernel, by decide +kernel⟩, by decide +kernel, by decide +kernel, by decide⟩
abbrev qX8_meet : mMth := (yX8_meet, cX8_meet, 4, none)
theorem cm_X8_meet : mCm qX8_meet 2 := ⟨mTbl_at 96 (by decide +kernel) rfl, mTbl_at 546 (by decide +kernel) rfl, ⟨by decide +kernel, by decide +kernel⟩, by decide +kernel, by decide +kernel, by decide⟩
abbrev qL_best : mMth := (yL_best, cL_best, 5, some .int)
abbrev qL_bin : mMth := (yL_bin, cL_bin, 5, some .int)
abbrev qL_bound : mMth := (yL_bound, cL_bound, 4, some .int)
abbrev qL_count : mMth := (yL_count, cL_count, 4, some .int)
abbrev qL_goods : mMth := (yL_goods, cL_goods, 4, some .int)
abbrev qL_guaranteed : mMth := (yL_guaranteed, cL_guaranteed, 4, some .int)
abbrev qL_high : mMth := (yL_high, cL_high, 5, some .int)
abbrev qL_into : mMth := (yL_into, cL_into, 5, some .int)
abbrev qL_law : mMth := (yL_law, cL_law, 7, some .boolean)
abbrev qL_look : mMth := (yL_look, cL_look, 4, some .int)
abbrev qL_net : mMth := (yL_net, cL_net, 4, some .int)
abbrev qL_odds : mMth := (yL_odds, cL_odds, 5, some .int)
abbrev qL_other : mMth := (yL_other, cL_other, 4, some .int)
abbrev qL_pattern : mMth := (yL_pattern, cL_pattern, 5, some .int)
abbrev qL_patterns : mMth := (yL_patterns, cL_patterns, 4, some .int)
abbrev qL_rule : mMth := (yL_rule, cL_rule, 4, some .int)
abbrev qL_sort : mMth := (yL_sort, cL_sort, 5, some .int)
abbrev qL_spare : mMth := (yL_spare, cL_spare, 4, some .int)
abbrev qL_split : mMth := (yL_split, cL_split, 4, some .int)
abbrev qL_step : mMth := (yL_step, cL_step, 4, some .int)
abbrev qL_toHold : mMth := (yL_toHold, cL_toHold, 4, some .int)
abbrev qL_topUp : mMth := (yL_topUp, cL_topUp, 5, some .int)
abbrev qL_tree : mMth := (yL_tree, cL_tree, 4, some .int)
abbrev qL_years : mMth := (yL_years, cL_years, 7, some .int)
abbrev qX10_apart : mMth := (yX10_apart, cX10_apart, 4, some .int)
theorem cm_X10_apart : mCm qX10_apart 0 := ⟨mTbl_at 99 (by decide +kernel) rfl, mTbl_at 1553 (by decide +kernel) rfl, ⟨by decide +kernel, by decide +kernel⟩, by decide +kernel, by decide +kernel, by decide⟩
abbrev qX10_arcs : mMth := (yX10_arcs, cX10_arcs, 6, some .int)
theorem cm_X10_arcs : mCm qX10_arcs 1 := ⟨mTbl_at 99 (by decide +kernel) rfl, mTbl_at 1645 (by decide +kernel) rfl, ⟨by decide +kernel, by decide +kernel⟩, by decide +kernel, by decide +kernel, by decide⟩
abbrev qX10_area : mMth := (yX10_area, cX10_area, 5, some .int)
theorem cm_X10_area : mCm qX10_area 2 := ⟨mTbl_at 99 (by decide +kernel) rfl, mTbl_at 1506 (by decide +kernel) rfl, ⟨by decide +kernel, by decide +kernel⟩, by decide +kernel, by decide +kernel, by decide⟩
abbrev qX10_begins : mMth := (yX10_begins, cX10_begins, 5, none)
theorem cm_X10_begins : mCm qX10_begins 3 := ⟨mTbl_at 99 (by decide +kernel) rfl, mTbl_at 1545 (by decide +kernel) rfl, ⟨by decide +kernel, by decide +kernel⟩, by decide +kernel, by decide +kernel, by decide⟩
abbrev qX10_best : mMth := (yX10_best, cX10_best, 3, some .int)
theorem cm_X10_best : mCm qX10_best 2 := ⟨mTbl_at 99 (by decide +kernel) rfl, mTbl_at 1621 (by decide +kernel) rfl, ⟨by decide +kernel, by decide +kernel⟩, by decide +kernel, by decide +kernel, by decide⟩
abbrev qX10_bin : mMth := (yX10_bin, cX10_bin, 3, some .int)
theorem cm_X10_bin : mCm qX10_bin 2 := ⟨mTbl_at 99 (by decide +kernel) rfl, mTbl_at 1573 (by decide +kernel) rfl, ⟨by decide +kernel, by decide +kernel⟩, by decide +kernel, by decide +kernel, by decide⟩
abbrev qX10_binAt : mMth := (yX10_binAt, cX10_binAt, 1, some .int)
theorem cm_X10_binAt : mCm qX10_binAt 1 := ⟨mTbl_at 99 (by decide +kernel) rfl, mTbl_at 1455 (by decide +kernel) rfl, ⟨by decide +kernel, by decide +kernel⟩, by decide +kernel, by decide +kernel, by decide⟩
abbrev qX10_binTold : mMth := (yX10_binTold, cX10_binTold, 4, none)
theorem cm_X10_binTold : mCm qX10_binTold 0 := ⟨mTbl_at 99 (by decide +kernel) rfl, mTbl_at 1428 (by decide +kernel) rfl, ⟨by decide +kernel, by decide +kernel⟩, by decide +kernel, by decide +kernel, by decide⟩
abbrev qX10_bins : mMth := (yX10_bins, cX10_bins, 1, some .int)
theorem cm_X10_bins : mCm qX10_bins 0 := ⟨mTbl_at 99 (by decide +kernel) rfl, mTbl_at 1444 (by decide +kernel) rfl, ⟨by decide +kernel, by decide +kernel⟩, by decide +kernel, by decide +kernel, by decide⟩
abbrev qX10_bound : mMth := (yX10_bound, cX10_bound, 3, some .int)
theorem cm_X10_bound : mCm qX10_bound 1 := ⟨mTbl_at 99 (by decide +kernel) rfl, mTbl_at 1597 (by decide +kernel) rfl, ⟨by decide +kernel, by decide +kernel⟩, by decide +kernel, by decide +kernel, by decide⟩
abbrev qX10_bounds : mMth := (yX10_bounds, cX10_bounds, 3, some .int)
theorem cm_X10_bounds : mCm qX10_bounds 2 := ⟨mTbl_at 99 (by decide +kernel) rfl, mTbl_at 1502 (by decide +kernel) rfl, ⟨by decide +kernel, by decide +kernel⟩, by decide +kernel, by decide +kernel, by decide⟩
abbrev qX10_byteAt : mMth := (yX10_byteAt, cX10_byteAt, 2, some .int)
theorem cm_X10_byteAt : mCm qX10_byteAt 1 := ⟨mTbl_at 99 (by decide +kernel) rfl, mTbl_at 1392 (by decide +kernel) rfl, ⟨by decide +kernel, by decide +kernel⟩, by decide +kernel, by decide +kernel, by decide⟩
abbrev qX10_chooses : mMth := (yX10_chooses, cX10_chooses, 5, some .boolean)
theorem cm_X10_chooses : mCm qX10_chooses 1 := ⟨mTbl_at 99 (by decide +kernel) rfl, mTbl_at 1529 (by decide +kernel) rfl, ⟨by decide +kernel, by decide +kernel⟩, by decide +kernel, by decide +kernel, by decide⟩
abbrev qX10_clause : mMth := (yX10_clause, cX10_clause, 2, none)
theorem cm_X10_clause : mCm qX10_clause 0 := ⟨mTbl_at 99 (by decide +kernel) rfl, mTbl_at 1405 (by decide +kernel) rfl, ⟨by decide +kernel, by decide +kernel⟩, by decide +kernel, by decide +kernel, by decide⟩
abbrev qX10_comesInto : mMth := (yX10_comesInto, cX10_comesInto, 4, some .int)
theorem cm_X10_comesInto : mCm qX10_comesInto 2 := ⟨mTbl_at 99 (by decide +kernel) rfl, mTbl_at 1483 (by decide +kernel) rfl, ⟨by decide +kernel, by decide +kernel⟩, by decide +kernel, by decide +kernel, by decide⟩
abbrev qX10_copies : mMth := (yX10_copies, cX10_copies, 5, none)
theorem cm_X10_copies : mCm qX10_copies 3 := ⟨mTbl_at 99 (by decide +kernel) rfl, mTbl_at 1680 (by decide +kernel) rfl, ⟨by decide +kernel, by decide +kernel⟩, by decide +kernel, by decide +kernel, by decide⟩
abbrev qX10_count : mMth := (yX10_count, cX10_count, 2, some .int)
theorem cm_X10_count : mCm qX10_count 1 := ⟨mTbl_at 99 (by decide +kernel) rfl, mTbl_at 1436 (by decide +kernel) rfl, ⟨by decide +kernel, by decide +kernel⟩, by decide +kernel, by decide +kernel, by decide⟩
abbrev qX10_critical : mMth := (yX10_critical, cX10_critical, 4, some .int)
theorem cm_X10_critical : mCm qX10_critical 0 := ⟨mTbl_at 99 (by decide +kernel) rfl, mTbl_at 1459 (by decide +kernel) rfl, ⟨by decide +kernel, by decide +kernel⟩, by decide +kernel, by decide +kernel, by decide⟩
abbrev qX10_draw : mMth := (yX10_draw, cX10_draw, 2, some .int)
theorem cm_X10_draw : mCm qX10_draw 1 := ⟨mTbl_at 99 (by decide +kernel) rfl, mTbl_at 1760 (by decide +kernel) rfl, ⟨by decide +kernel, by decide +kernel⟩, by decide +kernel, by decide +kernel, by decide⟩
abbrev qX10_dropsBin : mMth := (yX10_dropsBin, cX10_dropsBin, 3, none)
theorem cm_X10_dropsBin : mCm qX10_dropsBin 1 := ⟨mTbl_at 99 (by decide +kernel) rfl, mTbl_at 1692 (by decide +kernel) rfl, ⟨by decide +kernel, by decide +kernel⟩, by decide +kernel, by decide +kernel, by decide⟩
abbrev qX10_fault : mMth := (yX10_fault, cX10_fault, 1, some .int)
theorem cm_X10_fault : mCm qX10_fault 0 := ⟨mTbl_at 99 (by decide +kernel) rfl, mTbl_at 1432 (by decide +kernel) rfl, ⟨by decide +kernel, by decide +kernel⟩, by decide +kernel, by decide +kernel, by decide⟩
abbrev qX10_feed : mMth := (yX10_feed, cX10_feed, 8, some .int)
theorem cm_X10_feed : mCm qX10_feed 5 := ⟨mTbl_at 99 (by decide +kernel) rfl, mTbl_at 1376 (by decide +kernel) rfl, ⟨by decide +kernel, by decide +kernel⟩, by decide +kernel, by decide +kernel, by decide⟩
abbrev qX10_fewestNow : mMth := (yX10_fewestNow, cX10_fewestNow, 1, some .int)
theorem cm_X10_fewestNow : mCm qX10_fewestNow 0 := ⟨mTbl_at 99 (by decide +kernel) rfl, mTbl_at 1463 (by decide +kernel) rfl, ⟨by decide +kernel, by decide +kernel⟩, by decide +kernel, by decide +kernel, by decide⟩
abbrev qX10_fills : mMth := (yX10_fills, cX10_fills, 9, none)
theorem cm_X10_fills : mCm qX10_fills 4 := ⟨mTbl_at 99 (by decide +kernel) rfl, mTbl_at 1537 (by decide +kernel) rfl, ⟨by decide +kernel, by decide +kernel⟩, by decide +kernel, by decide +kernel, by decide⟩
abbrev qX10_fine : mMth := (yX10_fine, cX10_fine, 3, some .boolean)
theorem cm_X10_fine : mCm qX10_fine 2 := ⟨mTbl_at 99 (by decide +kernel) rfl, mTbl_at 1384 (by decide +kernel) rfl, ⟨by decide +kernel, by decide +kernel⟩, by decide +kernel, by decide +kernel, by decide⟩
abbrev qX10_firstLeft : mMth := (yX10_firstLeft, cX10_firstLeft, 3, some .int)
theorem cm_X10_firstLeft : mCm qX10_firstLeft 1 := ⟨mTbl_at 99 (by decide +kernel) rfl, mTbl_at 1498 (by decide +kernel) rfl, ⟨by decide +kernel, by decide +kernel⟩, by decide +kernel, by decide +kernel, by decide⟩
abbrev qX10_fitting : mMth := (yX10_fitting, cX10_fitting, 5, some .int)
theorem cm_X10_fitting : mCm qX10_fitting 2 := ⟨mTbl_at 99 (by decide +kernel) rfl, mTbl_at 1487 (by decide +kernel) rfl, ⟨by decide +kernel, by decide +kernel⟩, by decide +kernel, by decide +kernel, by decide⟩
abbrev qX10_forget : mMth := (yX10_forget, cX10_forget, 1, none)
theorem cm_X10_forget : mCm qX10_forget 0 := ⟨mTbl_at 99 (by decide +kernel) rfl, mTbl_at 1748 (by decide +kernel) rfl, ⟨by decide +kernel, by decide +kernel⟩, by decide +kernel, by decide +kernel, by decide⟩
abbrev qX10_fullOf : mMth := (yX10_fullOf, cX10_fullOf, 4, some .int)
theorem cm_X10_fullOf : mCm qX10_fullOf 1 := ⟨mTbl_at 99 (by decide +kernel) rfl, mTbl_at 1452 (by decide +kernel) rfl, ⟨by decide +kernel, by decide +kernel⟩, by decide +kernel, by decide +kernel, by decide⟩
abbrev qX10_go : mMth := (yX10_go, cX10_go, 2, none)
theorem cm_X10_go : mCm qX10_go 0 := ⟨mTbl_at 99 (by decide +kernel) rfl, mTbl_at 1388 (by decide +kernel) rfl, ⟨by decide +kernel, by decide +kernel⟩, by decide +kernel, by decide +kernel, by decide⟩
abbrev qX10_goods : mMth := (yX10_goods, cX10_goods, 3, some .int)
theorem cm_X10_goods : mCm qX10_goods 1 := ⟨mTbl_at 99 (by decide +kernel) rfl, mTbl_at 1380 (by decide +kernel) rfl, ⟨by decide +kernel, by decide +kernel⟩, by decide +kernel, by decide +kernel, by decide⟩
abbrev qX10_greater : mMth := (yX10_greater, cX10_greater, 2, some .int)
theorem cm_X10_greater : mCm qX10_greater 2 := ⟨mTbl_at 99 (by decide +kernel) rfl, mTbl_at 1494 (by decide +kernel) rfl, ⟨by decide +kernel, by decide +kernel⟩, by decide +kernel, by decide +kernel, by decide⟩
abbrev qX10_guaranteed : mMth := (yX10_guaranteed, cX10_guaranteed, 5, some .int)
theorem cm_X10_guaranteed : mCm qX10_guaranteed 1 := ⟨mTbl_at 99 (by decide +kernel) rfl, mTbl_at 1593 (by decide +kernel) rfl, ⟨by decide +kernel, by decide +kernel⟩, by decide +kernel, by decide +kernel, by decide⟩
abbrev qX10_high : mMth := (yX10_high, cX10_high, 3, some .int)
theorem cm_X10_high : mCm qX10_high 2 := ⟨mTbl_at 99 (by decide +kernel) rfl, mTbl_at 1657 (by decide +kernel) rfl, ⟨by decide +kernel, by decide +kernel⟩, by decide +kernel, by decide +kernel, by decide⟩
abbrev qX10_image : mMth := (yX10_image, cX10_image, 2, none)
theorem cm_X10_image : mCm qX10_image 0 := ⟨mTbl_at 99 (by decide +kernel) rfl, mTbl_at 1765 (by decide +kernel) rfl, ⟨by decide +kernel, by decide +kernel⟩, by decide +kernel, by decide +kernel, by decide⟩
abbrev qX10_inBins : mMth := (yX10_inBins, cX10_inBins, 4, some .int)
theorem cm_X10_inBins : mCm qX10_inBins 1 := ⟨mTbl_at 99 (by decide +kernel) rfl, mTbl_at 1569 (by decide +kernel) rfl, ⟨by decide +kernel, by decide +kernel⟩, by decide +kernel, by decide +kernel, by decide⟩
abbrev qX10_into : mMth := (yX10_into, cX10_into, 3, some .int)
theorem cm_X10_into : mCm qX10_into 2 := ⟨mTbl_at 99 (by decide +kernel) rfl, mTbl_at 1589 (by decide +kernel) rfl, ⟨by decide +kernel, by decide +kernel⟩, by decide +kernel, by decide +kernel, by decide⟩
abbrev qX10_isBin : mMth := (yX10_isBin, cX10_isBin, 2, some .boolean)
theorem cm_X10_isBin : mCm qX10_isBin 1 := ⟨mTbl_at 99 (by decide +kernel) rfl, mTbl_at 1577 (by decide +kernel) rfl, ⟨by decide +kernel, by decide +kernel⟩, by decide +kernel, by decide +kernel, by decide⟩
abbrev qX10_isFirstHigh : mMth := (yX10_isFirstHigh, cX10_isFirstHigh, 4, some .boolean)
theorem cm_X10_isFirstHigh : mCm qX10_isFirstHigh 2 := ⟨mTbl_at 99 (by decide +kernel) rfl, mTbl_at 1641 (by decide +kernel) rfl, ⟨by decide +kernel, by decide +kernel⟩, by decide +kernel, by decide +kernel, by decide⟩
abbrev qX10_isGuess : mMth := (yX10_isGuess, cX10_isGuess, 3, some .boolean)
theorem cm_X10_isGuess : mCm qX10_isGuess 2 := ⟨mTbl_at 99 (by decide +kernel) rfl, mTbl_at 1736 (by decide +kernel) rfl, ⟨by decide +kernel, by decide +kernel⟩, by decide +kernel, by decide +kernel, by decide⟩
abbrev qX10_isLetter : mMth := (yX10_isLetter, cX10_isLetter, 1, some .boolean)
theorem cm_X10_isLetter : mCm qX10_isLetter 1 := ⟨mTbl_at 99 (by decide +kernel) rfl, mTbl_at 1395 (by decide +kernel) rfl, ⟨by decide +kernel, by decide +kernel⟩, by decide +kernel, by decide +kernel, by decide⟩
abbrev qX10_isMaximal : mMth := (yX10_isMaximal, cX10_isMaximal, 6, some .boolean)
theorem cm_X10_isMaximal : mCm qX10_isMaximal 3 := ⟨mTbl_at 99 (by decide +kernel) rfl, mTbl_at 1549 (by decide +kernel) rfl, ⟨by decide +kernel, by decide +kernel⟩, by decide +kernel, by decide +kernel, by decide⟩
abbrev qX10_isNoted : mMth := (yX10_isNoted, cX10_isNoted, 2, some .boolean)
theorem cm_X10_isNoted : mCm qX10_isNoted 0 := ⟨mTbl_at 99 (by decide +kernel) rfl, mTbl_at 1732 (by decide +kernel) rfl, ⟨by decide +kernel, by decide +kernel⟩, by decide +kernel, by decide +kernel, by decide⟩
abbrev qX10_isPoint : mMth := (yX10_isPoint, cX10_isPoint, 3, some .boolean)
theorem cm_X10_isPoint : mCm qX10_isPoint 2 := ⟨mTbl_at 99 (by decide +kernel) rfl, mTbl_at 1637 (by decide +kernel) rfl, ⟨by decide +kernel, by decide +kernel⟩, by decide +kernel, by decide +kernel, by decide⟩
abbrev qX10_isRule : mMth := (yX10_isRule, cX10_isRule, 2, some .boolean)
theorem cm_X10_isRule : mCm qX10_isRule 1 := ⟨mTbl_at 99 (by decide +kernel) rfl, mTbl_at 1585 (by decide +kernel) rfl, ⟨by decide +kernel, by decide +kernel⟩, by decide +kernel, by decide +kernel, by decide⟩
abbrev qX10_isSort : mMth := (yX10_isSort, cX10_isSort, 2, some .boolean)
theorem cm_X10_isSort : mCm qX10_isSort 1 := ⟨mTbl_at 99 (by decide +kernel) rfl, mTbl_at 1561 (by decide +kernel) rfl, ⟨by decide +kernel, by decide +kernel⟩, by decide +kernel, by decide +kernel, by decide⟩
abbrev qX10_join : mMth := (yX10_join, cX10_join, 5, some .int)
theorem cm_X10_join : mCm qX10_join 2 := ⟨mTbl_at 99 (by decide +kernel) rfl, mTbl_at 1704 (by decide +kernel) rfl, ⟨by decide +kernel, by decide +kernel⟩, by decide +kernel, by decide +kernel, by decide⟩
abbrev qX10_keeps : mMth := (yX10_keeps, cX10_keeps, 1, none)
theorem cm_X10_keeps : mCm qX10_keeps 0 := ⟨mTbl_at 99 (by decide +kernel) rfl, mTbl_at 1673 (by decide +kernel) rfl, ⟨by decide +kernel, by decide +kernel⟩, by decide +kernel, by decide +kernel, by decide⟩
abbrev qX10_keptAt : mMth := (yX10_keptAt, cX10_keptAt, 2, some .int)
theorem cm_X10_keptAt : mCm qX10_keptAt 2 := ⟨mTbl_at 99 (by decide +kernel) rfl, mTbl_at 1676 (by decide +kernel) rfl, ⟨by decide +kernel, by decide +kernel⟩, by decide +kernel, by decide +kernel, by decide⟩
abbrev qX10_laysFree : mMth := (yX10_laysFree, cX10_laysFree, 2, none)
theorem cm_X10_laysFree : mCm qX10_laysFree 0 := ⟨mTbl_at 99 (by decide +kernel) rfl, mTbl_at 1669 (by decide +kernel) rfl, ⟨by decide +kernel, by decide +kernel⟩, by decide +kernel, by decide +kernel, by decide⟩
abbrev qX10_laysNet : mMth := (yX10_laysNet, cX10_laysNet, 6, none)
theorem cm_X10_laysNet : mCm qX10_laysNet 0 := ⟨mTbl_at 99 (by decide +kernel) rfl, mTbl_at 1629 (by decide +kernel) rfl, ⟨by decide +kernel, by decide +kernel⟩, by decide +kernel, by decide +kernel, by decide⟩
abbrev qX10_load : mMth := (yX10_load, cX10_load, 3, some .int)
theorem cm_X10_load : mCm qX10_load 0 := ⟨mTbl_at 99 (by decide +kernel) rfl, mTbl_at 1700 (by decide +kernel) rfl, ⟨by decide +kernel, by decide +kernel⟩, by decide +kernel, by decide +kernel, by decide⟩
abbrev qX10_look : mMth := (yX10_look, cX10_look, 7, some .int)
theorem cm_X10_look : mCm qX10_look 1 := ⟨mTbl_at 99 (by decide +kernel) rfl, mTbl_at 1740 (by decide +kernel) rfl, ⟨by decide +kernel, by decide +kernel⟩, by decide +kernel, by decide +kernel, by decide⟩
abbrev qX10_looks : mMth := (yX10_looks, cX10_looks, 2, none)
theorem cm_X10_looks : mCm qX10_looks 0 := ⟨mTbl_at 99 (by decide +kernel) rfl, mTbl_at 1467 (by decide +kernel) rfl, ⟨by decide +kernel, by decide +kernel⟩, by decide +kernel, by decide +kernel, by decide⟩
abbrev qX10_meets : mMth := (yX10_meets, cX10_meets, 4, some .boolean)
theorem cm_X10_meets : mCm qX10_meets 1 := ⟨mTbl_at 99 (by decide +kernel) rfl, mTbl_at 1491 (by decide +kernel) rfl, ⟨by decide +kernel, by decide +kernel⟩, by decide +kernel, by decide +kernel, by decide⟩
abbrev qX10_net : mMth := (yX10_net, cX10_net, 2, some .int)
theorem cm_X10_net : mCm qX10_net 1 := ⟨mTbl_at 99 (by decide +kernel) rfl, mTbl_at 1625 (by decide +kernel) rfl, ⟨by decide +kernel, by decide +kernel⟩, by decide +kernel, by decide +kernel, by decide⟩
abbrev qX10_note : mMth := (yX10_note, cX10_note, 3, some .int)
theorem cm_X10_note : mCm qX10_note 2 := ⟨mTbl_at 99 (by decide +kernel) rfl, mTbl_at 1724 (by decide +kernel) rfl, ⟨by decide +kernel, by decide +kernel⟩, by decide +kernel, by decide +kernel, by decide⟩
abbrev qX10_number : mMth := (yX10_number, cX10_number, 4, some .int)
theorem cm_X10_number : mCm qX10_number 2 := ⟨mTbl_at 99 (by decide +kernel) rfl, mTbl_at 1417 (by decide +kernel) rfl, ⟨by decide +kernel, by decide +kernel⟩, by decide +kernel, by decide +kernel, by decide⟩
abbrev qX10_odds : mMth := (yX10_odds, cX10_odds, 11, some .int)
theorem cm_X10_odds : mCm qX10_odds 2 := ⟨mTbl_at 99 (by decide +kernel) rfl, mTbl_at 1752 (by decide +kernel) rfl, ⟨by decide +kernel, by decide +kernel⟩, by decide +kernel, by decide +kernel, by decide⟩
abbrev qX10_orders : mMth := (yX10_orders, cX10_orders, 3, none)
theorem cm_X10_orders : mCm qX10_orders 0 := ⟨mTbl_at 99 (by decide +kernel) rfl, mTbl_at 1471 (by decide +kernel) rfl, ⟨by decide +kernel, by decide +kernel⟩, by decide +kernel, by decide +kernel, by decide⟩
abbrev qX10_other : mMth := (yX10_other, cX10_other, 6, some .int)
theorem cm_X10_other : mCm qX10_other 1 := ⟨mTbl_at 99 (by decide +kernel) rfl, mTbl_at 1728 (by decide +kernel) rfl, ⟨by decide +kernel, by decide +kernel⟩, by decide +kernel, by decide +kernel, by decide⟩
abbrev qX10_pack : mMth := (yX10_pack, cX10_pack, 5, some .int)
theorem cm_X10_pack : mCm qX10_pack 2 := ⟨mTbl_at 99 (by decide +kernel) rfl, mTbl_at 1661 (by decide +kernel) rfl, ⟨by decide +kernel, by decide +kernel⟩, by decide +kernel, by decide +kernel, by decide⟩
abbrev qX10_packs : mMth := (yX10_packs, cX10_packs, 5, some .int)
theorem cm_X10_packs : mCm qX10_packs 1 := ⟨mTbl_at 99 (by decide +kernel) rfl, mTbl_at 1479 (by decide +kernel) rfl, ⟨by decide +kernel, by decide +kernel⟩, by decide +kernel, by decide +kernel, by decide⟩
abbrev qX10_paths : mMth := (yX10_paths, cX10_paths, 3, some .int)
theorem cm_X10_paths : mCm qX10_paths 0 := ⟨mTbl_at 99 (by decide +kernel) rfl, mTbl_at 1649 (by decide +kernel) rfl, ⟨by decide +kernel, by decide +kernel⟩, by decide +kernel, by decide +kernel, by decide⟩
abbrev qX10_pattern : mMth := (yX10_pattern, cX10_pattern, 6, some .int)
theorem cm_X10_pattern : mCm qX10_pattern 2 := ⟨mTbl_at 99 (by decide +kernel) rfl, mTbl_at 1613 (by decide +kernel) rfl, ⟨by decide +kernel, by decide +kernel⟩, by decide +kernel, by decide +kernel, by decide⟩
abbrev qX10_patterns : mMth := (yX10_patterns, cX10_patterns, 5, some .int)
theorem cm_X10_patterns : mCm qX10_patterns 1 := ⟨mTbl_at 99 (by decide +kernel) rfl, mTbl_at 1609 (by decide +kernel) rfl, ⟨by decide +kernel, by decide +kernel⟩, by decide +kernel, by decide +kernel, by decide⟩
abbrev qX10_placeInOrder : mMth := (yX10_placeInOrder, cX10_placeInOrder, 3, some .int)
theorem cm_X10_placeInOrder : mCm qX10_placeInOrder 1 := ⟨mTbl_at 99 (by decide +kernel) rfl, mTbl_at 1565 (by decide +kernel) rfl, ⟨by decide +kernel, by decide +kernel⟩, by decide +kernel, by decide +kernel, by decide⟩
abbrev qX10_points : mMth := (yX10_points, cX10_points, 5, some .int)
theorem cm_X10_points : mCm qX10_points 1 := ⟨mTbl_at 99 (by decide +kernel) rfl, mTbl_at 1633 (by decide +kernel) rfl, ⟨by decide +kernel, by decide +kernel⟩, by decide +kernel, by decide +kernel, by decide⟩
abbrev qX10_proves : mMth := (yX10_proves, cX10_proves, 4, some .int)
theorem cm_X10_proves : mCm qX10_proves 0 := ⟨mTbl_at 99 (by decide +kernel) rfl, mTbl_at 1475 (by decide +kernel) rfl, ⟨by decide +kernel, by decide +kernel⟩, by decide +kernel, by decide +kernel, by decide⟩
abbrev qX10_put : mMth := (yX10_put, cX10_put, 3, some .int)
theorem cm_X10_put : mCm qX10_put 2 := ⟨mTbl_at 99 (by decide +kernel) rfl, mTbl_at 1684 (by decide +kernel) rfl, ⟨by decide +kernel, by decide +kernel⟩, by decide +kernel, by decide +kernel, by decide⟩
abbrev qX10_refuses : mMth := (yX10_refuses, cX10_refuses, 2, some .int)
theorem cm_X10_refuses : mCm qX10_refuses 1 := ⟨mTbl_at 99 (by decide +kernel) rfl, mTbl_at 1665 (by decide +kernel) rfl, ⟨by decide +kernel, by decide +kernel⟩, by decide +kernel, by decide +kernel, by decide⟩
abbrev qX10_rest : mMth := (yX10_rest, cX10_rest, 4, some .int)
theorem cm_X10_rest : mCm qX10_rest 2 := ⟨mTbl_at 99 (by decide +kernel) rfl, mTbl_at 1696 (by decide +kernel) rfl, ⟨by decide +kernel, by decide +kernel⟩, by decide +kernel, by decide +kernel, by decide⟩
abbrev qX10_restMany : mMth := (yX10_restMany, cX10_restMany, 3, some .int)
theorem cm_X10_restMany : mCm qX10_restMany 0 := ⟨mTbl_at 99 (by decide +kernel) rfl, mTbl_at 1440 (by decide +kernel) rfl, ⟨by decide +kernel, by decide +kernel⟩, by decide +kernel, by decide +kernel, by decide⟩
abbrev qX10_restore : mMth := (yX10_restore, cX10_restore, 2, some .boolean)
theorem cm_X10_restore : mCm qX10_restore 0 := ⟨mTbl_at 99 (by decide +kernel) rfl, mTbl_at 1769 (by decide +kernel) rfl, ⟨by decide +kernel, by decide +kernel⟩, by decide +kernel, by decide +kernel, by decide⟩
abbrev qX10_rule : mMth := (yX10_rule, cX10_rule, 2, some .int)
theorem cm_X10_rule : mCm qX10_rule 1 := ⟨mTbl_at 99 (by decide +kernel) rfl, mTbl_at 1581 (by decide +kernel) rfl, ⟨by decide +kernel, by decide +kernel⟩, by decide +kernel, by decide +kernel, by decide⟩
abbrev qX10_sort : mMth := (yX10_sort, cX10_sort, 3, some .int)
theorem cm_X10_sort : mCm qX10_sort 2 := ⟨mTbl_at 99 (by decide +kernel) rfl, mTbl_at 1557 (by decide +kernel) rfl, ⟨by decide +kernel, by decide +kernel⟩, by decide +kernel, by decide +kernel, by decide⟩
abbrev qX10_sortTold : mMth := (yX10_sortTold, cX10_sortTold, 2, none)
theorem cm_X10_sortTold : mCm qX10_sortTold 0 := ⟨mTbl_at 99 (by decide +kernel) rfl, mTbl_at 1409 (by decide +kernel) rfl, ⟨by decide +kernel, by decide +kernel⟩, by decide +kernel, by decide +kernel, by decide⟩
abbrev qX10_spare : mMth := (yX10_spare, cX10_spare, 4, some .int)
theorem cm_X10_spare : mCm qX10_spare 1 := ⟨mTbl_at 99 (by decide +kernel) rfl, mTbl_at 1720 (by decide +kernel) rfl, ⟨by decide +kernel, by decide +kernel⟩, by decide +kernel, by decide +kernel, by decide⟩
abbrev qX10_split : mMth := (yX10_split, cX10_split, 2, some .int)
theorem cm_X10_split : mCm qX10_split 1 := ⟨mTbl_at 99 (by decide +kernel) rfl, mTbl_at 1601 (by decide +kernel) rfl, ⟨by decide +kernel, by decide +kernel⟩, by decide +kernel, by decide +kernel, by decide⟩
abbrev qX10_splits : mMth := (yX10_splits, cX10_splits, 7, some .int)
theorem cm_X10_splits : mCm qX10_splits 3 := ⟨mTbl_at 99 (by decide +kernel) rfl, mTbl_at 1517 (by decide +kernel) rfl, ⟨by decide +kernel, by decide +kernel⟩, by decide +kernel, by decide +kernel, by decide⟩
abbrev qX10_squeezedPaths : mMth := (yX10_squeezedPaths, cX10_squeezedPaths, 5, some .int)
theorem cm_X10_squeezedPaths : mCm qX10_squeezedPaths 0 := ⟨mTbl_at 99 (by decide +kernel) rfl, mTbl_at 1653 (by decide +kernel) rfl, ⟨by decide +kernel, by decide +kernel⟩, by decide +kernel, by decide +kernel, by decide⟩
abbrev qX10_step : mMth := (yX10_step, cX10_step, 2, some .int)
theorem cm_X10_step : mCm qX10_step 1 := ⟨mTbl_at 99 (by decide +kernel) rfl, mTbl_at 1605 (by decide +kernel) rfl, ⟨by decide +kernel, by decide +kernel⟩, by decide +kernel, by decide +kernel, by decide⟩
abbrev qX10_stepped : mMth := (yX10_stepped, cX10_stepped, 7, some .int)
theorem cm_X10_stepped : mCm qX10_stepped 3 := ⟨mTbl_at 99 (by decide +kernel) rfl, mTbl_at 1525 (by decide +kernel) rfl, ⟨by decide +kernel, by decide +kernel⟩, by decide +kernel, by decide +kernel, by decide⟩
abbrev qX10_steps : mMth := (yX10_steps, cX10_steps, 6, some .boolean)
theorem cm_X10_steps : mCm qX10_steps 3 := ⟨mTbl_at 99 (by decide +kernel) rfl, mTbl_at 1533 (by decide +kernel) rfl, ⟨by decide +kernel, by decide +kernel⟩, by decide +kernel, by decide +kernel, by decide⟩
abbrev qX10_take : mMth := (yX10_take, cX10_take, 3, some .int)
theorem cm_X10_take : mCm qX10_take 2 := ⟨mTbl_at 99 (by decide +kernel) rfl, mTbl_at 1688 (by decide +kernel) rfl, ⟨by decide +kernel, by decide +kernel⟩, by decide +kernel, by decide +kernel, by decide⟩
abbrev qX10_thrown : mMth := (yX10_thrown, cX10_thrown, 1, some .int)
theorem cm_X10_thrown : mCm qX10_thrown 0 := ⟨mTbl_at 99 (by decide +kernel) rfl, mTbl_at 1372 (by decide +kernel) rfl, ⟨by decide +kernel, by decide +kernel⟩, by decide +kernel, by decide +kernel, by decide⟩
abbrev qX10_toHold : mMth := (yX10_toHold, cX10_toHold, 4, some .int)
theorem cm_X10_toHold : mCm qX10_toHold 1 := ⟨mTbl_at 99 (by decide +kernel) rfl, mTbl_at 1716 (by decide +kernel) rfl, ⟨by decide +kernel, by decide +kernel⟩, by decide +kernel, by decide +kernel, by decide⟩
abbrev qX10_toldAll : mMth := (yX10_toldAll, cX10_toldAll, 3, some .int)
theorem cm_X10_toldAll : mCm qX10_toldAll 0 := ⟨mTbl_at 99 (by decide +kernel) rfl, mTbl_at 1424 (by decide +kernel) rfl, ⟨by decide +kernel, by decide +kernel⟩, by decide +kernel, by decide +kernel, by decide⟩
abbrev qX10_topSplit : mMth := (yX10_topSplit, cX10_topSplit, 6, some .int)
theorem cm_X10_topSplit : mCm qX10_topSplit 2 := ⟨mTbl_at 99 (by decide +kernel) rfl, mTbl_at 1513 (by decide +kernel) rfl, ⟨by decide +kernel, by decide +kernel⟩, by decide +kernel, by decide +kernel, by decide⟩
abbrev qX10_topStep : mMth := (yX10_topStep, cX10_topStep, 6, some .int)
theorem cm_X10_topStep : mCm qX10_topStep 2 := ⟨mTbl_at 99 (by decide +kernel) rfl, mTbl_at 1521 (by decide +kernel) rfl, ⟨by decide +kernel, by decide +kernel⟩, by decide +kernel, by decide +kernel, by decide⟩
abbrev qX10_topUp : mMth := (yX10_topUp, cX10_topUp, 8, some .int)
theorem cm_X10_topUp : mCm qX10_topUp 2 := ⟨mTbl_at 99 (by decide +kernel) rfl, mTbl_at 1712 (by decide +kernel) rfl, ⟨by decide +kernel, by decide +kernel⟩, by decide +kernel, by decide +kernel, by decide⟩
abbrev qX10_tree : mMth := (yX10_tree, cX10_tree, 3, some .int)
theorem cm_X10_tree : mCm qX10_tree 1 := ⟨mTbl_at 99 (by decide +kernel) rfl, mTbl_at 1617 (by decide +kernel) rfl, ⟨by decide +kernel, by decide +kernel⟩, by decide +kernel, by decide +kernel, by decide⟩
abbrev qX10_undo : mMth := (yX10_undo, cX10_undo, 1, some .int)
theorem cm_X10_undo : mCm qX10_undo 0 := ⟨mTbl_at 99 (by decide +kernel) rfl, mTbl_at 1708 (by decide +kernel) rfl, ⟨by decide +kernel, by decide +kernel⟩, by decide +kernel, by decide +kernel, by decide⟩
abbrev qX10_unlike : mMth := (yX10_unlike, cX10_unlike, 7, some .int)
theorem cm_X10_unlike : mCm qX10_unlike 2 := ⟨mTbl_at 99 (by decide +kernel) rfl, mTbl_at 1744 (by decide +kernel) rfl, ⟨by decide +kernel, by decide +kernel⟩, by decide +kernel, by decide +kernel, by decide⟩
abbrev qX10_up : mMth := (yX10_up, cX10_up, 2, some .int)
theorem cm_X10_up : mCm qX10_up 2 := ⟨mTbl_at 99 (by decide +kernel) rfl, mTbl_at 1509 (by decide +kernel) rfl, ⟨by decide +kernel, by decide +kernel⟩, by decide +kernel, by decide +kernel, by decide⟩
abbrev qX10_wants : mMth := (yX10_wants, cX10_wants, 3, some .boolean)
theorem cm_X10_wants : mCm qX10_wants 2 := ⟨mTbl_at 99 (by decide +kernel) rfl, mTbl_at 1413 (by decide +kernel) rfl, ⟨by decide +kernel, by decide +kernel⟩, by decide +kernel, by decide +kernel, by decide⟩
abbrev qX10_waste : mMth := (yX10_waste, cX10_waste, 3, some .int)
theorem cm_X10_waste : mCm qX10_waste 0 := ⟨mTbl_at 99 (by decide +kernel) rfl, mTbl_at 1448 (by decide +kernel) rfl, ⟨by decide +kernel, by decide +kernel⟩, by decide +kernel, by decide +kernel, by decide⟩
abbrev qX10_within : mMth := (yX10_within, cX10_within, 3, some .boolean)
theorem cm_X10_within : mCm qX10_within 3 := ⟨mTbl_at 99 (by decide +kernel) rfl, mTbl_at 1420 (by decide +kernel) rfl, ⟨by decide +kernel, by decide +kernel⟩, by decide +kernel, by decide +kernel, by decide⟩
abbrev qX10_within0 : mMth := (yX10_within0, cX10_within0, 4, some .int)
theorem cm_X10_within0 : mCm qX10_within0 1 := ⟨mTbl_at 99 (by decide +kernel) rfl, mTbl_at 1541 (by decide +kernel) rfl, ⟨by decide +kernel, by decide +kernel⟩, by decide +kernel, by decide +kernel, by decide⟩
abbrev qX10_wordFrom : mMth := (yX10_wordFrom, cX10_wordFrom, 7, some .int)
theorem cm_X10_wordFrom : mCm qX10_wordFrom 2 := ⟨mTbl_at 99 (by decide +kernel) rfl, mTbl_at 1399 (by decide +kernel) rfl, ⟨by decide +kernel, by decide +kernel⟩, by decide +kernel, by decide +kernel, by decide⟩
abbrev qX10_years : mMth := (yX10_years, cX10_years, 8, some .int)
theorem cm_X10_years : mCm qX10_years 4 := ⟨mTbl_at 99 (by decide +kernel) rfl, mTbl_at 1756 (by decide +kernel) rfl, ⟨by decide +kernel, by decide +kernel⟩, by decide +kernel, by decide +kernel, by decide⟩
abbrev qJ6_bitCount_0f7a4 : mMth := (yJ6_bitCount_0f7a4, cJ6_bitCount_0f7a4, 1, some .int)
theorem cm_J6_bitCount_0f7a4 : mCm qJ6_bitCount_0f7a4 1 := ⟨mTbl_at 113 (by decide +kernel) rfl, mTbl_at 1161 (by decide +kernel) rfl, ⟨by decide +kernel, by decide +kernel⟩, by decide +kernel, by decide +kernel, by decide⟩
theorem ml_X9_86 : mCV "BinProver" 86 qX9_tapeInt 7 1 := ⟨⟨TX9, 15, rfl⟩, mTbl_at 408 (by decide +kernel) rfl, mTbl_at 410 (by decide +kernel) rfl, mTbl_at 0 (by decide +kernel) rfl, cm_X9_tapeInt⟩
theorem ml_X9_97 : mCV "BinProver" 97 qX6_readText 4 2 := ⟨⟨TX6, 8, rfl⟩, mTbl_at 713 (by decide +kernel) rfl, mTbl_at 714 (by decide +kernel) rfl, mTbl_at 715 (by decide +kernel) rfl, cm_X6_readText⟩
theorem ml_X9_110 : mCV "BinProver" 110 qX2_becomeLike 1 1 := ⟨⟨TX2, 5, rfl⟩, mTbl_at 520 (by decide +kernel) rfl, mTbl_at 521 (by decide +kernel) rfl, mTbl_at 522 (by decide +kernel) rfl, cm_X2_becomeLike⟩
theorem ml_X9_114 : mCV "BinProver" 114 qX2_arrange 1 0 := ⟨⟨TX2, 5, rfl⟩, mTbl_at 822 (by decide +kernel) rfl, mTbl_at 823 (by decide +kernel) rfl, mTbl_at 824 (by decide +kernel) rfl, cm_X2_arrange⟩
theorem ml_X9_120 : mCV "BinProver" 120 qX7_beginWith 5 1 := ⟨⟨TX7, 7, rfl⟩, mTbl_at 826 (by decide +kernel) rfl, mTbl_at 827 (by decide +kernel) rfl, mTbl_at 828 (by decide +kernel) rfl, cm_X7_beginWith⟩
theorem ml_X9_130 : mCV "BinProver" 130 qX7_restOfAll 5 0 := ⟨⟨TX7, 7, rfl⟩, mTbl_at 494 (by decide +kernel) rfl, mTbl_at 495 (by decide +kernel) rfl, mTbl_at 496 (by decide +kernel) rfl, cm_X7_restOfAll⟩
theorem ml_X9_134 : mCV "BinProver" 134 qX7_bins 5 0 := ⟨⟨TX7, 7, rfl⟩, mTbl_at 439 (by decide +kernel) rfl, mTbl_at 440 (by decide +kernel) rfl, mTbl_at 441 (by decide +kernel) rfl, cm_X7_bins⟩
theorem ml_X9_137 : mCV "BinProver" 137 qX9_wasteNow 7 0 := ⟨⟨TX9, 15, rfl⟩, mTbl_at 838 (by decide +kernel) rfl, mTbl_at 840 (by decide +kernel) rfl, mTbl_at 20 (by decide +kernel) rfl, cm_X9_wasteNow⟩
theorem ml_X9_140 : mCV "BinProver" 140 qX9_restNow 7 0 := ⟨⟨TX9, 15, rfl⟩, mTbl_at 516 (by decide +kernel) rfl, mTbl_at 518 (by decide +kernel) rfl, mTbl_at 5 (by decide +kernel) rfl, cm_X9_restNow⟩
theorem ml_X9_144 : mCV "BinProver" 144 qX9_critical 7 1 := ⟨⟨TX9, 15, rfl⟩, mTbl_at 846 (by decide +kernel) rfl, mTbl_at 848 (by decide +kernel) rfl, mTbl_at 22 (by decide +kernel) rfl, cm_X9_critical⟩
theorem ml_X9_148 : mCS "BinProver" 148 qX9_apart 1 := ⟨mTbl_at 850 (by decide +kernel) rfl, mTbl_at 851 (by decide +kernel) rfl, cm_X9_apart⟩
theorem ml_X9_162 : mCV "BinProver" 162 qX9_needSort 7 1 := ⟨⟨TX9, 15, rfl⟩, mTbl_at 878 (by decide +kernel) rfl, mTbl_at 880 (by decide +kernel) rfl, mTbl_at 23 (by decide +kernel) rfl, cm_X9_needSort⟩
theorem ml_X9_168 : mCV "BinProver" 168 qX7_restOf 5 1 := ⟨⟨TX7, 7, rfl⟩, mTbl_at 424 (by decide +kernel) rfl, mTbl_at 425 (by decide +kernel) rfl, mTbl_at 426 (by decide +kernel) rfl, cm_X7_restOf⟩
theorem ml_X9_172 : mCV "BinProver" 172 qX2_rankOf 1 1 := ⟨⟨TX2, 5, rfl⟩, mTbl_at 883 (by decide +kernel) rfl, mTbl_at 884 (by decide +kernel) rfl, mTbl_at 885 (by decide +kernel) rfl, cm_X2_rankOf⟩
theorem ml_X9_175 : mCV "BinProver" 175 qX7_inBins 5 1 := ⟨⟨TX7, 7, rfl⟩, mTbl_at 887 (by decide +kernel) rfl, mTbl_at 888 (by decide +kernel) rfl, mTbl_at 889 (by decide +kernel) rfl, cm_X7_inBins⟩
theorem ml_X9_180 : mCV "BinProver" 180 qX9_needBin 7 1 := ⟨⟨TX9, 15, rfl⟩, mTbl_at 899 (by decide +kernel) rfl, mTbl_at 901 (by decide +kernel) rfl, mTbl_at 24 (by decide +kernel) rfl, cm_X9_needBin⟩
theorem ml_X9_184 : mCV "BinProver" 184 qX2_weightOfBin 1 1 := ⟨⟨TX2, 5, rfl⟩, mTbl_at 443 (by decide +kernel) rfl, mTbl_at 444 (by decide +kernel) rfl, mTbl_at 445 (by decide +kernel) rfl, cm_X2_weightOfBin⟩
theorem ml_X9_188 : mCS "BinProver" 188 qX7_part 2 := ⟨mTbl_at 493 (by decide +kernel) rfl, mTbl_at 429 (by decide +kernel) rfl, cm_X7_part⟩
theorem ml_X9_192 : mCV "BinProver" 192 qX9_needRule 7 1 := ⟨⟨TX9, 15, rfl⟩, mTbl_at 911 (by decide +kernel) rfl, mTbl_at 913 (by decide +kernel) rfl, mTbl_at 25 (by decide +kernel) rfl, cm_X9_needRule⟩
theorem ml_X9_195 : mCV "BinProver" 195 qX4_packAll 3 2 := ⟨⟨TX4, 5, rfl⟩, mTbl_at 916 (by decide +kernel) rfl, mTbl_at 530 (by decide +kernel) rfl, mTbl_at 531 (by decide +kernel) rfl, cm_X4_packAll⟩
theorem ml_X9_209 : mCV "BinProver" 209 qX8_fewestOf 6 1 := ⟨⟨TX8, 10, rfl⟩, mTbl_at 525 (by decide +kernel) rfl, mTbl_at 526 (by decide +kernel) rfl, mTbl_at 527 (by decide +kernel) rfl, cm_X8_fewestOf⟩
theorem ml_X9_215 : mCS "BinProver" 215 qX0_areaOf 2 := ⟨mTbl_at 940 (by decide +kernel) rfl, mTbl_at 559 (by decide +kernel) rfl, cm_X0_areaOf⟩
theorem ml_X9_221 : mCS "BinProver" 221 qX0_bestSplit 2 := ⟨mTbl_at 941 (by decide +kernel) rfl, mTbl_at 942 (by decide +kernel) rfl, cm_X0_bestSplit⟩
theorem ml_X9_224 : mCS "BinProver" 224 qX0_splitOf 3 := ⟨mTbl_at 944 (by decide +kernel) rfl, mTbl_at 575 (by decide +kernel) rfl, cm_X0_splitOf⟩
theorem ml_X9_228 : mCS "BinProver" 228 qX0_bestStep 2 := ⟨mTbl_at 945 (by decide +kernel) rfl, mTbl_at 946 (by decide +kernel) rfl, cm_X0_bestStep⟩
theorem ml_X9_231 : mCS "BinProver" 231 qX0_stepOf 3 := ⟨mTbl_at 948 (by decide +kernel) rfl, mTbl_at 569 (by decide +kernel) rfl, cm_X0_stepOf⟩
theorem ml_X9_234 : mCS "BinProver" 234 qX0_greatestOf 2 := ⟨mTbl_at 949 (by decide +kernel) rfl, mTbl_at 950 (by decide +kernel) rfl, cm_X0_greatestOf⟩
theorem ml_X9_243 : mCV "BinProver" 243 qX3_waysThrough 2 1 := ⟨⟨TX3, 4, rfl⟩, mTbl_at 979 (by decide +kernel) rfl, mTbl_at 980 (by decide +kernel) rfl, mTbl_at 981 (by decide +kernel) rfl, cm_X3_waysThrough⟩
theorem ml_X9_246 : mCS "BinProver" 246 qX5_countMaximal 3 := ⟨mTbl_at 1002 (by decide +kernel) rfl, mTbl_at 1003 (by decide +kernel) rfl, cm_X5_countMaximal⟩
theorem ml_X9_254 : mCV "BinProver" 254 qX9_needSortOrNone 7 1 := ⟨⟨TX9, 15, rfl⟩, mTbl_at 1016 (by decide +kernel) rfl, mTbl_at 1018 (by decide +kernel) rfl, mTbl_at 30 (by decide +kernel) rfl, cm_X9_needSortOrNone⟩
theorem ml_X9_257 : mCS "BinProver" 257 qX5_goTo 3 := ⟨mTbl_at 1020 (by decide +kernel) rfl, mTbl_at 1021 (by decide +kernel) rfl, cm_X5_goTo⟩
theorem ml_X9_263 : mCV "BinProver" 263 qX2_weightOf 1 1 := ⟨⟨TX2, 5, rfl⟩, mTbl_at 1024 (by decide +kernel) rfl, mTbl_at 562 (by decide +kernel) rfl, mTbl_at 563 (by decide +kernel) rfl, cm_X2_weightOf⟩
theorem ml_X9_293 : mCV "BinProver" 293 qX3_countPoints 2 2 := ⟨⟨TX3, 4, rfl⟩, mTbl_at 1049 (by decide +kernel) rfl, mTbl_at 1050 (by decide +kernel) rfl, mTbl_at 1051 (by decide +kernel) rfl, cm_X3_countPoints⟩
theorem ml_X9_297 : mCV "BinProver" 297 qX3_countArcs 2 2 := ⟨⟨TX3, 4, rfl⟩, mTbl_at 1061 (by decide +kernel) rfl, mTbl_at 1062 (by decide +kernel) rfl, mTbl_at 1063 (by decide +kernel) rfl, cm_X3_countArcs⟩
theorem ml_X9_300 : mCV "BinProver" 300 qX3_isPoint 2 3 := ⟨⟨TX3, 4, rfl⟩, mTbl_at 1072 (by decide +kernel) rfl, mTbl_at 1054 (by decide +kernel) rfl, mTbl_at 1055 (by decide +kernel) rfl, cm_X3_isPoint⟩
theorem ml_X9_306 : mCV "BinProver" 306 qX3_highOf 2 3 := ⟨⟨TX3, 4, rfl⟩, mTbl_at 1074 (by decide +kernel) rfl, mTbl_at 1058 (by decide +kernel) rfl, mTbl_at 1059 (by decide +kernel) rfl, cm_X3_highOf⟩
theorem ml_X9_310 : mCV "BinProver" 310 qX9_isSort 7 1 := ⟨⟨TX9, 15, rfl⟩, mTbl_at 420 (by decide +kernel) rfl, mTbl_at 422 (by decide +kernel) rfl, mTbl_at 1 (by decide +kernel) rfl, cm_X9_isSort⟩
theorem ml_X9_314 : mCV "BinProver" 314 qX9_refuseAct 7 0 := ⟨⟨TX9, 15, rfl⟩, mTbl_at 431 (by decide +kernel) rfl, mTbl_at 433 (by decide +kernel) rfl, mTbl_at 2 (by decide +kernel) rfl, cm_X9_refuseAct⟩
theorem ml_X9_317 : mCV "BinProver" 317 qX9_copyFilled 7 0 := ⟨⟨TX9, 15, rfl⟩, mTbl_at 435 (by decide +kernel) rfl, mTbl_at 437 (by decide +kernel) rfl, mTbl_at 3 (by decide +kernel) rfl, cm_X9_copyFilled⟩
theorem ml_X9_320 : mCS "BinProver" 320 qX4_choose 4 := ⟨mTbl_at 448 (by decide +kernel) rfl, mTbl_at 449 (by decide +kernel) rfl, cm_X4_choose⟩
theorem ml_X9_324 : mCV "BinProver" 324 qX7_remember 5 0 := ⟨⟨TX7, 7, rfl⟩, mTbl_at 457 (by decide +kernel) rfl, mTbl_at 458 (by decide +kernel) rfl, mTbl_at 459 (by decide +kernel) rfl, cm_X7_remember⟩
theorem ml_X9_327 : mCV "BinProver" 327 qX7_addBin 5 1 := ⟨⟨TX7, 7, rfl⟩, mTbl_at 464 (by decide +kernel) rfl, mTbl_at 465 (by decide +kernel) rfl, mTbl_at 466 (by decide +kernel) rfl, cm_X7_addBin⟩
theorem ml_X9_331 : mCV "BinProver" 331 qX7_moveIn 5 2 := ⟨⟨TX7, 7, rfl⟩, mTbl_at 469 (by decide +kernel) rfl, mTbl_at 470 (by decide +kernel) rfl, mTbl_at 471 (by decide +kernel) rfl, cm_X7_moveIn⟩
theorem ml_X9_335 : mCV "BinProver" 335 qX7_isBin 5 1 := ⟨⟨TX7, 7, rfl⟩, mTbl_at 484 (by decide +kernel) rfl, mTbl_at 474 (by decide +kernel) rfl, mTbl_at 475 (by decide +kernel) rfl, cm_X7_isBin⟩
theorem ml_X9_338 : mCV "BinProver" 338 qX9_freeIn 7 1 := ⟨⟨TX9, 15, rfl⟩, mTbl_at 485 (by decide +kernel) rfl, mTbl_at 487 (by decide +kernel) rfl, mTbl_at 4 (by decide +kernel) rfl, cm_X9_freeIn⟩
theorem ml_X9_341 : mCV "BinProver" 341 qX7_moveOut 5 2 := ⟨⟨TX7, 7, rfl⟩, mTbl_at 499 (by decide +kernel) rfl, mTbl_at 500 (by decide +kernel) rfl, mTbl_at 501 (by decide +kernel) rfl, cm_X7_moveOut⟩
theorem ml_X9_344 : mCV "BinProver" 344 qX7_dropBin 5 1 := ⟨⟨TX7, 7, rfl⟩, mTbl_at 503 (by decide +kernel) rfl, mTbl_at 504 (by decide +kernel) rfl, mTbl_at 505 (by decide +kernel) rfl, cm_X7_dropBin⟩
theorem ml_X9_347 : mCS "BinProver" 347 qX7_one 1 := ⟨mTbl_at 511 (by decide +kernel) rfl, mTbl_at 478 (by decide +kernel) rfl, cm_X7_one⟩
theorem ml_X9_351 : mCV "BinProver" 351 qX8_firstBin 6 0 := ⟨⟨TX8, 10, rfl⟩, mTbl_at 598 (by decide +kernel) rfl, mTbl_at 599 (by decide +kernel) rfl, mTbl_at 600 (by decide +kernel) rfl, cm_X8_firstBin⟩
theorem ml_X9_355 : mCV "BinProver" 355 qX7_goBack 5 0 := ⟨⟨TX7, 7, rfl⟩, mTbl_at 611 (by decide +kernel) rfl, mTbl_at 612 (by decide +kernel) rfl, mTbl_at 613 (by decide +kernel) rfl, cm_X7_goBack⟩
theorem ml_X9_359 : mCV "BinProver" 359 qX3_fillGreatest 2 3 := ⟨⟨TX3, 4, rfl⟩, mTbl_at 1082 (by decide +kernel) rfl, mTbl_at 1083 (by decide +kernel) rfl, mTbl_at 1084 (by decide +kernel) rfl, cm_X3_fillGreatest⟩
theorem ml_X9_365 : mCS "BinProver" 365 qX0_roundUp 2 := ⟨mTbl_at 854 (by decide +kernel) rfl, mTbl_at 566 (by decide +kernel) rfl, cm_X0_roundUp⟩
theorem mm_X9_369 : Cond.methodLink "BinProver" 369 Lib.Math.max.name ∈ mTbl ∧ Cond.static Lib.Math.max.name ∈ mTbl ∧ Cond.initialized "java/lang/Math" ∈ mTbl ∧ Cond.code Lib.Math.max.name Lib.Math.max.code 2 (some .int) ∈ mTbl := ⟨mTbl_at 1094 (by decide +kernel) rfl, mTbl_at 452 (by decide +kernel) rfl, mTbl_at 104 (by decide +kernel) rfl, mTbl_at 453 (by decide +kernel) rfl⟩
theorem ml_X9_374 : mCV "BinProver" 374 qX2_tallest 1 0 := ⟨⟨TX2, 5, rfl⟩, mTbl_at 1095 (by decide +kernel) rfl, mTbl_at 1096 (by decide +kernel) rfl, mTbl_at 1097 (by decide +kernel) rfl, cm_X2_tallest⟩
theorem ml_X9_377 : mCV "BinProver" 377 qX2_things 1 0 := ⟨⟨TX2, 5, rfl⟩, mTbl_at 1107 (by decide +kernel) rfl, mTbl_at 1108 (by decide +kernel) rfl, mTbl_at 1109 (by decide +kernel) rfl, cm_X2_things⟩
theorem mm_X9_379 : Cond.methodLink "BinProver" 379 Lib.Math.min.name ∈ mTbl ∧ Cond.static Lib.Math.min.name ∈ mTbl ∧ Cond.initialized "java/lang/Math" ∈ mTbl ∧ Cond.code Lib.Math.min.name Lib.Math.min.code 2 (some .int) ∈ mTbl := ⟨mTbl_at 1111 (by decide +kernel) rfl, mTbl_at 589 (by decide +kernel) rfl, mTbl_at 104 (by decide +kernel) rfl, mTbl_at 590 (by decide +kernel) rfl⟩
theorem ml_X9_382 : mCV "BinProver" 382 qX7_addNote 5 2 := ⟨⟨TX7, 7, rfl⟩, mTbl_at 619 (by decide +kernel) rfl, mTbl_at 620 (by decide +kernel) rfl, mTbl_at 621 (by decide +kernel) rfl, cm_X7_addNote⟩
theorem ml_X9_388 : mCV "BinProver" 388 qX1_agrees 0 3 := ⟨⟨TX1, 3, rfl⟩, mTbl_at 1120 (by decide +kernel) rfl, mTbl_at 1121 (by decide +kernel) rfl, mTbl_at 1122 (by decide +kernel) rfl, cm_X1_agrees⟩
theorem ml_X9_392 : mCV "BinProver" 392 qX1_search 0 4 := ⟨⟨TX1, 3, rfl⟩, mTbl_at 1133 (by decide +kernel) rfl, mTbl_at 1134 (by decide +kernel) rfl, mTbl_at 1135 (by decide +kernel) rfl, cm_X1_search⟩
theorem ml_X9_404 : mCV "BinProver" 404 qX1_widest 0 0 := ⟨⟨TX1, 3, rfl⟩, mTbl_at 1151 (by decide +kernel) rfl, mTbl_at 1152 (by decide +kernel) rfl, mTbl_at 1153 (by decide +kernel) rfl, cm_X1_widest⟩
theorem ml_X9_407 : mCV "BinProver" 407 qX1_unlike 0 1 := ⟨⟨TX1, 3, rfl⟩, mTbl_at 1165 (by decide +kernel) rfl, mTbl_at 1156 (by decide +kernel) rfl, mTbl_at 1157 (by decide +kernel) rfl, cm_X1_unlike⟩
theorem ml_X9_412 : mCS "BinProver" 412 qX9_power 2 := ⟨mTbl_at 1174 (by decide +kernel) rfl, mTbl_at 1175 (by decide +kernel) rfl, cm_X9_power⟩
theorem ml_X9_420 : mCV "BinProver" 420 qX9_freeAbove 7 1 := ⟨⟨TX9, 15, rfl⟩, mTbl_at 842 (by decide +kernel) rfl, mTbl_at 844 (by decide +kernel) rfl, mTbl_at 21 (by decide +kernel) rfl, cm_X9_freeAbove⟩
theorem ml_X9_423 : mCV "BinProver" 423 qX7_becomeLike 5 1 := ⟨⟨TX7, 7, rfl⟩, mTbl_at 631 (by decide +kernel) rfl, mTbl_at 632 (by decide +kernel) rfl, mTbl_at 633 (by decide +kernel) rfl, cm_X7_becomeLike⟩
theorem ml_X9_432 : mCS "BinProver" 432 qX2_cut 2 := ⟨mTbl_at 853 (by decide +kernel) rfl, mTbl_at 572 (by decide +kernel) rfl, cm_X2_cut⟩
theorem ml_X0_9 : mCV "BinProver$Bounds" 9 qX2_weightOf 1 1 := ⟨⟨TX2, 5, rfl⟩, mTbl_at 561 (by decide +kernel) rfl, mTbl_at 562 (by decide +kernel) rfl, mTbl_at 563 (by decide +kernel) rfl, cm_X2_weightOf⟩
theorem ml_X0_19 : mCS "BinProver$Bounds" 19 qX0_roundUp 2 := ⟨mTbl_at 565 (by decide +kernel) rfl, mTbl_at 566 (by decide +kernel) rfl, cm_X0_roundUp⟩
theorem ml_X0_32 : mCS "BinProver$Bounds" 32 qX2_cut 2 := ⟨mTbl_at 571 (by decide +kernel) rfl, mTbl_at 572 (by decide +kernel) rfl, cm_X2_cut⟩
theorem ml_X0_35 : mCS "BinProver$Bounds" 35 qX0_splitOf 3 := ⟨mTbl_at 574 (by decide +kernel) rfl, mTbl_at 575 (by decide +kernel) rfl, cm_X0_splitOf⟩
theorem ml_X0_39 : mCS "BinProver$Bounds" 39 qX0_stepOf 3 := ⟨mTbl_at 568 (by decide +kernel) rfl, mTbl_at 569 (by decide +kernel) rfl, cm_X0_stepOf⟩
theorem ml_X0_42 : mCS "BinProver$Bounds" 42 qX0_bestSplit 2 := ⟨mTbl_at 952 (by decide +kernel) rfl, mTbl_at 942 (by decide +kernel) rfl, cm_X0_bestSplit⟩
theorem ml_X0_46 : mCS "BinProver$Bounds" 46 qX0_bestStep 2 := ⟨mTbl_at 953 (by decide +kernel) rfl, mTbl_at 946 (by decide +kernel) rfl, cm_X0_bestStep⟩
theorem ml_X0_49 : mCS "BinProver$Bounds" 49 qX0_areaOf 2 := ⟨mTbl_at 558 (by decide +kernel) rfl, mTbl_at 559 (by decide +kernel) rfl, cm_X0_areaOf⟩
theorem mm_X0_52 : Cond.methodLink "BinProver$Bounds" 52 Lib.Math.max.name ∈ mTbl ∧ Cond.static Lib.Math.max.name ∈ mTbl ∧ Cond.initialized "java/lang/Math" ∈ mTbl ∧ Cond.code Lib.Math.max.name Lib.Math.max.code 2 (some .int) ∈ mTbl := ⟨mTbl_at 954 (by decide +kernel) rfl, mTbl_at 452 (by decide +kernel) rfl, mTbl_at 104 (by decide +kernel) rfl, mTbl_at 453 (by decide +kernel) rfl⟩
theorem ml_X1_27 : mCV "BinProver$Guess" 27 qX7_ruleOfNote 5 1 := ⟨⟨TX7, 7, rfl⟩, mTbl_at 1124 (by decide +kernel) rfl, mTbl_at 1125 (by decide +kernel) rfl, mTbl_at 1126 (by decide +kernel) rfl, cm_X7_ruleOfNote⟩
theorem ml_X1_31 : mCV "BinProver$Guess" 31 qX4_packAll 3 2 := ⟨⟨TX4, 5, rfl⟩, mTbl_at 1128 (by decide +kernel) rfl, mTbl_at 530 (by decide +kernel) rfl, mTbl_at 531 (by decide +kernel) rfl, cm_X4_packAll⟩
theorem ml_X1_37 : mCV "BinProver$Guess" 37 qX7_binsOfNote 5 1 := ⟨⟨TX7, 7, rfl⟩, mTbl_at 1129 (by decide +kernel) rfl, mTbl_at 1130 (by decide +kernel) rfl, mTbl_at 1131 (by decide +kernel) rfl, cm_X7_binsOfNote⟩
theorem ml_X1_51 : mCV "BinProver$Guess" 51 qX2_arrange 1 0 := ⟨⟨TX2, 5, rfl⟩, mTbl_at 1137 (by decide +kernel) rfl, mTbl_at 823 (by decide +kernel) rfl, mTbl_at 824 (by decide +kernel) rfl, cm_X2_arrange⟩
theorem ml_X1_54 : mCV "BinProver$Guess" 54 qX1_agrees 0 3 := ⟨⟨TX1, 3, rfl⟩, mTbl_at 1138 (by decide +kernel) rfl, mTbl_at 1121 (by decide +kernel) rfl, mTbl_at 1122 (by decide +kernel) rfl, cm_X1_agrees⟩
theorem ml_X1_58 : mCV "BinProver$Guess" 58 qX1_see 0 2 := ⟨⟨TX1, 3, rfl⟩, mTbl_at 1139 (by decide +kernel) rfl, mTbl_at 1141 (by decide +kernel) rfl, mTbl_at 31 (by decide +kernel) rfl, cm_X1_see⟩
theorem ml_X1_62 : mCS "BinProver$Guess" 62 qJ6_bitCount_0f7a4 1 := ⟨mTbl_at 1159 (by decide +kernel) rfl, mTbl_at 1160 (by decide +kernel) rfl, cm_J6_bitCount_0f7a4⟩
theorem ml_X1_67 : mCV "BinProver$Guess" 67 qX1_unlike 0 1 := ⟨⟨TX1, 3, rfl⟩, mTbl_at 1155 (by decide +kernel) rfl, mTbl_at 1156 (by decide +kernel) rfl, mTbl_at 1157 (by decide +kernel) rfl, cm_X1_unlike⟩
theorem ma_X2_28 : Cond.methodLink "BinProver$Lot" 28 arraycopyName ∈ mTbl ∧ Cond.native arraycopyName ∈ mTbl ∧ Cond.static arraycopyName ∈ mTbl ∧ Cond.initialized "java/lang/System" ∈ mTbl := ⟨mTbl_at 524 (by decide +kernel) rfl, mTbl_at 463 (by decide +kernel) rfl, mTbl_at 462 (by decide +kernel) rfl, mTbl_at 109 (by decide +kernel) rfl⟩
theorem mm_X2_34 : Cond.methodLink "BinProver$Lot" 34 Lib.Math.max.name ∈ mTbl ∧ Cond.static Lib.Math.max.name ∈ mTbl ∧ Cond.initialized "java/lang/Math" ∈ mTbl ∧ Cond.code Lib.Math.max.name Lib.Math.max.code 2 (some .int) ∈ mTbl := ⟨mTbl_at 1099 (by decide +kernel) rfl, mTbl_at 452 (by decide +kernel) rfl, mTbl_at 104 (by decide +kernel) rfl, mTbl_at 453 (by decide +kernel) rfl⟩
theorem ml_X2_40 : mCS "BinProver$Lot" 40 qX7_part 2 := ⟨mTbl_at 447 (by decide +kernel) rfl, mTbl_at 429 (by decide +kernel) rfl, cm_X7_part⟩
theorem ml_X3_27 : mCV "BinProver$Net" 27 qX3_lay 2 1 := ⟨⟨TX3, 4, rfl⟩, mTbl_at 983 (by decide +kernel) rfl, mTbl_at 985 (by decide +kernel) rfl, mTbl_at 26 (by decide +kernel) rfl, cm_X3_lay⟩
theorem ml_X3_31 : mCV "BinProver$Net" 31 qX3_goFrom 2 2 := ⟨⟨TX3, 4, rfl⟩, mTbl_at 992 (by decide +kernel) rfl, mTbl_at 994 (by decide +kernel) rfl, mTbl_at 28 (by decide +kernel) rfl, cm_X3_goFrom⟩
theorem ml_X3_46 : mCV "BinProver$Net" 46 qX3_reachOf 2 3 := ⟨⟨TX3, 4, rfl⟩, mTbl_at 987 (by decide +kernel) rfl, mTbl_at 989 (by decide +kernel) rfl, mTbl_at 27 (by decide +kernel) rfl, cm_X3_reachOf⟩
theorem mm_X3_53 : Cond.methodLink "BinProver$Net" 53 Lib.Math.max.name ∈ mTbl ∧ Cond.static Lib.Math.max.name ∈ mTbl ∧ Cond.initialized "java/lang/Math" ∈ mTbl ∧ Cond.code Lib.Math.max.name Lib.Math.max.code 2 (some .int) ∈ mTbl := ⟨mTbl_at 991 (by decide +kernel) rfl, mTbl_at 452 (by decide +kernel) rfl, mTbl_at 104 (by decide +kernel) rfl, mTbl_at 453 (by decide +kernel) rfl⟩
theorem ml_X3_62 : mCV "BinProver$Net" 62 qX3_arcsFrom 2 3 := ⟨⟨TX3, 4, rfl⟩, mTbl_at 996 (by decide +kernel) rfl, mTbl_at 998 (by decide +kernel) rfl, mTbl_at 29 (by decide +kernel) rfl, cm_X3_arcsFrom⟩
theorem ml_X3_65 : mCS "BinProver$Net" 65 qX2_cut 2 := ⟨mTbl_at 1000 (by decide +kernel) rfl, mTbl_at 572 (by decide +kernel) rfl, cm_X2_cut⟩
theorem mm_X3_68 : Cond.methodLink "BinProver$Net" 68 Lib.Math.min.name ∈ mTbl ∧ Cond.static Lib.Math.min.name ∈ mTbl ∧ Cond.initialized "java/lang/Math" ∈ mTbl ∧ Cond.code Lib.Math.min.name Lib.Math.min.code 2 (some .int) ∈ mTbl := ⟨mTbl_at 1001 (by decide +kernel) rfl, mTbl_at 589 (by decide +kernel) rfl, mTbl_at 104 (by decide +kernel) rfl, mTbl_at 590 (by decide +kernel) rfl⟩
theorem ml_X3_71 : mCV "BinProver$Net" 71 qX3_isPoint 2 3 := ⟨⟨TX3, 4, rfl⟩, mTbl_at 1053 (by decide +kernel) rfl, mTbl_at 1054 (by decide +kernel) rfl, mTbl_at 1055 (by decide +kernel) rfl, cm_X3_isPoint⟩
theorem ml_X3_75 : mCV "BinProver$Net" 75 qX3_highOf 2 3 := ⟨⟨TX3, 4, rfl⟩, mTbl_at 1057 (by decide +kernel) rfl, mTbl_at 1058 (by decide +kernel) rfl, mTbl_at 1059 (by decide +kernel) rfl, cm_X3_highOf⟩
theorem mm_X4_28 : Cond.methodLink "BinProver$Packer" 28 Lib.Math.max.name ∈ mTbl ∧ Cond.static Lib.Math.max.name ∈ mTbl ∧ Cond.initialized "java/lang/Math" ∈ mTbl ∧ Cond.code Lib.Math.max.name Lib.Math.max.code 2 (some .int) ∈ mTbl := ⟨mTbl_at 451 (by decide +kernel) rfl, mTbl_at 452 (by decide +kernel) rfl, mTbl_at 104 (by decide +kernel) rfl, mTbl_at 453 (by decide +kernel) rfl⟩
theorem ml_X4_34 : mCS "BinProver$Packer" 34 qX4_isLiked 3 := ⟨mTbl_at 454 (by decide +kernel) rfl, mTbl_at 455 (by decide +kernel) rfl, cm_X4_isLiked⟩
theorem ml_X4_55 : mCV "BinProver$Packer" 55 qX4_packOne 3 4 := ⟨⟨TX4, 5, rfl⟩, mTbl_at 533 (by decide +kernel) rfl, mTbl_at 535 (by decide +kernel) rfl, mTbl_at 6 (by decide +kernel) rfl, cm_X4_packOne⟩
theorem ml_X4_59 : mCS "BinProver$Packer" 59 qX4_choose 4 := ⟨mTbl_at 537 (by decide +kernel) rfl, mTbl_at 449 (by decide +kernel) rfl, cm_X4_choose⟩
theorem ml_X4_63 : mCV "BinProver$Packer" 63 qX4_openBin 3 0 := ⟨⟨TX4, 5, rfl⟩, mTbl_at 538 (by decide +kernel) rfl, mTbl_at 540 (by decide +kernel) rfl, mTbl_at 7 (by decide +kernel) rfl, cm_X4_openBin⟩
theorem ml_X5_7 : mCS "BinProver$Patterns" 7 qX5_fillFrom 4 := ⟨mTbl_at 584 (by decide +kernel) rfl, mTbl_at 585 (by decide +kernel) rfl, cm_X5_fillFrom⟩
theorem ml_X5_24 : mCS "BinProver$Patterns" 24 qX5_isMaximal 4 := ⟨mTbl_at 595 (by decide +kernel) rfl, mTbl_at 596 (by decide +kernel) rfl, cm_X5_isMaximal⟩
theorem ml_X5_34 : mCS "BinProver$Patterns" 34 qX2_cut 2 := ⟨mTbl_at 587 (by decide +kernel) rfl, mTbl_at 572 (by decide +kernel) rfl, cm_X2_cut⟩
theorem mm_X5_38 : Cond.methodLink "BinProver$Patterns" 38 Lib.Math.min.name ∈ mTbl ∧ Cond.static Lib.Math.min.name ∈ mTbl ∧ Cond.initialized "java/lang/Math" ∈ mTbl ∧ Cond.code Lib.Math.min.name Lib.Math.min.code 2 (some .int) ∈ mTbl := ⟨mTbl_at 588 (by decide +kernel) rfl, mTbl_at 589 (by decide +kernel) rfl, mTbl_at 104 (by decide +kernel) rfl, mTbl_at 590 (by decide +kernel) rfl⟩
theorem ml_X5_46 : mCS "BinProver$Patterns" 46 qX5_begin 3 := ⟨mTbl_at 1005 (by decide +kernel) rfl, mTbl_at 582 (by decide +kernel) rfl, cm_X5_begin⟩
theorem ml_X5_50 : mCV "BinProver$Patterns" 50 qX2_weightOf 1 1 := ⟨⟨TX2, 5, rfl⟩, mTbl_at 1006 (by decide +kernel) rfl, mTbl_at 562 (by decide +kernel) rfl, mTbl_at 563 (by decide +kernel) rfl, cm_X2_weightOf⟩
theorem ml_X5_54 : mCS "BinProver$Patterns" 54 qX5_goOn 3 := ⟨mTbl_at 1007 (by decide +kernel) rfl, mTbl_at 592 (by decide +kernel) rfl, cm_X5_goOn⟩
theorem ml_X6_43 : mCV "BinProver$Reader" 43 qX6_begin 4 0 := ⟨⟨TX6, 8, rfl⟩, mTbl_at 717 (by decide +kernel) rfl, mTbl_at 719 (by decide +kernel) rfl, mTbl_at 12 (by decide +kernel) rfl, cm_X6_begin⟩
theorem mm_X6_46 : Cond.methodLink "BinProver$Reader" 46 Lib.Math.min.name ∈ mTbl ∧ Cond.static Lib.Math.min.name ∈ mTbl ∧ Cond.initialized "java/lang/Math" ∈ mTbl ∧ Cond.code Lib.Math.min.name Lib.Math.min.code 2 (some .int) ∈ mTbl := ⟨mTbl_at 721 (by decide +kernel) rfl, mTbl_at 589 (by decide +kernel) rfl, mTbl_at 104 (by decide +kernel) rfl, mTbl_at 590 (by decide +kernel) rfl⟩
theorem ml_X6_52 : mCS "BinProver$Reader" 52 qX6_isBlank 1 := ⟨mTbl_at 722 (by decide +kernel) rfl, mTbl_at 723 (by decide +kernel) rfl, cm_X6_isBlank⟩
theorem ml_X6_56 : mCS "BinProver$Reader" 56 qX6_endOfToken 3 := ⟨mTbl_at 725 (by decide +kernel) rfl, mTbl_at 726 (by decide +kernel) rfl, cm_X6_endOfToken⟩
theorem mm_X6_60 : Cond.methodLink "BinProver$Reader" 60 Lib.Math.max.name ∈ mTbl ∧ Cond.static Lib.Math.max.name ∈ mTbl ∧ Cond.initialized "java/lang/Math" ∈ mTbl ∧ Cond.code Lib.Math.max.name Lib.Math.max.code 2 (some .int) ∈ mTbl := ⟨mTbl_at 734 (by decide +kernel) rfl, mTbl_at 452 (by decide +kernel) rfl, mTbl_at 104 (by decide +kernel) rfl, mTbl_at 453 (by decide +kernel) rfl⟩
theorem ml_X6_63 : mCV "BinProver$Reader" 63 qX6_takeToken 4 3 := ⟨⟨TX6, 8, rfl⟩, mTbl_at 735 (by decide +kernel) rfl, mTbl_at 737 (by decide +kernel) rfl, mTbl_at 13 (by decide +kernel) rfl, cm_X6_takeToken⟩
theorem ml_X6_72 : mCS "BinProver$Reader" 72 qX6_isLetter 1 := ⟨mTbl_at 728 (by decide +kernel) rfl, mTbl_at 729 (by decide +kernel) rfl, cm_X6_isLetter⟩
theorem ml_X6_75 : mCS "BinProver$Reader" 75 qX6_isDigit 1 := ⟨mTbl_at 731 (by decide +kernel) rfl, mTbl_at 732 (by decide +kernel) rfl, cm_X6_isDigit⟩
theorem ml_X6_78 : mCV "BinProver$Reader" 78 qX6_takeWord 4 3 := ⟨⟨TX6, 8, rfl⟩, mTbl_at 739 (by decide +kernel) rfl, mTbl_at 741 (by decide +kernel) rfl, mTbl_at 14 (by decide +kernel) rfl, cm_X6_takeWord⟩
theorem ml_X6_81 : mCS "BinProver$Reader" 81 qX6_numberOf 3 := ⟨mTbl_at 797 (by decide +kernel) rfl, mTbl_at 798 (by decide +kernel) rfl, cm_X6_numberOf⟩
theorem ml_X6_84 : mCV "BinProver$Reader" 84 qX6_takeNumber 4 1 := ⟨⟨TX6, 8, rfl⟩, mTbl_at 800 (by decide +kernel) rfl, mTbl_at 802 (by decide +kernel) rfl, mTbl_at 15 (by decide +kernel) rfl, cm_X6_takeNumber⟩
theorem ml_X6_89 : mCS "BinProver$Reader" 89 qX6_isWord 4 := ⟨mTbl_at 744 (by decide +kernel) rfl, mTbl_at 745 (by decide +kernel) rfl, cm_X6_isWord⟩
theorem ml_X6_107 : mCV "BinProver$Reader" 107 qX6_takeCapacity 4 1 := ⟨⟨TX6, 8, rfl⟩, mTbl_at 804 (by decide +kernel) rfl, mTbl_at 806 (by decide +kernel) rfl, mTbl_at 16 (by decide +kernel) rfl, cm_X6_takeCapacity⟩
theorem ml_X6_110 : mCV "BinProver$Reader" 110 qX6_takeSize 4 1 := ⟨⟨TX6, 8, rfl⟩, mTbl_at 808 (by decide +kernel) rfl, mTbl_at 810 (by decide +kernel) rfl, mTbl_at 17 (by decide +kernel) rfl, cm_X6_takeSize⟩
theorem ml_X6_113 : mCV "BinProver$Reader" 113 qX6_takeRest 4 1 := ⟨⟨TX6, 8, rfl⟩, mTbl_at 812 (by decide +kernel) rfl, mTbl_at 814 (by decide +kernel) rfl, mTbl_at 18 (by decide +kernel) rfl, cm_X6_takeRest⟩
theorem ml_X6_116 : mCV "BinProver$Reader" 116 qX6_takeSort 4 1 := ⟨⟨TX6, 8, rfl⟩, mTbl_at 817 (by decide +kernel) rfl, mTbl_at 819 (by decide +kernel) rfl, mTbl_at 19 (by decide +kernel) rfl, cm_X6_takeSort⟩
theorem ml_X6_123 : mCS "BinProver$Reader" 123 qX7_one 1 := ⟨mTbl_at 816 (by decide +kernel) rfl, mTbl_at 478 (by decide +kernel) rfl, cm_X7_one⟩
theorem ml_X6_127 : mCV "BinProver$Reader" 127 qX2_weightOfBin 1 1 := ⟨⟨TX2, 5, rfl⟩, mTbl_at 821 (by decide +kernel) rfl, mTbl_at 444 (by decide +kernel) rfl, mTbl_at 445 (by decide +kernel) rfl, cm_X2_weightOfBin⟩
theorem ma_X7_35 : Cond.methodLink "BinProver$Stock" 35 arraycopyName ∈ mTbl ∧ Cond.native arraycopyName ∈ mTbl ∧ Cond.static arraycopyName ∈ mTbl ∧ Cond.initialized "java/lang/System" ∈ mTbl := ⟨mTbl_at 461 (by decide +kernel) rfl, mTbl_at 463 (by decide +kernel) rfl, mTbl_at 462 (by decide +kernel) rfl, mTbl_at 109 (by decide +kernel) rfl⟩
theorem ml_X7_41 : mCV "BinProver$Stock" 41 qX7_bins 5 0 := ⟨⟨TX7, 7, rfl⟩, mTbl_at 468 (by decide +kernel) rfl, mTbl_at 440 (by decide +kernel) rfl, mTbl_at 441 (by decide +kernel) rfl, cm_X7_bins⟩
theorem ml_X7_45 : mCS "BinProver$Stock" 45 qX7_part 2 := ⟨mTbl_at 428 (by decide +kernel) rfl, mTbl_at 429 (by decide +kernel) rfl, cm_X7_part⟩
theorem ml_X7_49 : mCV "BinProver$Stock" 49 qX7_restOf 5 1 := ⟨⟨TX7, 7, rfl⟩, mTbl_at 498 (by decide +kernel) rfl, mTbl_at 425 (by decide +kernel) rfl, mTbl_at 426 (by decide +kernel) rfl, cm_X7_restOf⟩
theorem ml_X7_53 : mCV "BinProver$Stock" 53 qX7_isBin 5 1 := ⟨⟨TX7, 7, rfl⟩, mTbl_at 473 (by decide +kernel) rfl, mTbl_at 474 (by decide +kernel) rfl, mTbl_at 475 (by decide +kernel) rfl, cm_X7_isBin⟩
theorem ml_X7_57 : mCS "BinProver$Stock" 57 qX7_one 1 := ⟨mTbl_at 477 (by decide +kernel) rfl, mTbl_at 478 (by decide +kernel) rfl, cm_X7_one⟩
theorem ml_X8_50 : mCV "BinProver$Tree" 50 qX4_packAll 3 2 := ⟨⟨TX4, 5, rfl⟩, mTbl_at 529 (by decide +kernel) rfl, mTbl_at 530 (by decide +kernel) rfl, mTbl_at 531 (by decide +kernel) rfl, cm_X4_packAll⟩
theorem ma_X8_57 : Cond.methodLink "BinProver$Tree" 57 arraycopyName ∈ mTbl ∧ Cond.native arraycopyName ∈ mTbl ∧ Cond.static arraycopyName ∈ mTbl ∧ Cond.initialized "java/lang/System" ∈ mTbl := ⟨mTbl_at 542 (by decide +kernel) rfl, mTbl_at 463 (by decide +kernel) rfl, mTbl_at 462 (by decide +kernel) rfl, mTbl_at 109 (by decide +kernel) rfl⟩
theorem ml_X8_68 : mCV "BinProver$Tree" 68 qX8_meet 6 2 := ⟨⟨TX8, 10, rfl⟩, mTbl_at 543 (by decide +kernel) rfl, mTbl_at 545 (by decide +kernel) rfl, mTbl_at 8 (by decide +kernel) rfl, cm_X8_meet⟩
theorem ml_X8_72 : mCS "BinProver$Tree" 72 qX7_one 1 := ⟨mTbl_at 602 (by decide +kernel) rfl, mTbl_at 478 (by decide +kernel) rfl, cm_X7_one⟩
theorem mm_X8_78 : Cond.methodLink "BinProver$Tree" 78 Lib.Math.max.name ∈ mTbl ∧ Cond.static Lib.Math.max.name ∈ mTbl ∧ Cond.initialized "java/lang/Math" ∈ mTbl ∧ Cond.code Lib.Math.max.name Lib.Math.max.code 2 (some .int) ∈ mTbl := ⟨mTbl_at 547 (by decide +kernel) rfl, mTbl_at 452 (by decide +kernel) rfl, mTbl_at 104 (by decide +kernel) rfl, mTbl_at 453 (by decide +kernel) rfl⟩
theorem ml_X8_84 : mCS "BinProver$Tree" 84 qX8_firstLeft 2 := ⟨mTbl_at 548 (by decide +kernel) rfl, mTbl_at 549 (by decide +kernel) rfl, cm_X8_firstLeft⟩
theorem ml_X8_88 : mCV "BinProver$Tree" 88 qX8_finish 6 1 := ⟨⟨TX8, 10, rfl⟩, mTbl_at 551 (by decide +kernel) rfl, mTbl_at 553 (by decide +kernel) rfl, mTbl_at 9 (by decide +kernel) rfl, cm_X8_finish⟩
theorem ml_X8_92 : mCS "BinProver$Tree" 92 qX0_reaches 3 := ⟨mTbl_at 555 (by decide +kernel) rfl, mTbl_at 556 (by decide +kernel) rfl, cm_X0_reaches⟩
theorem ml_X8_98 : mCV "BinProver$Tree" 98 qX8_branch 6 3 := ⟨⟨TX8, 10, rfl⟩, mTbl_at 577 (by decide +kernel) rfl, mTbl_at 579 (by decide +kernel) rfl, mTbl_at 10 (by decide +kernel) rfl, cm_X8_branch⟩
theorem ml_X8_108 : mCS "BinProver$Tree" 108 qX5_begin 3 := ⟨mTbl_at 581 (by decide +kernel) rfl, mTbl_at 582 (by decide +kernel) rfl, cm_X5_begin⟩
theorem ml_X8_114 : mCS "BinProver$Tree" 114 qX5_goOn 3 := ⟨mTbl_at 591 (by decide +kernel) rfl, mTbl_at 592 (by decide +kernel) rfl, cm_X5_goOn⟩
theorem ml_L_7 : mCV "BinProverLaw" 7 qX9_goods 7 1 := ⟨⟨TX9, 15, rfl⟩, mTbl_at 643 (by decide +kernel) rfl, mTbl_at 644 (by decide +kernel) rfl, mTbl_at 645 (by decide +kernel) rfl, cm_X9_goods⟩
theorem ml_L_15 : mCV "BinProverLaw" 15 qX9_count 7 1 := ⟨⟨TX9, 15, rfl⟩, mTbl_at 834 (by decide +kernel) rfl, mTbl_at 835 (by decide +kernel) rfl, mTbl_at 836 (by decide +kernel) rfl, cm_X9_count⟩
theorem ml_L_20 : mCV "BinProverLaw" 20 qX9_sort 7 2 := ⟨⟨TX9, 15, rfl⟩, mTbl_at 874 (by decide +kernel) rfl, mTbl_at 875 (by decide +kernel) rfl, mTbl_at 876 (by decide +kernel) rfl, cm_X9_sort⟩
theorem ml_L_24 : mCV "BinProverLaw" 24 qX9_bin 7 2 := ⟨⟨TX9, 15, rfl⟩, mTbl_at 895 (by decide +kernel) rfl, mTbl_at 896 (by decide +kernel) rfl, mTbl_at 897 (by decide +kernel) rfl, cm_X9_bin⟩
theorem ml_L_27 : mCV "BinProverLaw" 27 qX9_rule 7 1 := ⟨⟨TX9, 15, rfl⟩, mTbl_at 907 (by decide +kernel) rfl, mTbl_at 908 (by decide +kernel) rfl, mTbl_at 909 (by decide +kernel) rfl, cm_X9_rule⟩
theorem ml_L_30 : mCV "BinProverLaw" 30 qX9_into 7 2 := ⟨⟨TX9, 15, rfl⟩, mTbl_at 920 (by decide +kernel) rfl, mTbl_at 921 (by decide +kernel) rfl, mTbl_at 922 (by decide +kernel) rfl, cm_X9_into⟩
theorem ml_L_33 : mCV "BinProverLaw" 33 qX9_guaranteed 7 1 := ⟨⟨TX9, 15, rfl⟩, mTbl_at 928 (by decide +kernel) rfl, mTbl_at 929 (by decide +kernel) rfl, mTbl_at 930 (by decide +kernel) rfl, cm_X9_guaranteed⟩
theorem ml_L_36 : mCV "BinProverLaw" 36 qX9_bound 7 1 := ⟨⟨TX9, 15, rfl⟩, mTbl_at 936 (by decide +kernel) rfl, mTbl_at 937 (by decide +kernel) rfl, mTbl_at 938 (by decide +kernel) rfl, cm_X9_bound⟩
theorem ml_L_39 : mCV "BinProverLaw" 39 qX9_split 7 1 := ⟨⟨TX9, 15, rfl⟩, mTbl_at 959 (by decide +kernel) rfl, mTbl_at 960 (by decide +kernel) rfl, mTbl_at 961 (by decide +kernel) rfl, cm_X9_split⟩
theorem ml_L_42 : mCV "BinProverLaw" 42 qX9_step 7 1 := ⟨⟨TX9, 15, rfl⟩, mTbl_at 967 (by decide +kernel) rfl, mTbl_at 968 (by decide +kernel) rfl, mTbl_at 969 (by decide +kernel) rfl, cm_X9_step⟩
theorem ml_L_45 : mCV "BinProverLaw" 45 qX9_patterns 7 1 := ⟨⟨TX9, 15, rfl⟩, mTbl_at 975 (by decide +kernel) rfl, mTbl_at 976 (by decide +kernel) rfl, mTbl_at 977 (by decide +kernel) rfl, cm_X9_patterns⟩
theorem ml_L_48 : mCV "BinProverLaw" 48 qX9_pattern 7 2 := ⟨⟨TX9, 15, rfl⟩, mTbl_at 1012 (by decide +kernel) rfl, mTbl_at 1013 (by decide +kernel) rfl, mTbl_at 1014 (by decide +kernel) rfl, cm_X9_pattern⟩
theorem ml_L_51 : mCV "BinProverLaw" 51 qX9_tree 7 1 := ⟨⟨TX9, 15, rfl⟩, mTbl_at 1028 (by decide +kernel) rfl, mTbl_at 1029 (by decide +kernel) rfl, mTbl_at 1030 (by decide +kernel) rfl, cm_X9_tree⟩
theorem ml_L_54 : mCV "BinProverLaw" 54 qX9_best 7 2 := ⟨⟨TX9, 15, rfl⟩, mTbl_at 1036 (by decide +kernel) rfl, mTbl_at 1037 (by decide +kernel) rfl, mTbl_at 1038 (by decide +kernel) rfl, cm_X9_best⟩
theorem ml_L_57 : mCV "BinProverLaw" 57 qX9_net 7 1 := ⟨⟨TX9, 15, rfl⟩, mTbl_at 1044 (by decide +kernel) rfl, mTbl_at 1045 (by decide +kernel) rfl, mTbl_at 1046 (by decide +kernel) rfl, cm_X9_net⟩
theorem ml_L_60 : mCV "BinProverLaw" 60 qX9_high 7 2 := ⟨⟨TX9, 15, rfl⟩, mTbl_at 1068 (by decide +kernel) rfl, mTbl_at 1069 (by decide +kernel) rfl, mTbl_at 1070 (by decide +kernel) rfl, cm_X9_high⟩
theorem ml_L_63 : mCV "BinProverLaw" 63 qX9_topUp 7 2 := ⟨⟨TX9, 15, rfl⟩, mTbl_at 1078 (by decide +kernel) rfl, mTbl_at 1079 (by decide +kernel) rfl, mTbl_at 1080 (by decide +kernel) rfl, cm_X9_topUp⟩
theorem ml_L_66 : mCV "BinProverLaw" 66 qX9_toHold 7 1 := ⟨⟨TX9, 15, rfl⟩, mTbl_at 1089 (by decide +kernel) rfl, mTbl_at 1090 (by decide +kernel) rfl, mTbl_at 1091 (by decide +kernel) rfl, cm_X9_toHold⟩
theorem ml_L_69 : mCV "BinProverLaw" 69 qX9_spare 7 1 := ⟨⟨TX9, 15, rfl⟩, mTbl_at 1103 (by decide +kernel) rfl, mTbl_at 1104 (by decide +kernel) rfl, mTbl_at 1105 (by decide +kernel) rfl, cm_X9_spare⟩
theorem ml_L_72 : mCV "BinProverLaw" 72 qX9_other 7 1 := ⟨⟨TX9, 15, rfl⟩, mTbl_at 1115 (by decide +kernel) rfl, mTbl_at 1116 (by decide +kernel) rfl, mTbl_at 1117 (by decide +kernel) rfl, cm_X9_other⟩
theorem ml_L_75 : mCV "BinProverLaw" 75 qX9_look 7 1 := ⟨⟨TX9, 15, rfl⟩, mTbl_at 1146 (by decide +kernel) rfl, mTbl_at 1147 (by decide +kernel) rfl, mTbl_at 1148 (by decide +kernel) rfl, cm_X9_look⟩
theorem ml_L_78 : mCV "BinProverLaw" 78 qX9_odds 7 2 := ⟨⟨TX9, 15, rfl⟩, mTbl_at 1169 (by decide +kernel) rfl, mTbl_at 1170 (by decide +kernel) rfl, mTbl_at 1171 (by decide +kernel) rfl, cm_X9_odds⟩
theorem ml_L_81 : mCV "BinProverLaw" 81 qX9_years 7 4 := ⟨⟨TX9, 15, rfl⟩, mTbl_at 1180 (by decide +kernel) rfl, mTbl_at 1181 (by decide +kernel) rfl, mTbl_at 1182 (by decide +kernel) rfl, cm_X9_years⟩
theorem ml_L_89 : mCV "BinProverLaw" 89 qX9_feed 7 5 := ⟨⟨TX9, 15, rfl⟩, mTbl_at 404 (by decide +kernel) rfl, mTbl_at 405 (by decide +kernel) rfl, mTbl_at 406 (by decide +kernel) rfl, cm_X9_feed⟩
theorem ml_L_93 : mCV "BinProverLaw" 93 qX10_feed 8 5 := ⟨⟨TX10, 58, rfl⟩, mTbl_at 1373 (by decide +kernel) rfl, mTbl_at 1374 (by decide +kernel) rfl, mTbl_at 1375 (by decide +kernel) rfl, cm_X10_feed⟩
theorem ml_L_99 : mCV "BinProverLaw" 99 qX10_goods 8 1 := ⟨⟨TX10, 58, rfl⟩, mTbl_at 1377 (by decide +kernel) rfl, mTbl_at 1378 (by decide +kernel) rfl, mTbl_at 1379 (by decide +kernel) rfl, cm_X10_goods⟩
theorem ml_L_100 : mCV "BinProverLaw" 100 qX10_thrown 8 0 := ⟨⟨TX10, 58, rfl⟩, mTbl_at 1369 (by decide +kernel) rfl, mTbl_at 1370 (by decide +kernel) rfl, mTbl_at 1371 (by decide +kernel) rfl, cm_X10_thrown⟩
theorem ml_L_104 : mCV "BinProverLaw" 104 qX9_fault 7 0 := ⟨⟨TX9, 15, rfl⟩, mTbl_at 412 (by decide +kernel) rfl, mTbl_at 413 (by decide +kernel) rfl, mTbl_at 414 (by decide +kernel) rfl, cm_X9_fault⟩
theorem ml_L_107 : mCV "BinProverLaw" 107 qX10_fault 8 0 := ⟨⟨TX10, 58, rfl⟩, mTbl_at 1429 (by decide +kernel) rfl, mTbl_at 1430 (by decide +kernel) rfl, mTbl_at 1431 (by decide +kernel) rfl, cm_X10_fault⟩
theorem ml_L_110 : mCV "BinProverLaw" 110 qX10_count 8 1 := ⟨⟨TX10, 58, rfl⟩, mTbl_at 1433 (by decide +kernel) rfl, mTbl_at 1434 (by decide +kernel) rfl, mTbl_at 1435 (by decide +kernel) rfl, cm_X10_count⟩
theorem ml_L_114 : mCV "BinProverLaw" 114 qX10_sort 8 2 := ⟨⟨TX10, 58, rfl⟩, mTbl_at 1554 (by decide +kernel) rfl, mTbl_at 1555 (by decide +kernel) rfl, mTbl_at 1556 (by decide +kernel) rfl, cm_X10_sort⟩
theorem ml_L_117 : mCV "BinProverLaw" 117 qX10_bin 8 2 := ⟨⟨TX10, 58, rfl⟩, mTbl_at 1570 (by decide +kernel) rfl, mTbl_at 1571 (by decide +kernel) rfl, mTbl_at 1572 (by decide +kernel) rfl, cm_X10_bin⟩
theorem ml_L_120 : mCV "BinProverLaw" 120 qX10_rule 8 1 := ⟨⟨TX10, 58, rfl⟩, mTbl_at 1578 (by decide +kernel) rfl, mTbl_at 1579 (by decide +kernel) rfl, mTbl_at 1580 (by decide +kernel) rfl, cm_X10_rule⟩
theorem ml_L_123 : mCV "BinProverLaw" 123 qX10_into 8 2 := ⟨⟨TX10, 58, rfl⟩, mTbl_at 1586 (by decide +kernel) rfl, mTbl_at 1587 (by decide +kernel) rfl, mTbl_at 1588 (by decide +kernel) rfl, cm_X10_into⟩
theorem ml_L_126 : mCV "BinProverLaw" 126 qX10_guaranteed 8 1 := ⟨⟨TX10, 58, rfl⟩, mTbl_at 1590 (by decide +kernel) rfl, mTbl_at 1591 (by decide +kernel) rfl, mTbl_at 1592 (by decide +kernel) rfl, cm_X10_guaranteed⟩
theorem ml_L_129 : mCV "BinProverLaw" 129 qX10_bound 8 1 := ⟨⟨TX10, 58, rfl⟩, mTbl_at 1594 (by decide +kernel) rfl, mTbl_at 1595 (by decide +kernel) rfl, mTbl_at 1596 (by decide +kernel) rfl, cm_X10_bound⟩
theorem ml_L_132 : mCV "BinProverLaw" 132 qX10_split 8 1 := ⟨⟨TX10, 58, rfl⟩, mTbl_at 1598 (by decide +kernel) rfl, mTbl_at 1599 (by decide +kernel) rfl, mTbl_at 1600 (by decide +kernel) rfl, cm_X10_split⟩
theorem ml_L_135 : mCV "BinProverLaw" 135 qX10_step 8 1 := ⟨⟨TX10, 58, rfl⟩, mTbl_at 1602 (by decide +kernel) rfl, mTbl_at 1603 (by decide +kernel) rfl, mTbl_at 1604 (by decide +kernel) rfl, cm_X10_step⟩
theorem ml_L_138 : mCV "BinProverLaw" 138 qX10_patterns 8 1 := ⟨⟨TX10, 58, rfl⟩, mTbl_at 1606 (by decide +kernel) rfl, mTbl_at 1607 (by decide +kernel) rfl, mTbl_at 1608 (by decide +kernel) rfl, cm_X10_patterns⟩
theorem ml_L_141 : mCV "BinProverLaw" 141 qX10_pattern 8 2 := ⟨⟨TX10, 58, rfl⟩, mTbl_at 1610 (by decide +kernel) rfl, mTbl_at 1611 (by decide +kernel) rfl, mTbl_at 1612 (by decide +kernel) rfl, cm_X10_pattern⟩
theorem ml_L_144 : mCV "BinProverLaw" 144 qX10_tree 8 1 := ⟨⟨TX10, 58, rfl⟩, mTbl_at 1614 (by decide +kernel) rfl, mTbl_at 1615 (by decide +kernel) rfl, mTbl_at 1616 (by decide +kernel) rfl, cm_X10_tree⟩
theorem ml_L_147 : mCV "BinProverLaw" 147 qX10_best 8 2 := ⟨⟨TX10, 58, rfl⟩, mTbl_at 1618 (by decide +kernel) rfl, mTbl_at 1619 (by decide +kernel) rfl, mTbl_at 1620 (by decide +kernel) rfl, cm_X10_best⟩
theorem ml_L_150 : mCV "BinProverLaw" 150 qX10_net 8 1 := ⟨⟨TX10, 58, rfl⟩, mTbl_at 1622 (by decide +kernel) rfl, mTbl_at 1623 (by decide +kernel) rfl, mTbl_at 1624 (by decide +kernel) rfl, cm_X10_net⟩
theorem ml_L_153 : mCV "BinProverLaw" 153 qX10_high 8 2 := ⟨⟨TX10, 58, rfl⟩, mTbl_at 1654 (by decide +kernel) rfl, mTbl_at 1655 (by decide +kernel) rfl, mTbl_at 1656 (by decide +kernel) rfl, cm_X10_high⟩
theorem ml_L_154 : mCV "BinProverLaw" 154 qX9_pack 7 2 := ⟨⟨TX9, 15, rfl⟩, mTbl_at 416 (by decide +kernel) rfl, mTbl_at 417 (by decide +kernel) rfl, mTbl_at 418 (by decide +kernel) rfl, cm_X9_pack⟩
theorem ml_L_157 : mCV "BinProverLaw" 157 qX10_pack 8 2 := ⟨⟨TX10, 58, rfl⟩, mTbl_at 1658 (by decide +kernel) rfl, mTbl_at 1659 (by decide +kernel) rfl, mTbl_at 1660 (by decide +kernel) rfl, cm_X10_pack⟩
theorem ml_L_158 : mCV "BinProverLaw" 158 qX9_put 7 2 := ⟨⟨TX9, 15, rfl⟩, mTbl_at 480 (by decide +kernel) rfl, mTbl_at 481 (by decide +kernel) rfl, mTbl_at 482 (by decide +kernel) rfl, cm_X9_put⟩
theorem ml_L_161 : mCV "BinProverLaw" 161 qX10_put 8 2 := ⟨⟨TX10, 58, rfl⟩, mTbl_at 1681 (by decide +kernel) rfl, mTbl_at 1682 (by decide +kernel) rfl, mTbl_at 1683 (by decide +kernel) rfl, cm_X10_put⟩
theorem ml_L_162 : mCV "BinProverLaw" 162 qX9_take 7 2 := ⟨⟨TX9, 15, rfl⟩, mTbl_at 489 (by decide +kernel) rfl, mTbl_at 490 (by decide +kernel) rfl, mTbl_at 491 (by decide +kernel) rfl, cm_X9_take⟩
theorem ml_L_165 : mCV "BinProverLaw" 165 qX10_take 8 2 := ⟨⟨TX10, 58, rfl⟩, mTbl_at 1685 (by decide +kernel) rfl, mTbl_at 1686 (by decide +kernel) rfl, mTbl_at 1687 (by decide +kernel) rfl, cm_X10_take⟩
theorem ml_L_166 : mCV "BinProverLaw" 166 qX9_rest 7 2 := ⟨⟨TX9, 15, rfl⟩, mTbl_at 507 (by decide +kernel) rfl, mTbl_at 508 (by decide +kernel) rfl, mTbl_at 509 (by decide +kernel) rfl, cm_X9_rest⟩
theorem ml_L_169 : mCV "BinProverLaw" 169 qX10_rest 8 2 := ⟨⟨TX10, 58, rfl⟩, mTbl_at 1693 (by decide +kernel) rfl, mTbl_at 1694 (by decide +kernel) rfl, mTbl_at 1695 (by decide +kernel) rfl, cm_X10_rest⟩
theorem ml_L_170 : mCV "BinProverLaw" 170 qX9_load 7 0 := ⟨⟨TX9, 15, rfl⟩, mTbl_at 512 (by decide +kernel) rfl, mTbl_at 513 (by decide +kernel) rfl, mTbl_at 514 (by decide +kernel) rfl, cm_X9_load⟩
theorem ml_L_173 : mCV "BinProverLaw" 173 qX10_load 8 0 := ⟨⟨TX10, 58, rfl⟩, mTbl_at 1697 (by decide +kernel) rfl, mTbl_at 1698 (by decide +kernel) rfl, mTbl_at 1699 (by decide +kernel) rfl, cm_X10_load⟩
theorem ml_L_174 : mCV "BinProverLaw" 174 qX9_join 7 2 := ⟨⟨TX9, 15, rfl⟩, mTbl_at 603 (by decide +kernel) rfl, mTbl_at 604 (by decide +kernel) rfl, mTbl_at 605 (by decide +kernel) rfl, cm_X9_join⟩
theorem ml_L_177 : mCV "BinProverLaw" 177 qX10_join 8 2 := ⟨⟨TX10, 58, rfl⟩, mTbl_at 1701 (by decide +kernel) rfl, mTbl_at 1702 (by decide +kernel) rfl, mTbl_at 1703 (by decide +kernel) rfl, cm_X10_join⟩
theorem ml_L_178 : mCV "BinProverLaw" 178 qX9_undo 7 0 := ⟨⟨TX9, 15, rfl⟩, mTbl_at 607 (by decide +kernel) rfl, mTbl_at 608 (by decide +kernel) rfl, mTbl_at 609 (by decide +kernel) rfl, cm_X9_undo⟩
theorem ml_L_181 : mCV "BinProverLaw" 181 qX10_undo 8 0 := ⟨⟨TX10, 58, rfl⟩, mTbl_at 1705 (by decide +kernel) rfl, mTbl_at 1706 (by decide +kernel) rfl, mTbl_at 1707 (by decide +kernel) rfl, cm_X10_undo⟩
theorem ml_L_184 : mCV "BinProverLaw" 184 qX10_topUp 8 2 := ⟨⟨TX10, 58, rfl⟩, mTbl_at 1709 (by decide +kernel) rfl, mTbl_at 1710 (by decide +kernel) rfl, mTbl_at 1711 (by decide +kernel) rfl, cm_X10_topUp⟩
theorem ml_L_187 : mCV "BinProverLaw" 187 qX10_toHold 8 1 := ⟨⟨TX10, 58, rfl⟩, mTbl_at 1713 (by decide +kernel) rfl, mTbl_at 1714 (by decide +kernel) rfl, mTbl_at 1715 (by decide +kernel) rfl, cm_X10_toHold⟩
theorem ml_L_190 : mCV "BinProverLaw" 190 qX10_spare 8 1 := ⟨⟨TX10, 58, rfl⟩, mTbl_at 1717 (by decide +kernel) rfl, mTbl_at 1718 (by decide +kernel) rfl, mTbl_at 1719 (by decide +kernel) rfl, cm_X10_spare⟩
theorem ml_L_191 : mCV "BinProverLaw" 191 qX9_note 7 2 := ⟨⟨TX9, 15, rfl⟩, mTbl_at 615 (by decide +kernel) rfl, mTbl_at 616 (by decide +kernel) rfl, mTbl_at 617 (by decide +kernel) rfl, cm_X9_note⟩
theorem ml_L_194 : mCV "BinProverLaw" 194 qX10_note 8 2 := ⟨⟨TX10, 58, rfl⟩, mTbl_at 1721 (by decide +kernel) rfl, mTbl_at 1722 (by decide +kernel) rfl, mTbl_at 1723 (by decide +kernel) rfl, cm_X10_note⟩
theorem ml_L_197 : mCV "BinProverLaw" 197 qX10_other 8 1 := ⟨⟨TX10, 58, rfl⟩, mTbl_at 1725 (by decide +kernel) rfl, mTbl_at 1726 (by decide +kernel) rfl, mTbl_at 1727 (by decide +kernel) rfl, cm_X10_other⟩
theorem ml_L_200 : mCV "BinProverLaw" 200 qX10_look 8 1 := ⟨⟨TX10, 58, rfl⟩, mTbl_at 1737 (by decide +kernel) rfl, mTbl_at 1738 (by decide +kernel) rfl, mTbl_at 1739 (by decide +kernel) rfl, cm_X10_look⟩
theorem ml_L_201 : mCV "BinProverLaw" 201 qX9_forget 7 0 := ⟨⟨TX9, 15, rfl⟩, mTbl_at 623 (by decide +kernel) rfl, mTbl_at 624 (by decide +kernel) rfl, mTbl_at 625 (by decide +kernel) rfl, cm_X9_forget⟩
theorem ml_L_204 : mCV "BinProverLaw" 204 qX10_forget 8 0 := ⟨⟨TX10, 58, rfl⟩, mTbl_at 1745 (by decide +kernel) rfl, mTbl_at 1746 (by decide +kernel) rfl, mTbl_at 1747 (by decide +kernel) rfl, cm_X10_forget⟩
theorem ml_L_207 : mCV "BinProverLaw" 207 qX10_odds 8 2 := ⟨⟨TX10, 58, rfl⟩, mTbl_at 1749 (by decide +kernel) rfl, mTbl_at 1750 (by decide +kernel) rfl, mTbl_at 1751 (by decide +kernel) rfl, cm_X10_odds⟩
theorem ml_L_211 : mCV "BinProverLaw" 211 qX10_years 8 4 := ⟨⟨TX10, 58, rfl⟩, mTbl_at 1753 (by decide +kernel) rfl, mTbl_at 1754 (by decide +kernel) rfl, mTbl_at 1755 (by decide +kernel) rfl, cm_X10_years⟩
theorem ml_L_212 : mCV "BinProverLaw" 212 qX9_image 7 0 := ⟨⟨TX9, 15, rfl⟩, mTbl_at 627 (by decide +kernel) rfl, mTbl_at 628 (by decide +kernel) rfl, mTbl_at 629 (by decide +kernel) rfl, cm_X9_image⟩
theorem ml_L_215 : mCV "BinProverLaw" 215 qX10_image 8 0 := ⟨⟨TX10, 58, rfl⟩, mTbl_at 1762 (by decide +kernel) rfl, mTbl_at 1763 (by decide +kernel) rfl, mTbl_at 1764 (by decide +kernel) rfl, cm_X10_image⟩
theorem ml_L_216 : mCV "BinProverLaw" 216 qX9_restore 7 0 := ⟨⟨TX9, 15, rfl⟩, mTbl_at 635 (by decide +kernel) rfl, mTbl_at 636 (by decide +kernel) rfl, mTbl_at 637 (by decide +kernel) rfl, cm_X9_restore⟩
theorem ml_L_220 : mCV "BinProverLaw" 220 qX10_restore 8 0 := ⟨⟨TX10, 58, rfl⟩, mTbl_at 1766 (by decide +kernel) rfl, mTbl_at 1767 (by decide +kernel) rfl, mTbl_at 1768 (by decide +kernel) rfl, cm_X10_restore⟩
theorem ml_X10_100 : mCV "BinProverModel" 100 qX10_byteAt 8 1 := ⟨⟨TX10, 58, rfl⟩, mTbl_at 1389 (by decide +kernel) rfl, mTbl_at 1391 (by decide +kernel) rfl, mTbl_at 34 (by decide +kernel) rfl, cm_X10_byteAt⟩
theorem ml_X10_119 : mCS "BinProverModel" 119 qX10_isLetter 1 := ⟨mTbl_at 1393 (by decide +kernel) rfl, mTbl_at 1394 (by decide +kernel) rfl, cm_X10_isLetter⟩
theorem ml_X10_123 : mCV "BinProverModel" 123 qX10_wordFrom 8 2 := ⟨⟨TX10, 58, rfl⟩, mTbl_at 1396 (by decide +kernel) rfl, mTbl_at 1398 (by decide +kernel) rfl, mTbl_at 35 (by decide +kernel) rfl, cm_X10_wordFrom⟩
theorem ml_X10_130 : mCV "BinProverModel" 130 qX10_wants 8 2 := ⟨⟨TX10, 58, rfl⟩, mTbl_at 1410 (by decide +kernel) rfl, mTbl_at 1412 (by decide +kernel) rfl, mTbl_at 38 (by decide +kernel) rfl, cm_X10_wants⟩
theorem ml_X10_134 : mCS "BinProverModel" 134 qX10_within 3 := ⟨mTbl_at 1418 (by decide +kernel) rfl, mTbl_at 1419 (by decide +kernel) rfl, cm_X10_within⟩
theorem ml_X10_138 : mCV "BinProverModel" 138 qX10_go 8 0 := ⟨⟨TX10, 58, rfl⟩, mTbl_at 1385 (by decide +kernel) rfl, mTbl_at 1387 (by decide +kernel) rfl, mTbl_at 33 (by decide +kernel) rfl, cm_X10_go⟩
theorem ml_X10_147 : mCV "BinProverModel" 147 qX10_number 8 2 := ⟨⟨TX10, 58, rfl⟩, mTbl_at 1414 (by decide +kernel) rfl, mTbl_at 1416 (by decide +kernel) rfl, mTbl_at 39 (by decide +kernel) rfl, cm_X10_number⟩
theorem ml_X10_150 : mCV "BinProverModel" 150 qX10_toldAll 8 0 := ⟨⟨TX10, 58, rfl⟩, mTbl_at 1421 (by decide +kernel) rfl, mTbl_at 1423 (by decide +kernel) rfl, mTbl_at 40 (by decide +kernel) rfl, cm_X10_toldAll⟩
theorem ml_X10_154 : mCV "BinProverModel" 154 qX10_sortTold 8 0 := ⟨⟨TX10, 58, rfl⟩, mTbl_at 1406 (by decide +kernel) rfl, mTbl_at 1408 (by decide +kernel) rfl, mTbl_at 37 (by decide +kernel) rfl, cm_X10_sortTold⟩
theorem ml_X10_157 : mCV "BinProverModel" 157 qX10_binTold 8 0 := ⟨⟨TX10, 58, rfl⟩, mTbl_at 1425 (by decide +kernel) rfl, mTbl_at 1427 (by decide +kernel) rfl, mTbl_at 41 (by decide +kernel) rfl, cm_X10_binTold⟩
theorem ml_X10_166 : mCV "BinProverModel" 166 qX10_fine 8 2 := ⟨⟨TX10, 58, rfl⟩, mTbl_at 1381 (by decide +kernel) rfl, mTbl_at 1383 (by decide +kernel) rfl, mTbl_at 32 (by decide +kernel) rfl, cm_X10_fine⟩
theorem ml_X10_169 : mCV "BinProverModel" 169 qX10_clause 8 0 := ⟨⟨TX10, 58, rfl⟩, mTbl_at 1402 (by decide +kernel) rfl, mTbl_at 1404 (by decide +kernel) rfl, mTbl_at 36 (by decide +kernel) rfl, cm_X10_clause⟩
theorem ml_X10_190 : mCV "BinProverModel" 190 qX10_orders 8 0 := ⟨⟨TX10, 58, rfl⟩, mTbl_at 1468 (by decide +kernel) rfl, mTbl_at 1470 (by decide +kernel) rfl, mTbl_at 49 (by decide +kernel) rfl, cm_X10_orders⟩
theorem ml_X10_196 : mCV "BinProverModel" 196 qX10_fitting 8 2 := ⟨⟨TX10, 58, rfl⟩, mTbl_at 1484 (by decide +kernel) rfl, mTbl_at 1486 (by decide +kernel) rfl, mTbl_at 53 (by decide +kernel) rfl, cm_X10_fitting⟩
theorem ml_X10_202 : mCV "BinProverModel" 202 qX10_comesInto 8 2 := ⟨⟨TX10, 58, rfl⟩, mTbl_at 1480 (by decide +kernel) rfl, mTbl_at 1482 (by decide +kernel) rfl, mTbl_at 52 (by decide +kernel) rfl, cm_X10_comesInto⟩
theorem ml_X10_205 : mCS "BinProverModel" 205 qX10_up 2 := ⟨mTbl_at 1507 (by decide +kernel) rfl, mTbl_at 1508 (by decide +kernel) rfl, cm_X10_up⟩
theorem ml_X10_208 : mCV "BinProverModel" 208 qX10_splits 8 3 := ⟨⟨TX10, 58, rfl⟩, mTbl_at 1514 (by decide +kernel) rfl, mTbl_at 1516 (by decide +kernel) rfl, mTbl_at 59 (by decide +kernel) rfl, cm_X10_splits⟩
theorem ml_X10_215 : mCV "BinProverModel" 215 qX10_stepped 8 3 := ⟨⟨TX10, 58, rfl⟩, mTbl_at 1522 (by decide +kernel) rfl, mTbl_at 1524 (by decide +kernel) rfl, mTbl_at 61 (by decide +kernel) rfl, cm_X10_stepped⟩
theorem ml_X10_218 : mCV "BinProverModel" 218 qX10_area 8 2 := ⟨⟨TX10, 58, rfl⟩, mTbl_at 1503 (by decide +kernel) rfl, mTbl_at 1505 (by decide +kernel) rfl, mTbl_at 57 (by decide +kernel) rfl, cm_X10_area⟩
theorem ml_X10_222 : mCV "BinProverModel" 222 qX10_topSplit 8 2 := ⟨⟨TX10, 58, rfl⟩, mTbl_at 1510 (by decide +kernel) rfl, mTbl_at 1512 (by decide +kernel) rfl, mTbl_at 58 (by decide +kernel) rfl, cm_X10_topSplit⟩
theorem ml_X10_225 : mCV "BinProverModel" 225 qX10_topStep 8 2 := ⟨⟨TX10, 58, rfl⟩, mTbl_at 1518 (by decide +kernel) rfl, mTbl_at 1520 (by decide +kernel) rfl, mTbl_at 60 (by decide +kernel) rfl, cm_X10_topStep⟩
theorem ml_X10_228 : mCS "BinProverModel" 228 qX10_greater 2 := ⟨mTbl_at 1492 (by decide +kernel) rfl, mTbl_at 1493 (by decide +kernel) rfl, cm_X10_greater⟩
theorem ml_X10_231 : mCV "BinProverModel" 231 qX10_within0 8 1 := ⟨⟨TX10, 58, rfl⟩, mTbl_at 1538 (by decide +kernel) rfl, mTbl_at 1540 (by decide +kernel) rfl, mTbl_at 65 (by decide +kernel) rfl, cm_X10_within0⟩
theorem ml_X10_234 : mCV "BinProverModel" 234 qX10_fills 8 4 := ⟨⟨TX10, 58, rfl⟩, mTbl_at 1534 (by decide +kernel) rfl, mTbl_at 1536 (by decide +kernel) rfl, mTbl_at 64 (by decide +kernel) rfl, cm_X10_fills⟩
theorem ml_X10_248 : mCV "BinProverModel" 248 qX10_firstLeft 8 1 := ⟨⟨TX10, 58, rfl⟩, mTbl_at 1495 (by decide +kernel) rfl, mTbl_at 1497 (by decide +kernel) rfl, mTbl_at 55 (by decide +kernel) rfl, cm_X10_firstLeft⟩
theorem ml_X10_257 : mCV "BinProverModel" 257 qX10_bounds 8 2 := ⟨⟨TX10, 58, rfl⟩, mTbl_at 1499 (by decide +kernel) rfl, mTbl_at 1501 (by decide +kernel) rfl, mTbl_at 56 (by decide +kernel) rfl, cm_X10_bounds⟩
theorem ml_X10_263 : mCV "BinProverModel" 263 qX10_steps 8 3 := ⟨⟨TX10, 58, rfl⟩, mTbl_at 1530 (by decide +kernel) rfl, mTbl_at 1532 (by decide +kernel) rfl, mTbl_at 63 (by decide +kernel) rfl, cm_X10_steps⟩
theorem ml_X10_267 : mCV "BinProverModel" 267 qX10_begins 8 3 := ⟨⟨TX10, 58, rfl⟩, mTbl_at 1542 (by decide +kernel) rfl, mTbl_at 1544 (by decide +kernel) rfl, mTbl_at 66 (by decide +kernel) rfl, cm_X10_begins⟩
theorem ml_X10_271 : mCV "BinProverModel" 271 qX10_isMaximal 8 3 := ⟨⟨TX10, 58, rfl⟩, mTbl_at 1546 (by decide +kernel) rfl, mTbl_at 1548 (by decide +kernel) rfl, mTbl_at 67 (by decide +kernel) rfl, cm_X10_isMaximal⟩
theorem ml_X10_274 : mCV "BinProverModel" 274 qX10_packs 8 1 := ⟨⟨TX10, 58, rfl⟩, mTbl_at 1476 (by decide +kernel) rfl, mTbl_at 1478 (by decide +kernel) rfl, mTbl_at 51 (by decide +kernel) rfl, cm_X10_packs⟩
theorem ml_X10_277 : mCV "BinProverModel" 277 qX10_meets 8 1 := ⟨⟨TX10, 58, rfl⟩, mTbl_at 1488 (by decide +kernel) rfl, mTbl_at 1490 (by decide +kernel) rfl, mTbl_at 54 (by decide +kernel) rfl, cm_X10_meets⟩
theorem ml_X10_280 : mCV "BinProverModel" 280 qX10_chooses 8 1 := ⟨⟨TX10, 58, rfl⟩, mTbl_at 1526 (by decide +kernel) rfl, mTbl_at 1528 (by decide +kernel) rfl, mTbl_at 62 (by decide +kernel) rfl, cm_X10_chooses⟩
theorem ml_X10_283 : mCV "BinProverModel" 283 qX10_looks 8 0 := ⟨⟨TX10, 58, rfl⟩, mTbl_at 1464 (by decide +kernel) rfl, mTbl_at 1466 (by decide +kernel) rfl, mTbl_at 48 (by decide +kernel) rfl, cm_X10_looks⟩
theorem ml_X10_286 : mCV "BinProverModel" 286 qX10_proves 8 0 := ⟨⟨TX10, 58, rfl⟩, mTbl_at 1472 (by decide +kernel) rfl, mTbl_at 1474 (by decide +kernel) rfl, mTbl_at 50 (by decide +kernel) rfl, cm_X10_proves⟩
theorem ml_X10_292 : mCV "BinProverModel" 292 qX10_isPoint 8 2 := ⟨⟨TX10, 58, rfl⟩, mTbl_at 1634 (by decide +kernel) rfl, mTbl_at 1636 (by decide +kernel) rfl, mTbl_at 76 (by decide +kernel) rfl, cm_X10_isPoint⟩
theorem ml_X10_296 : mCV "BinProverModel" 296 qX10_isFirstHigh 8 2 := ⟨⟨TX10, 58, rfl⟩, mTbl_at 1638 (by decide +kernel) rfl, mTbl_at 1640 (by decide +kernel) rfl, mTbl_at 77 (by decide +kernel) rfl, cm_X10_isFirstHigh⟩
theorem ml_X10_299 : mCS "BinProverModel" 299 qX10_binAt 1 := ⟨mTbl_at 1453 (by decide +kernel) rfl, mTbl_at 1454 (by decide +kernel) rfl, cm_X10_binAt⟩
theorem ml_X10_302 : mCV "BinProverModel" 302 qX10_bins 8 0 := ⟨⟨TX10, 58, rfl⟩, mTbl_at 1441 (by decide +kernel) rfl, mTbl_at 1443 (by decide +kernel) rfl, mTbl_at 43 (by decide +kernel) rfl, cm_X10_bins⟩
theorem ml_X10_305 : mCV "BinProverModel" 305 qX10_fullOf 8 1 := ⟨⟨TX10, 58, rfl⟩, mTbl_at 1449 (by decide +kernel) rfl, mTbl_at 1451 (by decide +kernel) rfl, mTbl_at 45 (by decide +kernel) rfl, cm_X10_fullOf⟩
theorem ml_X10_308 : mCV "BinProverModel" 308 qX10_fewestNow 8 0 := ⟨⟨TX10, 58, rfl⟩, mTbl_at 1460 (by decide +kernel) rfl, mTbl_at 1462 (by decide +kernel) rfl, mTbl_at 47 (by decide +kernel) rfl, cm_X10_fewestNow⟩
theorem ml_X10_311 : mCV "BinProverModel" 311 qX10_restMany 8 0 := ⟨⟨TX10, 58, rfl⟩, mTbl_at 1437 (by decide +kernel) rfl, mTbl_at 1439 (by decide +kernel) rfl, mTbl_at 42 (by decide +kernel) rfl, cm_X10_restMany⟩
theorem ml_X10_314 : mCV "BinProverModel" 314 qX10_waste 8 0 := ⟨⟨TX10, 58, rfl⟩, mTbl_at 1445 (by decide +kernel) rfl, mTbl_at 1447 (by decide +kernel) rfl, mTbl_at 44 (by decide +kernel) rfl, cm_X10_waste⟩
theorem ml_X10_317 : mCV "BinProverModel" 317 qX10_critical 8 0 := ⟨⟨TX10, 58, rfl⟩, mTbl_at 1456 (by decide +kernel) rfl, mTbl_at 1458 (by decide +kernel) rfl, mTbl_at 46 (by decide +kernel) rfl, cm_X10_critical⟩
theorem ml_X10_320 : mCV "BinProverModel" 320 qX10_apart 8 0 := ⟨⟨TX10, 58, rfl⟩, mTbl_at 1550 (by decide +kernel) rfl, mTbl_at 1552 (by decide +kernel) rfl, mTbl_at 68 (by decide +kernel) rfl, cm_X10_apart⟩
theorem ml_X10_323 : mCV "BinProverModel" 323 qX10_isSort 8 1 := ⟨⟨TX10, 58, rfl⟩, mTbl_at 1558 (by decide +kernel) rfl, mTbl_at 1560 (by decide +kernel) rfl, mTbl_at 69 (by decide +kernel) rfl, cm_X10_isSort⟩
theorem ml_X10_326 : mCV "BinProverModel" 326 qX10_placeInOrder 8 1 := ⟨⟨TX10, 58, rfl⟩, mTbl_at 1562 (by decide +kernel) rfl, mTbl_at 1564 (by decide +kernel) rfl, mTbl_at 70 (by decide +kernel) rfl, cm_X10_placeInOrder⟩
theorem ml_X10_329 : mCV "BinProverModel" 329 qX10_inBins 8 1 := ⟨⟨TX10, 58, rfl⟩, mTbl_at 1566 (by decide +kernel) rfl, mTbl_at 1568 (by decide +kernel) rfl, mTbl_at 71 (by decide +kernel) rfl, cm_X10_inBins⟩
theorem ml_X10_332 : mCV "BinProverModel" 332 qX10_isBin 8 1 := ⟨⟨TX10, 58, rfl⟩, mTbl_at 1574 (by decide +kernel) rfl, mTbl_at 1576 (by decide +kernel) rfl, mTbl_at 72 (by decide +kernel) rfl, cm_X10_isBin⟩
theorem ml_X10_335 : mCV "BinProverModel" 335 qX10_isRule 8 1 := ⟨⟨TX10, 58, rfl⟩, mTbl_at 1582 (by decide +kernel) rfl, mTbl_at 1584 (by decide +kernel) rfl, mTbl_at 73 (by decide +kernel) rfl, cm_X10_isRule⟩
theorem ml_X10_338 : mCV "BinProverModel" 338 qX10_laysNet 8 0 := ⟨⟨TX10, 58, rfl⟩, mTbl_at 1626 (by decide +kernel) rfl, mTbl_at 1628 (by decide +kernel) rfl, mTbl_at 74 (by decide +kernel) rfl, cm_X10_laysNet⟩
theorem ml_X10_341 : mCV "BinProverModel" 341 qX10_points 8 1 := ⟨⟨TX10, 58, rfl⟩, mTbl_at 1630 (by decide +kernel) rfl, mTbl_at 1632 (by decide +kernel) rfl, mTbl_at 75 (by decide +kernel) rfl, cm_X10_points⟩
theorem ml_X10_345 : mCV "BinProverModel" 345 qX10_arcs 8 1 := ⟨⟨TX10, 58, rfl⟩, mTbl_at 1642 (by decide +kernel) rfl, mTbl_at 1644 (by decide +kernel) rfl, mTbl_at 78 (by decide +kernel) rfl, cm_X10_arcs⟩
theorem ml_X10_348 : mCV "BinProverModel" 348 qX10_paths 8 0 := ⟨⟨TX10, 58, rfl⟩, mTbl_at 1646 (by decide +kernel) rfl, mTbl_at 1648 (by decide +kernel) rfl, mTbl_at 79 (by decide +kernel) rfl, cm_X10_paths⟩
theorem ml_X10_351 : mCV "BinProverModel" 351 qX10_squeezedPaths 8 0 := ⟨⟨TX10, 58, rfl⟩, mTbl_at 1650 (by decide +kernel) rfl, mTbl_at 1652 (by decide +kernel) rfl, mTbl_at 80 (by decide +kernel) rfl, cm_X10_squeezedPaths⟩
theorem ml_X10_354 : mCS "BinProverModel" 354 qX10_keptAt 2 := ⟨mTbl_at 1674 (by decide +kernel) rfl, mTbl_at 1675 (by decide +kernel) rfl, cm_X10_keptAt⟩
theorem ml_X10_357 : mCV "BinProverModel" 357 qX10_copies 8 3 := ⟨⟨TX10, 58, rfl⟩, mTbl_at 1677 (by decide +kernel) rfl, mTbl_at 1679 (by decide +kernel) rfl, mTbl_at 84 (by decide +kernel) rfl, cm_X10_copies⟩
theorem ml_X10_361 : mCV "BinProverModel" 361 qX10_refuses 8 1 := ⟨⟨TX10, 58, rfl⟩, mTbl_at 1662 (by decide +kernel) rfl, mTbl_at 1664 (by decide +kernel) rfl, mTbl_at 81 (by decide +kernel) rfl, cm_X10_refuses⟩
theorem ml_X10_364 : mCV "BinProverModel" 364 qX10_laysFree 8 0 := ⟨⟨TX10, 58, rfl⟩, mTbl_at 1666 (by decide +kernel) rfl, mTbl_at 1668 (by decide +kernel) rfl, mTbl_at 82 (by decide +kernel) rfl, cm_X10_laysFree⟩
theorem ml_X10_367 : mCV "BinProverModel" 367 qX10_keeps 8 0 := ⟨⟨TX10, 58, rfl⟩, mTbl_at 1670 (by decide +kernel) rfl, mTbl_at 1672 (by decide +kernel) rfl, mTbl_at 83 (by decide +kernel) rfl, cm_X10_keeps⟩
theorem ml_X10_370 : mCV "BinProverModel" 370 qX10_dropsBin 8 1 := ⟨⟨TX10, 58, rfl⟩, mTbl_at 1689 (by decide +kernel) rfl, mTbl_at 1691 (by decide +kernel) rfl, mTbl_at 85 (by decide +kernel) rfl, cm_X10_dropsBin⟩
theorem ml_X10_374 : mCV "BinProverModel" 374 qX10_isNoted 8 0 := ⟨⟨TX10, 58, rfl⟩, mTbl_at 1729 (by decide +kernel) rfl, mTbl_at 1731 (by decide +kernel) rfl, mTbl_at 86 (by decide +kernel) rfl, cm_X10_isNoted⟩
theorem ml_X10_378 : mCV "BinProverModel" 378 qX10_isGuess 8 2 := ⟨⟨TX10, 58, rfl⟩, mTbl_at 1733 (by decide +kernel) rfl, mTbl_at 1735 (by decide +kernel) rfl, mTbl_at 87 (by decide +kernel) rfl, cm_X10_isGuess⟩
theorem ml_X10_381 : mCV "BinProverModel" 381 qX10_unlike 8 2 := ⟨⟨TX10, 58, rfl⟩, mTbl_at 1741 (by decide +kernel) rfl, mTbl_at 1743 (by decide +kernel) rfl, mTbl_at 88 (by decide +kernel) rfl, cm_X10_unlike⟩
theorem ml_X10_388 : mCV "BinProverModel" 388 qX10_draw 8 1 := ⟨⟨TX10, 58, rfl⟩, mTbl_at 1757 (by decide +kernel) rfl, mTbl_at 1759 (by decide +kernel) rfl, mTbl_at 89 (by decide +kernel) rfl, cm_X10_draw⟩
theorem cw_X9_419 : Cond.constant "BinProver" 419 (1103515245) ∈ mTbl := mTbl_at 1186 (by decide +kernel) rfl
theorem cw_X5_13 : Cond.constant "BinProver$Patterns" 13 (100000) ∈ mTbl := mTbl_at 594 (by decide +kernel) rfl
theorem cw_X10_387 : Cond.constant "BinProverModel" 387 (1103515245) ∈ mTbl := mTbl_at 1761 (by decide +kernel) rfl
theorem cw_J6_265 : Cond.constant "java/lang/Integer" 265 (1431655765) ∈ mTbl := mTbl_at 1162 (by decide +kernel) rfl
theorem cw_J6_266 : Cond.constant "java/lang/Integer" 266 (858993459) ∈ mTbl := mTbl_at 1163 (by decide +kernel) rfl
theorem cw_J6_267 : Cond.constant "java/lang/Integer" 267 (252645135) ∈ mTbl := mTbl_at 1164 (by decide +kernel) rfl
