theorem mm_tbI (i : Nat) {w : Cond} (h : tables_1[i]? = some w) (hg : goodWord w = true) : w ∈ mm_tb := List.mem_filter.mpr ⟨List.mem_append_right _ (List.mem_of_getElem? h), hg⟩
theorem mm_tbP (i : Nat) {q : MethodName × Nat} (h : lw_privs[i]? = some q) (hg : goodWord (Cond.selects q.1.cls q.1 q.1) = true) : Cond.selects q.1.cls q.1 q.1 ∈ mm_tb := List.mem_filter.mpr ⟨List.mem_append_left _ (List.mem_map.mpr ⟨q, List.mem_of_getElem? h, rfl⟩), hg⟩
theorem mm_nwI (i : Nat) {w : Cond} (h : tables_1[i]? = some w) (hg : mm_isN w = true) : w ∈ mm_nw := List.mem_filter.mpr ⟨List.mem_append_right _ (List.mem_of_getElem? h), hg⟩
theorem lo_0 : mm_lay[0]? = some (.inl (11, [3, 6, 24, 29, 34, 0, 39, 48, 57, 58, 73, 75, 95])) := rfl
theorem lo_1 : mm_lay[1]? = some (.inl (9, [4, 0])) := rfl
theorem lo_2 : mm_lay[2]? = some (.inr (0, 200, 0)) := rfl
theorem lo_3 : mm_lay[3]? = some (.inl (10, [3, 0, 0, 0, 0])) := rfl
theorem lo_4 : mm_lay[4]? = some (.inl (1, [5, 7, 20, 0, 21, 22, 23, 0, 0])) := rfl
theorem lo_5 : mm_lay[5]? = some (.inr (2, 12, 6)) := rfl
theorem lo_18 : mm_lay[18]? = some (.inr (0, 72, 0)) := rfl
theorem lo_22 : mm_lay[22]? = some (.inl (2, [25, 0, 26, 27, 28, 0, 0])) := rfl
theorem lo_27 : mm_lay[27]? = some (.inl (7, [0, 30, 31, 32, 33, 0])) := rfl
theorem lo_32 : mm_lay[32]? = some (.inl (7, [0, 35, 36, 37, 38, 0])) := rfl
theorem lo_37 : mm_lay[37]? = some (.inl (3, [40, 41, 0, 42, 43, 44, 45, 0, 46, 47, 0, 0])) := rfl
theorem lo_45 : mm_lay[45]? = some (.inr (0, 160, 0)) := rfl
theorem lo_46 : mm_lay[46]? = some (.inl (3, [49, 50, 0, 51, 52, 53, 54, 0, 55, 56, 0, 0])) := rfl
theorem lo_55 : mm_lay[55]? = some (.inl (4, [5, 48])) := rfl
theorem lo_56 : mm_lay[56]? = some (.inl (5, [24, 29, 6, 59, 70, 71, 72, 0, 0, 0])) := rfl
theorem lo_57 : mm_lay[57]? = some (.inr (2, 10, 58)) := rfl
theorem lo_69 : mm_lay[69]? = some (.inr (0, 72, 0)) := rfl
theorem lo_70 : mm_lay[70]? = some (.inr (0, 96, 0)) := rfl
theorem lo_71 : mm_lay[71]? = some (.inl (0, [24, 29, 58, 0, 0, 74, 1, 1])) := rfl
theorem lo_73 : mm_lay[73]? = some (.inl (8, [24, 29, 39, 58, 76, 87, 0, 0, 88, 89, 90, 91, 92, 93, 94])) := rfl
theorem lo_74 : mm_lay[74]? = some (.inr (2, 10, 75)) := rfl
theorem lo_85 : mm_lay[85]? = some (.inr (0, 10, 0)) := rfl
theorem lo_93 : mm_lay[93]? = some (.inl (6, [24, 29, 58, 0, 96, 97, 98, 0, 0])) := rfl
theorem lo_97 : mm_lay[97]? = some (.inl (12, [100, 0, 0, 0, 0, 0, 0, 101, 102, 0, 0, 0, 0, 0, 103, 104, 105, 106, 107, 108, 109, 110, 0, 0, 0, 0, 0, 111, 112, 113, 114, 115, 116, 117, 118, 119, 120, 121, 122, 123, 124, 125, 126, 127, 128, 129, 0, 0, 0, 0, 0, 0, 130, 131, 132, 133, 134, 0, 135, 136, 137, 0, 0, 0, 138, 139, 140, 141])) := rfl
theorem cf_0 : mm_CF 0 RX0 TX0 8 tyX0 := by
  refine ⟨rfl, ?_, tyX0_ok, nmX0⟩
  have h : ∀ k, k < 8 → u_lay RX0 TX0 k ∈ mm_tb := by
    intro k hk
    have h2 : ∀ k, k < 8 → tables_1[[324, 326, 328, 330, 332, 334, 336, 338].getD k 0]? = some (u_lay RX0 TX0 k) ∧ goodWord (u_lay RX0 TX0 k) = true := by decide +kernel
    exact mm_tbI _ (h2 k hk).1 (h2 k hk).2
  intro w hw
  obtain ⟨k, hk, rfl⟩ := List.mem_map.mp hw
  exact h k (List.mem_range.mp hk)
theorem cf_1 : mm_CF 1 RX1 TX1 9 tyX1 := by
  refine ⟨rfl, ?_, tyX1_ok, nmX1⟩
  have h : ∀ k, k < 9 → u_lay RX1 TX1 k ∈ mm_tb := by
    intro k hk
    have h2 : ∀ k, k < 9 → tables_1[[94, 96, 98, 100, 102, 104, 106, 108, 110].getD k 0]? = some (u_lay RX1 TX1 k) ∧ goodWord (u_lay RX1 TX1 k) = true := by decide +kernel
    exact mm_tbI _ (h2 k hk).1 (h2 k hk).2
  intro w hw
  obtain ⟨k, hk, rfl⟩ := List.mem_map.mp hw
  exact h k (List.mem_range.mp hk)
theorem cf_2 : mm_CF 2 RX2 TX2 7 tyX2 := by
  refine ⟨rfl, ?_, tyX2_ok, nmX2⟩
  have h : ∀ k, k < 7 → u_lay RX2 TX2 k ∈ mm_tb := by
    intro k hk
    have h2 : ∀ k, k < 7 → tables_1[[146, 148, 150, 152, 154, 156, 158].getD k 0]? = some (u_lay RX2 TX2 k) ∧ goodWord (u_lay RX2 TX2 k) = true := by decide +kernel
    exact mm_tbI _ (h2 k hk).1 (h2 k hk).2
  intro w hw
  obtain ⟨k, hk, rfl⟩ := List.mem_map.mp hw
  exact h k (List.mem_range.mp hk)
theorem cf_3 : mm_CF 3 RX3 TX3 12 tyX3 := by
  refine ⟨rfl, ?_, tyX3_ok, nmX3⟩
  have h : ∀ k, k < 12 → u_lay RX3 TX3 k ∈ mm_tb := by
    intro k hk
    have h2 : ∀ k, k < 12 → tables_1[[222, 224, 226, 228, 230, 232, 234, 236, 238, 240, 242, 244].getD k 0]? = some (u_lay RX3 TX3 k) ∧ goodWord (u_lay RX3 TX3 k) = true := by decide +kernel
    exact mm_tbI _ (h2 k hk).1 (h2 k hk).2
  intro w hw
  obtain ⟨k, hk, rfl⟩ := List.mem_map.mp hw
  exact h k (List.mem_range.mp hk)
theorem cf_4 : mm_CF 4 RX4 TX4 2 tyX4 := by
  refine ⟨rfl, ?_, tyX4_ok, nmX4⟩
  have h : ∀ k, k < 2 → u_lay RX4 TX4 k ∈ mm_tb := by
    intro k hk
    have h2 : ∀ k, k < 2 → tables_1[[255, 257].getD k 0]? = some (u_lay RX4 TX4 k) ∧ goodWord (u_lay RX4 TX4 k) = true := by decide +kernel
    exact mm_tbI _ (h2 k hk).1 (h2 k hk).2
  intro w hw
  obtain ⟨k, hk, rfl⟩ := List.mem_map.mp hw
  exact h k (List.mem_range.mp hk)
theorem cf_5 : mm_CF 5 RX5 TX5 10 tyX5 := by
  refine ⟨rfl, ?_, tyX5_ok, nmX5⟩
  have h : ∀ k, k < 10 → u_lay RX5 TX5 k ∈ mm_tb := by
    intro k hk
    have h2 : ∀ k, k < 10 → tables_1[[284, 286, 288, 290, 292, 294, 296, 298, 300, 302].getD k 0]? = some (u_lay RX5 TX5 k) ∧ goodWord (u_lay RX5 TX5 k) = true := by decide +kernel
    exact mm_tbI _ (h2 k hk).1 (h2 k hk).2
  intro w hw
  obtain ⟨k, hk, rfl⟩ := List.mem_map.mp hw
  exact h k (List.mem_range.mp hk)
theorem cf_6 : mm_CF 6 RX6 TX6 9 tyX6 := by
  refine ⟨rfl, ?_, tyX6_ok, nmX6⟩
  have h : ∀ k, k < 9 → u_lay RX6 TX6 k ∈ mm_tb := by
    intro k hk
    have h2 : ∀ k, k < 9 → tables_1[[417, 419, 421, 423, 425, 427, 429, 431, 433].getD k 0]? = some (u_lay RX6 TX6 k) ∧ goodWord (u_lay RX6 TX6 k) = true := by decide +kernel
    exact mm_tbI _ (h2 k hk).1 (h2 k hk).2
  intro w hw
  obtain ⟨k, hk, rfl⟩ := List.mem_map.mp hw
  exact h k (List.mem_range.mp hk)
theorem cf_7 : mm_CF 7 RX7 TX7 6 tyX7 := by
  refine ⟨rfl, ?_, tyX7_ok, nmX7⟩
  have h : ∀ k, k < 6 → u_lay RX7 TX7 k ∈ mm_tb := by
    intro k hk
    have h2 : ∀ k, k < 6 → tables_1[[189, 191, 193, 195, 197, 199].getD k 0]? = some (u_lay RX7 TX7 k) ∧ goodWord (u_lay RX7 TX7 k) = true := by decide +kernel
    exact mm_tbI _ (h2 k hk).1 (h2 k hk).2
  intro w hw
  obtain ⟨k, hk, rfl⟩ := List.mem_map.mp hw
  exact h k (List.mem_range.mp hk)
theorem cf_8 : mm_CF 8 RX8 TX8 15 tyX8 := by
  refine ⟨rfl, ?_, tyX8_ok, nmX8⟩
  have h : ∀ k, k < 15 → u_lay RX8 TX8 k ∈ mm_tb := by
    intro k hk
    have h2 : ∀ k, k < 15 → tables_1[[368, 370, 372, 374, 376, 378, 380, 382, 384, 386, 388, 390, 392, 394, 396].getD k 0]? = some (u_lay RX8 TX8 k) ∧ goodWord (u_lay RX8 TX8 k) = true := by decide +kernel
    exact mm_tbI _ (h2 k hk).1 (h2 k hk).2
  intro w hw
  obtain ⟨k, hk, rfl⟩ := List.mem_map.mp hw
  exact h k (List.mem_range.mp hk)
theorem cf_9 : mm_CF 9 RX9 TX9 2 tyX9 := by
  refine ⟨rfl, ?_, tyX9_ok, nmX9⟩
  have h : ∀ k, k < 2 → u_lay RX9 TX9 k ∈ mm_tb := by
    intro k hk
    have h2 : ∀ k, k < 2 → tables_1[[41, 43].getD k 0]? = some (u_lay RX9 TX9 k) ∧ goodWord (u_lay RX9 TX9 k) = true := by decide +kernel
    exact mm_tbI _ (h2 k hk).1 (h2 k hk).2
  intro w hw
  obtain ⟨k, hk, rfl⟩ := List.mem_map.mp hw
  exact h k (List.mem_range.mp hk)
theorem cf_10 : mm_CF 10 RX10 TX10 5 tyX10 := by
  refine ⟨rfl, ?_, tyX10_ok, nmX10⟩
  have h : ∀ k, k < 5 → u_lay RX10 TX10 k ∈ mm_tb := by
    intro k hk
    have h2 : ∀ k, k < 5 → tables_1[[62, 64, 66, 68, 70].getD k 0]? = some (u_lay RX10 TX10 k) ∧ goodWord (u_lay RX10 TX10 k) = true := by decide +kernel
    exact mm_tbI _ (h2 k hk).1 (h2 k hk).2
  intro w hw
  obtain ⟨k, hk, rfl⟩ := List.mem_map.mp hw
  exact h k (List.mem_range.mp hk)
theorem cf_11 : mm_CF 11 RX11 TX11 13 tyX11 := by
  refine ⟨rfl, ?_, tyX11_ok, nmX11⟩
  have h : ∀ k, k < 13 → u_lay RX11 TX11 k ∈ mm_tb := by
    intro k hk
    have h2 : ∀ k, k < 13 → tables_1[[449, 451, 453, 455, 457, 459, 461, 463, 465, 467, 469, 471, 473].getD k 0]? = some (u_lay RX11 TX11 k) ∧ goodWord (u_lay RX11 TX11 k) = true := by decide +kernel
    exact mm_tbI _ (h2 k hk).1 (h2 k hk).2
  intro w hw
  obtain ⟨k, hk, rfl⟩ := List.mem_map.mp hw
  exact h k (List.mem_range.mp hk)
theorem cf_12 : mm_CF 12 RX12 TX12 68 tyX12 := by
  refine ⟨rfl, ?_, tyX12_ok, nmX12⟩
  have h : ∀ k, k < 68 → u_lay RX12 TX12 k ∈ mm_tb := by
    intro k hk
    have h2 : ∀ k, k < 68 → tables_1[[1263, 1265, 1267, 1269, 1271, 1273, 1275, 1277, 1279, 1281, 1283, 1285, 1287, 1289, 1291, 1293, 1295, 1297, 1299, 1301, 1303, 1305, 1307, 1309, 1311, 1313, 1315, 1317, 1319, 1321, 1323, 1325, 1327, 1329, 1331, 1333, 1335, 1337, 1339, 1341, 1343, 1345, 1347, 1349, 1351, 1353, 1355, 1357, 1359, 1361, 1363, 1365, 1367, 1369, 1371, 1373, 1375, 1377, 1379, 1381, 1383, 1385, 1387, 1389, 1391, 1393, 1395, 1397].getD k 0]? = some (u_lay RX12 TX12 k) ∧ goodWord (u_lay RX12 TX12 k) = true := by decide +kernel
    exact mm_tbI _ (h2 k hk).1 (h2 k hk).2
  intro w hw
  obtain ⟨k, hk, rfl⟩ := List.mem_map.mp hw
  exact h k (List.mem_range.mp hk)
theorem ct_RJ6_265 : Cond.constant RJ6 265 (1431655765) ∈ mm_tb := mm_tbI 914 (by decide +kernel) rfl
theorem ct_RJ6_266 : Cond.constant RJ6 266 (858993459) ∈ mm_tb := mm_tbI 915 (by decide +kernel) rfl
theorem ct_RJ6_267 : Cond.constant RJ6 267 (252645135) ∈ mm_tb := mm_tbI 916 (by decide +kernel) rfl
theorem ct_RX11_225 : Cond.constant RX11 225 (-1000000) ∈ mm_tb := mm_tbI 966 (by decide +kernel) rfl
theorem ct_RX11_270 : Cond.constantLong RX11 270 (-1) ∈ mm_tb := mm_tbI 1057 (by decide +kernel) rfl
theorem ct_RX11_305 : Cond.constant RX11 305 (65535) ∈ mm_tb := mm_tbI 1149 (by decide +kernel) rfl
theorem ct_RX11_340 : Cond.constant RX11 340 (65536) ∈ mm_tb := mm_tbI 1158 (by decide +kernel) rfl
theorem ct_RX12_240 : Cond.constant RX12 240 (1048576) ∈ mm_tb := mm_tbI 1535 (by decide +kernel) rfl
theorem ct_RX12_380 : Cond.constant RX12 380 (-1000000) ∈ mm_tb := mm_tbI 1675 (by decide +kernel) rfl
theorem ct_RX12_417 : Cond.constantLong RX12 417 (-1) ∈ mm_tb := mm_tbI 1733 (by decide +kernel) rfl
theorem ct_RX12_426 : Cond.constant RX12 426 (1000000000) ∈ mm_tb := mm_tbI 1745 (by decide +kernel) rfl
theorem ct_RX12_436 : Cond.constant RX12 436 (65535) ∈ mm_tb := mm_tbI 1766 (by decide +kernel) rfl
theorem ct_RX12_437 : Cond.constant RX12 437 (65536) ∈ mm_tb := mm_tbI 1771 (by decide +kernel) rfl
theorem fl_RX0_15 : mm_FL RX0 15 0 0 := ⟨RX0, TX0, 8, tyX0, cf_0, by decide, rfl, Or.inl (mm_tbI 311 (by decide +kernel) rfl)⟩
theorem fl_RX0_19 : mm_FL RX0 19 0 1 := ⟨RX0, TX0, 8, tyX0, cf_0, by decide, rfl, Or.inl (mm_tbI 312 (by decide +kernel) rfl)⟩
theorem fl_RX0_23 : mm_FL RX0 23 0 2 := ⟨RX0, TX0, 8, tyX0, cf_0, by decide, rfl, Or.inl (mm_tbI 313 (by decide +kernel) rfl)⟩
theorem fl_RX0_59 : mm_FL RX0 59 7 0 := ⟨RX7, TX7, 6, tyX7, cf_7, by decide, rfl, Or.inr ⟨"WeatherHotel", mm_nwI 169 (by decide +kernel) rfl⟩⟩
theorem fl_RX0_63 : mm_FL RX0 63 0 3 := ⟨RX0, TX0, 8, tyX0, cf_0, by decide, rfl, Or.inl (mm_tbI 314 (by decide +kernel) rfl)⟩
theorem fl_RX0_66 : mm_FL RX0 66 0 4 := ⟨RX0, TX0, 8, tyX0, cf_0, by decide, rfl, Or.inl (mm_tbI 316 (by decide +kernel) rfl)⟩
theorem fl_RX0_76 : mm_FL RX0 76 2 3 := ⟨RX2, TX2, 7, tyX2, cf_2, by decide, rfl, Or.inr ⟨"WeatherHotel", mm_nwI 135 (by decide +kernel) rfl⟩⟩
theorem fl_RX0_87 : mm_FL RX0 87 2 2 := ⟨RX2, TX2, 7, tyX2, cf_2, by decide, rfl, Or.inr ⟨"WeatherHotel", mm_nwI 131 (by decide +kernel) rfl⟩⟩
theorem fl_RX0_9 : mm_FL RX0 9 0 5 := ⟨RX0, TX0, 8, tyX0, cf_0, by decide, rfl, Or.inl (mm_tbI 318 (by decide +kernel) rfl)⟩
theorem fl_RX10_15 : mm_FL RX10 15 9 1 := ⟨RX9, TX9, 2, tyX9, cf_9, by decide, rfl, Or.inr ⟨"WeatherHotel", mm_nwI 40 (by decide +kernel) rfl⟩⟩
theorem fl_RX10_27 : mm_FL RX10 27 10 1 := ⟨RX10, TX10, 5, tyX10, cf_10, by decide, rfl, Or.inl (mm_tbI 54 (by decide +kernel) rfl)⟩
theorem fl_RX10_28 : mm_FL RX10 28 10 2 := ⟨RX10, TX10, 5, tyX10, cf_10, by decide, rfl, Or.inl (mm_tbI 55 (by decide +kernel) rfl)⟩
theorem fl_RX10_37 : mm_FL RX10 37 9 0 := ⟨RX9, TX9, 2, tyX9, cf_9, by decide, rfl, Or.inr ⟨"WeatherHotel", mm_nwI 38 (by decide +kernel) rfl⟩⟩
theorem fl_RX10_41 : mm_FL RX10 41 10 3 := ⟨RX10, TX10, 5, tyX10, cf_10, by decide, rfl, Or.inl (mm_tbI 58 (by decide +kernel) rfl)⟩
theorem fl_RX10_9 : mm_FL RX10 9 10 0 := ⟨RX10, TX10, 5, tyX10, cf_10, by decide, rfl, Or.inl (mm_tbI 53 (by decide +kernel) rfl)⟩
theorem fl_RX11_12 : mm_FL RX11 12 11 0 := ⟨RX11, TX11, 13, tyX11, cf_11, by decide, rfl, Or.inl (mm_tbI 436 (by decide +kernel) rfl)⟩
theorem fl_RX11_127 : mm_FL RX11 127 2 1 := ⟨RX2, TX2, 7, tyX2, cf_2, by decide, rfl, Or.inr ⟨"WeatherHotel", mm_nwI 127 (by decide +kernel) rfl⟩⟩
theorem fl_RX11_131 : mm_FL RX11 131 2 0 := ⟨RX2, TX2, 7, tyX2, cf_2, by decide, rfl, Or.inr ⟨"WeatherHotel", mm_nwI 125 (by decide +kernel) rfl⟩⟩
theorem fl_RX11_138 : mm_FL RX11 138 2 2 := ⟨RX2, TX2, 7, tyX2, cf_2, by decide, rfl, Or.inr ⟨"WeatherHotel", mm_nwI 130 (by decide +kernel) rfl⟩⟩
theorem fl_RX11_141 : mm_FL RX11 141 2 3 := ⟨RX2, TX2, 7, tyX2, cf_2, by decide, rfl, Or.inr ⟨"WeatherHotel", mm_nwI 134 (by decide +kernel) rfl⟩⟩
theorem fl_RX11_144 : mm_FL RX11 144 2 4 := ⟨RX2, TX2, 7, tyX2, cf_2, by decide, rfl, Or.inr ⟨"WeatherHotel", mm_nwI 138 (by decide +kernel) rfl⟩⟩
theorem fl_RX11_164 : mm_FL RX11 164 7 0 := ⟨RX7, TX7, 6, tyX7, cf_7, by decide, rfl, Or.inr ⟨"WeatherHotel", mm_nwI 170 (by decide +kernel) rfl⟩⟩
theorem fl_RX11_167 : mm_FL RX11 167 7 4 := ⟨RX7, TX7, 6, tyX7, cf_7, by decide, rfl, Or.inr ⟨"WeatherHotel", mm_nwI 186 (by decide +kernel) rfl⟩⟩
theorem fl_RX11_183 : mm_FL RX11 183 5 5 := ⟨RX5, TX5, 10, tyX5, cf_5, by decide, rfl, Or.inr ⟨"WeatherHotel", mm_nwI 276 (by decide +kernel) rfl⟩⟩
theorem fl_RX11_189 : mm_FL RX11 189 8 4 := ⟨RX8, TX8, 15, tyX8, cf_8, by decide, rfl, Or.inr ⟨"WeatherHotel", mm_nwI 353 (by decide +kernel) rfl⟩⟩
theorem fl_RX11_193 : mm_FL RX11 193 8 5 := ⟨RX8, TX8, 15, tyX8, cf_8, by decide, rfl, Or.inr ⟨"WeatherHotel", mm_nwI 355 (by decide +kernel) rfl⟩⟩
theorem fl_RX11_196 : mm_FL RX11 196 8 6 := ⟨RX8, TX8, 15, tyX8, cf_8, by decide, rfl, Or.inr ⟨"WeatherHotel", mm_nwI 357 (by decide +kernel) rfl⟩⟩
theorem fl_RX11_199 : mm_FL RX11 199 8 7 := ⟨RX8, TX8, 15, tyX8, cf_8, by decide, rfl, Or.inr ⟨"WeatherHotel", mm_nwI 359 (by decide +kernel) rfl⟩⟩
theorem fl_RX11_210 : mm_FL RX11 210 5 8 := ⟨RX5, TX5, 10, tyX5, cf_5, by decide, rfl, Or.inr ⟨"WeatherHotel", mm_nwI 281 (by decide +kernel) rfl⟩⟩
theorem fl_RX11_213 : mm_FL RX11 213 5 9 := ⟨RX5, TX5, 10, tyX5, cf_5, by decide, rfl, Or.inr ⟨"WeatherHotel", mm_nwI 283 (by decide +kernel) rfl⟩⟩
theorem fl_RX11_240 : mm_FL RX11 240 6 4 := ⟨RX6, TX6, 9, tyX6, cf_6, by decide, rfl, Or.inr ⟨"WeatherHotel", mm_nwI 410 (by decide +kernel) rfl⟩⟩
theorem fl_RX11_252 : mm_FL RX11 252 6 5 := ⟨RX6, TX6, 9, tyX6, cf_6, by decide, rfl, Or.inr ⟨"WeatherHotel", mm_nwI 412 (by decide +kernel) rfl⟩⟩
theorem fl_RX11_255 : mm_FL RX11 255 6 8 := ⟨RX6, TX6, 9, tyX6, cf_6, by decide, rfl, Or.inr ⟨"WeatherHotel", mm_nwI 416 (by decide +kernel) rfl⟩⟩
theorem fl_RX11_26 : mm_FL RX11 26 11 1 := ⟨RX11, TX11, 13, tyX11, cf_11, by decide, rfl, Or.inl (mm_tbI 437 (by decide +kernel) rfl)⟩
theorem fl_RX11_261 : mm_FL RX11 261 0 3 := ⟨RX0, TX0, 8, tyX0, cf_0, by decide, rfl, Or.inr ⟨"WeatherHotel", mm_nwI 315 (by decide +kernel) rfl⟩⟩
theorem fl_RX11_264 : mm_FL RX11 264 0 4 := ⟨RX0, TX0, 8, tyX0, cf_0, by decide, rfl, Or.inr ⟨"WeatherHotel", mm_nwI 317 (by decide +kernel) rfl⟩⟩
theorem fl_RX11_267 : mm_FL RX11 267 0 5 := ⟨RX0, TX0, 8, tyX0, cf_0, by decide, rfl, Or.inr ⟨"WeatherHotel", mm_nwI 319 (by decide +kernel) rfl⟩⟩
theorem fl_RX11_276 : mm_FL RX11 276 0 6 := ⟨RX0, TX0, 8, tyX0, cf_0, by decide, rfl, Or.inr ⟨"WeatherHotel", mm_nwI 321 (by decide +kernel) rfl⟩⟩
theorem fl_RX11_280 : mm_FL RX11 280 0 7 := ⟨RX0, TX0, 8, tyX0, cf_0, by decide, rfl, Or.inr ⟨"WeatherHotel", mm_nwI 323 (by decide +kernel) rfl⟩⟩
theorem fl_RX11_286 : mm_FL RX11 286 8 13 := ⟨RX8, TX8, 15, tyX8, cf_8, by decide, rfl, Or.inr ⟨"WeatherHotel", mm_nwI 366 (by decide +kernel) rfl⟩⟩
theorem fl_RX11_296 : mm_FL RX11 296 1 7 := ⟨RX1, TX1, 9, tyX1, cf_1, by decide, rfl, Or.inr ⟨"WeatherHotel", mm_nwI 91 (by decide +kernel) rfl⟩⟩
theorem fl_RX11_299 : mm_FL RX11 299 1 8 := ⟨RX1, TX1, 9, tyX1, cf_1, by decide, rfl, Or.inr ⟨"WeatherHotel", mm_nwI 93 (by decide +kernel) rfl⟩⟩
theorem fl_RX11_302 : mm_FL RX11 302 1 6 := ⟨RX1, TX1, 9, tyX1, cf_1, by decide, rfl, Or.inr ⟨"WeatherHotel", mm_nwI 89 (by decide +kernel) rfl⟩⟩
theorem fl_RX11_306 : mm_FL RX11 306 7 5 := ⟨RX7, TX7, 6, tyX7, cf_7, by decide, rfl, Or.inr ⟨"WeatherHotel", mm_nwI 188 (by decide +kernel) rfl⟩⟩
theorem fl_RX11_315 : mm_FL RX11 315 11 5 := ⟨RX11, TX11, 13, tyX11, cf_11, by decide, rfl, Or.inl (mm_tbI 441 (by decide +kernel) rfl)⟩
theorem fl_RX11_322 : mm_FL RX11 322 1 3 := ⟨RX1, TX1, 9, tyX1, cf_1, by decide, rfl, Or.inr ⟨"WeatherHotel", mm_nwI 85 (by decide +kernel) rfl⟩⟩
theorem fl_RX11_325 : mm_FL RX11 325 3 7 := ⟨RX3, TX3, 12, tyX3, cf_3, by decide, rfl, Or.inr ⟨"WeatherHotel", mm_nwI 217 (by decide +kernel) rfl⟩⟩
theorem fl_RX11_33 : mm_FL RX11 33 11 2 := ⟨RX11, TX11, 13, tyX11, cf_11, by decide, rfl, Or.inl (mm_tbI 438 (by decide +kernel) rfl)⟩
theorem fl_RX11_331 : mm_FL RX11 331 7 1 := ⟨RX7, TX7, 6, tyX7, cf_7, by decide, rfl, Or.inr ⟨"WeatherHotel", mm_nwI 175 (by decide +kernel) rfl⟩⟩
theorem fl_RX11_334 : mm_FL RX11 334 7 2 := ⟨RX7, TX7, 6, tyX7, cf_7, by decide, rfl, Or.inr ⟨"WeatherHotel", mm_nwI 179 (by decide +kernel) rfl⟩⟩
theorem fl_RX11_337 : mm_FL RX11 337 7 3 := ⟨RX7, TX7, 6, tyX7, cf_7, by decide, rfl, Or.inr ⟨"WeatherHotel", mm_nwI 182 (by decide +kernel) rfl⟩⟩
theorem fl_RX11_40 : mm_FL RX11 40 11 3 := ⟨RX11, TX11, 13, tyX11, cf_11, by decide, rfl, Or.inl (mm_tbI 439 (by decide +kernel) rfl)⟩
theorem fl_RX11_44 : mm_FL RX11 44 11 4 := ⟨RX11, TX11, 13, tyX11, cf_11, by decide, rfl, Or.inl (mm_tbI 440 (by decide +kernel) rfl)⟩
theorem fl_RX11_50 : mm_FL RX11 50 11 6 := ⟨RX11, TX11, 13, tyX11, cf_11, by decide, rfl, Or.inl (mm_tbI 442 (by decide +kernel) rfl)⟩
theorem fl_RX11_54 : mm_FL RX11 54 11 7 := ⟨RX11, TX11, 13, tyX11, cf_11, by decide, rfl, Or.inl (mm_tbI 443 (by decide +kernel) rfl)⟩
theorem fl_RX11_62 : mm_FL RX11 62 11 8 := ⟨RX11, TX11, 13, tyX11, cf_11, by decide, rfl, Or.inl (mm_tbI 444 (by decide +kernel) rfl)⟩
theorem fl_RX11_71 : mm_FL RX11 71 11 9 := ⟨RX11, TX11, 13, tyX11, cf_11, by decide, rfl, Or.inl (mm_tbI 445 (by decide +kernel) rfl)⟩
theorem fl_RX11_80 : mm_FL RX11 80 11 10 := ⟨RX11, TX11, 13, tyX11, cf_11, by decide, rfl, Or.inl (mm_tbI 446 (by decide +kernel) rfl)⟩
theorem fl_RX11_89 : mm_FL RX11 89 11 11 := ⟨RX11, TX11, 13, tyX11, cf_11, by decide, rfl, Or.inl (mm_tbI 447 (by decide +kernel) rfl)⟩
theorem fl_RX11_96 : mm_FL RX11 96 11 12 := ⟨RX11, TX11, 13, tyX11, cf_11, by decide, rfl, Or.inl (mm_tbI 448 (by decide +kernel) rfl)⟩
theorem fl_RX12_101 : mm_FL RX12 101 12 52 := ⟨RX12, TX12, 68, tyX12, cf_12, by decide, rfl, Or.inl (mm_tbI 1247 (by decide +kernel) rfl)⟩
theorem fl_RX12_104 : mm_FL RX12 104 12 53 := ⟨RX12, TX12, 68, tyX12, cf_12, by decide, rfl, Or.inl (mm_tbI 1248 (by decide +kernel) rfl)⟩
theorem fl_RX12_107 : mm_FL RX12 107 12 54 := ⟨RX12, TX12, 68, tyX12, cf_12, by decide, rfl, Or.inl (mm_tbI 1249 (by decide +kernel) rfl)⟩
theorem fl_RX12_110 : mm_FL RX12 110 12 55 := ⟨RX12, TX12, 68, tyX12, cf_12, by decide, rfl, Or.inl (mm_tbI 1250 (by decide +kernel) rfl)⟩
theorem fl_RX12_113 : mm_FL RX12 113 12 56 := ⟨RX12, TX12, 68, tyX12, cf_12, by decide, rfl, Or.inl (mm_tbI 1251 (by decide +kernel) rfl)⟩
theorem fl_RX12_116 : mm_FL RX12 116 12 58 := ⟨RX12, TX12, 68, tyX12, cf_12, by decide, rfl, Or.inl (mm_tbI 1253 (by decide +kernel) rfl)⟩
theorem fl_RX12_119 : mm_FL RX12 119 12 59 := ⟨RX12, TX12, 68, tyX12, cf_12, by decide, rfl, Or.inl (mm_tbI 1254 (by decide +kernel) rfl)⟩
theorem fl_RX12_122 : mm_FL RX12 122 12 60 := ⟨RX12, TX12, 68, tyX12, cf_12, by decide, rfl, Or.inl (mm_tbI 1255 (by decide +kernel) rfl)⟩
theorem fl_RX12_125 : mm_FL RX12 125 12 64 := ⟨RX12, TX12, 68, tyX12, cf_12, by decide, rfl, Or.inl (mm_tbI 1259 (by decide +kernel) rfl)⟩
theorem fl_RX12_128 : mm_FL RX12 128 12 65 := ⟨RX12, TX12, 68, tyX12, cf_12, by decide, rfl, Or.inl (mm_tbI 1260 (by decide +kernel) rfl)⟩
theorem fl_RX12_13 : mm_FL RX12 13 12 7 := ⟨RX12, TX12, 68, tyX12, cf_12, by decide, rfl, Or.inl (mm_tbI 1202 (by decide +kernel) rfl)⟩
theorem fl_RX12_131 : mm_FL RX12 131 12 66 := ⟨RX12, TX12, 68, tyX12, cf_12, by decide, rfl, Or.inl (mm_tbI 1261 (by decide +kernel) rfl)⟩
theorem fl_RX12_134 : mm_FL RX12 134 12 67 := ⟨RX12, TX12, 68, tyX12, cf_12, by decide, rfl, Or.inl (mm_tbI 1262 (by decide +kernel) rfl)⟩
theorem fl_RX12_137 : mm_FL RX12 137 12 13 := ⟨RX12, TX12, 68, tyX12, cf_12, by decide, rfl, Or.inl (mm_tbI 1208 (by decide +kernel) rfl)⟩
theorem fl_RX12_141 : mm_FL RX12 141 12 10 := ⟨RX12, TX12, 68, tyX12, cf_12, by decide, rfl, Or.inl (mm_tbI 1205 (by decide +kernel) rfl)⟩
theorem fl_RX12_144 : mm_FL RX12 144 12 1 := ⟨RX12, TX12, 68, tyX12, cf_12, by decide, rfl, Or.inl (mm_tbI 1196 (by decide +kernel) rfl)⟩
theorem fl_RX12_151 : mm_FL RX12 151 12 2 := ⟨RX12, TX12, 68, tyX12, cf_12, by decide, rfl, Or.inl (mm_tbI 1197 (by decide +kernel) rfl)⟩
theorem fl_RX12_154 : mm_FL RX12 154 12 5 := ⟨RX12, TX12, 68, tyX12, cf_12, by decide, rfl, Or.inl (mm_tbI 1200 (by decide +kernel) rfl)⟩
theorem fl_RX12_17 : mm_FL RX12 17 12 8 := ⟨RX12, TX12, 68, tyX12, cf_12, by decide, rfl, Or.inl (mm_tbI 1203 (by decide +kernel) rfl)⟩
theorem fl_RX12_187 : mm_FL RX12 187 12 3 := ⟨RX12, TX12, 68, tyX12, cf_12, by decide, rfl, Or.inl (mm_tbI 1198 (by decide +kernel) rfl)⟩
theorem fl_RX12_193 : mm_FL RX12 193 12 4 := ⟨RX12, TX12, 68, tyX12, cf_12, by decide, rfl, Or.inl (mm_tbI 1199 (by decide +kernel) rfl)⟩
theorem fl_RX12_196 : mm_FL RX12 196 12 6 := ⟨RX12, TX12, 68, tyX12, cf_12, by decide, rfl, Or.inl (mm_tbI 1201 (by decide +kernel) rfl)⟩
theorem fl_RX12_20 : mm_FL RX12 20 12 14 := ⟨RX12, TX12, 68, tyX12, cf_12, by decide, rfl, Or.inl (mm_tbI 1209 (by decide +kernel) rfl)⟩
theorem fl_RX12_211 : mm_FL RX12 211 12 9 := ⟨RX12, TX12, 68, tyX12, cf_12, by decide, rfl, Or.inl (mm_tbI 1204 (by decide +kernel) rfl)⟩
theorem fl_RX12_214 : mm_FL RX12 214 12 11 := ⟨RX12, TX12, 68, tyX12, cf_12, by decide, rfl, Or.inl (mm_tbI 1206 (by decide +kernel) rfl)⟩
theorem fl_RX12_217 : mm_FL RX12 217 12 12 := ⟨RX12, TX12, 68, tyX12, cf_12, by decide, rfl, Or.inl (mm_tbI 1207 (by decide +kernel) rfl)⟩
theorem fl_RX12_23 : mm_FL RX12 23 12 15 := ⟨RX12, TX12, 68, tyX12, cf_12, by decide, rfl, Or.inl (mm_tbI 1210 (by decide +kernel) rfl)⟩
theorem fl_RX12_237 : mm_FL RX12 237 12 23 := ⟨RX12, TX12, 68, tyX12, cf_12, by decide, rfl, Or.inl (mm_tbI 1218 (by decide +kernel) rfl)⟩
theorem fl_RX12_241 : mm_FL RX12 241 12 22 := ⟨RX12, TX12, 68, tyX12, cf_12, by decide, rfl, Or.inl (mm_tbI 1217 (by decide +kernel) rfl)⟩
theorem fl_RX12_244 : mm_FL RX12 244 12 24 := ⟨RX12, TX12, 68, tyX12, cf_12, by decide, rfl, Or.inl (mm_tbI 1219 (by decide +kernel) rfl)⟩
theorem fl_RX12_26 : mm_FL RX12 26 12 16 := ⟨RX12, TX12, 68, tyX12, cf_12, by decide, rfl, Or.inl (mm_tbI 1211 (by decide +kernel) rfl)⟩
theorem fl_RX12_29 : mm_FL RX12 29 12 17 := ⟨RX12, TX12, 68, tyX12, cf_12, by decide, rfl, Or.inl (mm_tbI 1212 (by decide +kernel) rfl)⟩
theorem fl_RX12_291 : mm_FL RX12 291 12 25 := ⟨RX12, TX12, 68, tyX12, cf_12, by decide, rfl, Or.inl (mm_tbI 1220 (by decide +kernel) rfl)⟩
theorem fl_RX12_300 : mm_FL RX12 300 12 26 := ⟨RX12, TX12, 68, tyX12, cf_12, by decide, rfl, Or.inl (mm_tbI 1221 (by decide +kernel) rfl)⟩
theorem fl_RX12_316 : mm_FL RX12 316 12 46 := ⟨RX12, TX12, 68, tyX12, cf_12, by decide, rfl, Or.inl (mm_tbI 1241 (by decide +kernel) rfl)⟩
theorem fl_RX12_32 : mm_FL RX12 32 12 18 := ⟨RX12, TX12, 68, tyX12, cf_12, by decide, rfl, Or.inl (mm_tbI 1213 (by decide +kernel) rfl)⟩
theorem fl_RX12_322 : mm_FL RX12 322 12 49 := ⟨RX12, TX12, 68, tyX12, cf_12, by decide, rfl, Or.inl (mm_tbI 1244 (by decide +kernel) rfl)⟩
theorem fl_RX12_325 : mm_FL RX12 325 12 48 := ⟨RX12, TX12, 68, tyX12, cf_12, by decide, rfl, Or.inl (mm_tbI 1243 (by decide +kernel) rfl)⟩
theorem fl_RX12_328 : mm_FL RX12 328 12 47 := ⟨RX12, TX12, 68, tyX12, cf_12, by decide, rfl, Or.inl (mm_tbI 1242 (by decide +kernel) rfl)⟩
theorem fl_RX12_35 : mm_FL RX12 35 12 19 := ⟨RX12, TX12, 68, tyX12, cf_12, by decide, rfl, Or.inl (mm_tbI 1214 (by decide +kernel) rfl)⟩
theorem fl_RX12_350 : mm_FL RX12 350 12 50 := ⟨RX12, TX12, 68, tyX12, cf_12, by decide, rfl, Or.inl (mm_tbI 1245 (by decide +kernel) rfl)⟩
theorem fl_RX12_357 : mm_FL RX12 357 12 51 := ⟨RX12, TX12, 68, tyX12, cf_12, by decide, rfl, Or.inl (mm_tbI 1246 (by decide +kernel) rfl)⟩
theorem fl_RX12_38 : mm_FL RX12 38 12 20 := ⟨RX12, TX12, 68, tyX12, cf_12, by decide, rfl, Or.inl (mm_tbI 1215 (by decide +kernel) rfl)⟩
theorem fl_RX12_381 : mm_FL RX12 381 12 57 := ⟨RX12, TX12, 68, tyX12, cf_12, by decide, rfl, Or.inl (mm_tbI 1252 (by decide +kernel) rfl)⟩
theorem fl_RX12_41 : mm_FL RX12 41 12 21 := ⟨RX12, TX12, 68, tyX12, cf_12, by decide, rfl, Or.inl (mm_tbI 1216 (by decide +kernel) rfl)⟩
theorem fl_RX12_438 : mm_FL RX12 438 12 61 := ⟨RX12, TX12, 68, tyX12, cf_12, by decide, rfl, Or.inl (mm_tbI 1256 (by decide +kernel) rfl)⟩
theorem fl_RX12_44 : mm_FL RX12 44 12 27 := ⟨RX12, TX12, 68, tyX12, cf_12, by decide, rfl, Or.inl (mm_tbI 1222 (by decide +kernel) rfl)⟩
theorem fl_RX12_442 : mm_FL RX12 442 12 62 := ⟨RX12, TX12, 68, tyX12, cf_12, by decide, rfl, Or.inl (mm_tbI 1257 (by decide +kernel) rfl)⟩
theorem fl_RX12_445 : mm_FL RX12 445 12 63 := ⟨RX12, TX12, 68, tyX12, cf_12, by decide, rfl, Or.inl (mm_tbI 1258 (by decide +kernel) rfl)⟩
theorem fl_RX12_47 : mm_FL RX12 47 12 28 := ⟨RX12, TX12, 68, tyX12, cf_12, by decide, rfl, Or.inl (mm_tbI 1223 (by decide +kernel) rfl)⟩
theorem fl_RX12_50 : mm_FL RX12 50 12 29 := ⟨RX12, TX12, 68, tyX12, cf_12, by decide, rfl, Or.inl (mm_tbI 1224 (by decide +kernel) rfl)⟩
theorem fl_RX12_53 : mm_FL RX12 53 12 30 := ⟨RX12, TX12, 68, tyX12, cf_12, by decide, rfl, Or.inl (mm_tbI 1225 (by decide +kernel) rfl)⟩
theorem fl_RX12_56 : mm_FL RX12 56 12 31 := ⟨RX12, TX12, 68, tyX12, cf_12, by decide, rfl, Or.inl (mm_tbI 1226 (by decide +kernel) rfl)⟩
theorem fl_RX12_59 : mm_FL RX12 59 12 32 := ⟨RX12, TX12, 68, tyX12, cf_12, by decide, rfl, Or.inl (mm_tbI 1227 (by decide +kernel) rfl)⟩
theorem fl_RX12_62 : mm_FL RX12 62 12 33 := ⟨RX12, TX12, 68, tyX12, cf_12, by decide, rfl, Or.inl (mm_tbI 1228 (by decide +kernel) rfl)⟩
theorem fl_RX12_65 : mm_FL RX12 65 12 34 := ⟨RX12, TX12, 68, tyX12, cf_12, by decide, rfl, Or.inl (mm_tbI 1229 (by decide +kernel) rfl)⟩
theorem fl_RX12_68 : mm_FL RX12 68 12 35 := ⟨RX12, TX12, 68, tyX12, cf_12, by decide, rfl, Or.inl (mm_tbI 1230 (by decide +kernel) rfl)⟩
theorem fl_RX12_7 : mm_FL RX12 7 12 0 := ⟨RX12, TX12, 68, tyX12, cf_12, by decide, rfl, Or.inl (mm_tbI 1195 (by decide +kernel) rfl)⟩
theorem fl_RX12_71 : mm_FL RX12 71 12 36 := ⟨RX12, TX12, 68, tyX12, cf_12, by decide, rfl, Or.inl (mm_tbI 1231 (by decide +kernel) rfl)⟩
theorem fl_RX12_74 : mm_FL RX12 74 12 37 := ⟨RX12, TX12, 68, tyX12, cf_12, by decide, rfl, Or.inl (mm_tbI 1232 (by decide +kernel) rfl)⟩
theorem fl_RX12_77 : mm_FL RX12 77 12 38 := ⟨RX12, TX12, 68, tyX12, cf_12, by decide, rfl, Or.inl (mm_tbI 1233 (by decide +kernel) rfl)⟩
theorem fl_RX12_80 : mm_FL RX12 80 12 39 := ⟨RX12, TX12, 68, tyX12, cf_12, by decide, rfl, Or.inl (mm_tbI 1234 (by decide +kernel) rfl)⟩
theorem fl_RX12_83 : mm_FL RX12 83 12 40 := ⟨RX12, TX12, 68, tyX12, cf_12, by decide, rfl, Or.inl (mm_tbI 1235 (by decide +kernel) rfl)⟩
theorem fl_RX12_86 : mm_FL RX12 86 12 41 := ⟨RX12, TX12, 68, tyX12, cf_12, by decide, rfl, Or.inl (mm_tbI 1236 (by decide +kernel) rfl)⟩
theorem fl_RX12_89 : mm_FL RX12 89 12 42 := ⟨RX12, TX12, 68, tyX12, cf_12, by decide, rfl, Or.inl (mm_tbI 1237 (by decide +kernel) rfl)⟩
theorem fl_RX12_92 : mm_FL RX12 92 12 43 := ⟨RX12, TX12, 68, tyX12, cf_12, by decide, rfl, Or.inl (mm_tbI 1238 (by decide +kernel) rfl)⟩
theorem fl_RX12_95 : mm_FL RX12 95 12 44 := ⟨RX12, TX12, 68, tyX12, cf_12, by decide, rfl, Or.inl (mm_tbI 1239 (by decide +kernel) rfl)⟩
theorem fl_RX12_98 : mm_FL RX12 98 12 45 := ⟨RX12, TX12, 68, tyX12, cf_12, by decide, rfl, Or.inl (mm_tbI 1240 (by decide +kernel) rfl)⟩
theorem fl_RX1_102 : mm_FL RX1 102 10 2 := ⟨RX10, TX10, 5, tyX10, cf_10, by decide, rfl, Or.inr ⟨"WeatherHotel", mm_nwI 56 (by decide +kernel) rfl⟩⟩
theorem fl_RX1_11 : mm_FL RX1 11 1 1 := ⟨RX1, TX1, 9, tyX1, cf_1, by decide, rfl, Or.inl (mm_tbI 82 (by decide +kernel) rfl)⟩
theorem fl_RX1_114 : mm_FL RX1 114 1 7 := ⟨RX1, TX1, 9, tyX1, cf_1, by decide, rfl, Or.inl (mm_tbI 90 (by decide +kernel) rfl)⟩
theorem fl_RX1_117 : mm_FL RX1 117 1 8 := ⟨RX1, TX1, 9, tyX1, cf_1, by decide, rfl, Or.inl (mm_tbI 92 (by decide +kernel) rfl)⟩
theorem fl_RX1_16 : mm_FL RX1 16 1 2 := ⟨RX1, TX1, 9, tyX1, cf_1, by decide, rfl, Or.inl (mm_tbI 83 (by decide +kernel) rfl)⟩
theorem fl_RX1_20 : mm_FL RX1 20 1 4 := ⟨RX1, TX1, 9, tyX1, cf_1, by decide, rfl, Or.inl (mm_tbI 86 (by decide +kernel) rfl)⟩
theorem fl_RX1_23 : mm_FL RX1 23 1 5 := ⟨RX1, TX1, 9, tyX1, cf_1, by decide, rfl, Or.inl (mm_tbI 87 (by decide +kernel) rfl)⟩
theorem fl_RX1_26 : mm_FL RX1 26 1 6 := ⟨RX1, TX1, 9, tyX1, cf_1, by decide, rfl, Or.inl (mm_tbI 88 (by decide +kernel) rfl)⟩
theorem fl_RX1_29 : mm_FL RX1 29 1 0 := ⟨RX1, TX1, 9, tyX1, cf_1, by decide, rfl, Or.inl (mm_tbI 81 (by decide +kernel) rfl)⟩
theorem fl_RX1_33 : mm_FL RX1 33 1 3 := ⟨RX1, TX1, 9, tyX1, cf_1, by decide, rfl, Or.inl (mm_tbI 84 (by decide +kernel) rfl)⟩
theorem fl_RX1_67 : mm_FL RX1 67 10 4 := ⟨RX10, TX10, 5, tyX10, cf_10, by decide, rfl, Or.inr ⟨"WeatherHotel", mm_nwI 61 (by decide +kernel) rfl⟩⟩
theorem fl_RX2_34 : mm_FL RX2 34 2 6 := ⟨RX2, TX2, 7, tyX2, cf_2, by decide, rfl, Or.inl (mm_tbI 144 (by decide +kernel) rfl)⟩
theorem fl_RX3_15 : mm_FL RX3 15 3 1 := ⟨RX3, TX3, 12, tyX3, cf_3, by decide, rfl, Or.inl (mm_tbI 209 (by decide +kernel) rfl)⟩
theorem fl_RX3_18 : mm_FL RX3 18 3 3 := ⟨RX3, TX3, 12, tyX3, cf_3, by decide, rfl, Or.inl (mm_tbI 212 (by decide +kernel) rfl)⟩
theorem fl_RX3_21 : mm_FL RX3 21 3 4 := ⟨RX3, TX3, 12, tyX3, cf_3, by decide, rfl, Or.inl (mm_tbI 213 (by decide +kernel) rfl)⟩
theorem fl_RX3_24 : mm_FL RX3 24 3 5 := ⟨RX3, TX3, 12, tyX3, cf_3, by decide, rfl, Or.inl (mm_tbI 214 (by decide +kernel) rfl)⟩
theorem fl_RX3_27 : mm_FL RX3 27 3 6 := ⟨RX3, TX3, 12, tyX3, cf_3, by decide, rfl, Or.inl (mm_tbI 215 (by decide +kernel) rfl)⟩
theorem fl_RX3_30 : mm_FL RX3 30 3 8 := ⟨RX3, TX3, 12, tyX3, cf_3, by decide, rfl, Or.inl (mm_tbI 218 (by decide +kernel) rfl)⟩
theorem fl_RX3_33 : mm_FL RX3 33 3 9 := ⟨RX3, TX3, 12, tyX3, cf_3, by decide, rfl, Or.inl (mm_tbI 219 (by decide +kernel) rfl)⟩
theorem fl_RX3_36 : mm_FL RX3 36 3 2 := ⟨RX3, TX3, 12, tyX3, cf_3, by decide, rfl, Or.inl (mm_tbI 210 (by decide +kernel) rfl)⟩
theorem fl_RX3_40 : mm_FL RX3 40 3 7 := ⟨RX3, TX3, 12, tyX3, cf_3, by decide, rfl, Or.inl (mm_tbI 216 (by decide +kernel) rfl)⟩
theorem fl_RX3_61 : mm_FL RX3 61 7 1 := ⟨RX7, TX7, 6, tyX7, cf_7, by decide, rfl, Or.inr ⟨"WeatherHotel", mm_nwI 174 (by decide +kernel) rfl⟩⟩
theorem fl_RX3_66 : mm_FL RX3 66 2 0 := ⟨RX2, TX2, 7, tyX2, cf_2, by decide, rfl, Or.inr ⟨"WeatherHotel", mm_nwI 126 (by decide +kernel) rfl⟩⟩
theorem fl_RX3_71 : mm_FL RX3 71 7 2 := ⟨RX7, TX7, 6, tyX7, cf_7, by decide, rfl, Or.inr ⟨"WeatherHotel", mm_nwI 178 (by decide +kernel) rfl⟩⟩
theorem fl_RX3_74 : mm_FL RX3 74 7 3 := ⟨RX7, TX7, 6, tyX7, cf_7, by decide, rfl, Or.inr ⟨"WeatherHotel", mm_nwI 181 (by decide +kernel) rfl⟩⟩
theorem fl_RX3_89 : mm_FL RX3 89 3 10 := ⟨RX3, TX3, 12, tyX3, cf_3, by decide, rfl, Or.inl (mm_tbI 220 (by decide +kernel) rfl)⟩
theorem fl_RX3_9 : mm_FL RX3 9 3 0 := ⟨RX3, TX3, 12, tyX3, cf_3, by decide, rfl, Or.inl (mm_tbI 208 (by decide +kernel) rfl)⟩
theorem fl_RX3_92 : mm_FL RX3 92 3 11 := ⟨RX3, TX3, 12, tyX3, cf_3, by decide, rfl, Or.inl (mm_tbI 221 (by decide +kernel) rfl)⟩
theorem fl_RX4_15 : mm_FL RX4 15 4 1 := ⟨RX4, TX4, 2, tyX4, cf_4, by decide, rfl, Or.inl (mm_tbI 254 (by decide +kernel) rfl)⟩
theorem fl_RX4_34 : mm_FL RX4 34 10 4 := ⟨RX10, TX10, 5, tyX10, cf_10, by decide, rfl, Or.inr ⟨"WeatherHotel", mm_nwI 60 (by decide +kernel) rfl⟩⟩
theorem fl_RX4_46 : mm_FL RX4 46 10 3 := ⟨RX10, TX10, 5, tyX10, cf_10, by decide, rfl, Or.inr ⟨"WeatherHotel", mm_nwI 57 (by decide +kernel) rfl⟩⟩
theorem fl_RX4_61 : mm_FL RX4 61 3 2 := ⟨RX3, TX3, 12, tyX3, cf_3, by decide, rfl, Or.inr ⟨"WeatherHotel", mm_nwI 211 (by decide +kernel) rfl⟩⟩
theorem fl_RX4_9 : mm_FL RX4 9 4 0 := ⟨RX4, TX4, 2, tyX4, cf_4, by decide, rfl, Or.inl (mm_tbI 253 (by decide +kernel) rfl)⟩
theorem fl_RX5_11 : mm_FL RX5 11 5 3 := ⟨RX5, TX5, 10, tyX5, cf_5, by decide, rfl, Or.inl (mm_tbI 270 (by decide +kernel) rfl)⟩
theorem fl_RX5_116 : mm_FL RX5 116 2 2 := ⟨RX2, TX2, 7, tyX2, cf_2, by decide, rfl, Or.inr ⟨"WeatherHotel", mm_nwI 132 (by decide +kernel) rfl⟩⟩
theorem fl_RX5_119 : mm_FL RX5 119 2 4 := ⟨RX2, TX2, 7, tyX2, cf_2, by decide, rfl, Or.inr ⟨"WeatherHotel", mm_nwI 139 (by decide +kernel) rfl⟩⟩
theorem fl_RX5_16 : mm_FL RX5 16 5 4 := ⟨RX5, TX5, 10, tyX5, cf_5, by decide, rfl, Or.inl (mm_tbI 272 (by decide +kernel) rfl)⟩
theorem fl_RX5_20 : mm_FL RX5 20 5 5 := ⟨RX5, TX5, 10, tyX5, cf_5, by decide, rfl, Or.inl (mm_tbI 274 (by decide +kernel) rfl)⟩
theorem fl_RX5_23 : mm_FL RX5 23 5 6 := ⟨RX5, TX5, 10, tyX5, cf_5, by decide, rfl, Or.inl (mm_tbI 277 (by decide +kernel) rfl)⟩
theorem fl_RX5_26 : mm_FL RX5 26 5 0 := ⟨RX5, TX5, 10, tyX5, cf_5, by decide, rfl, Or.inl (mm_tbI 267 (by decide +kernel) rfl)⟩
theorem fl_RX5_30 : mm_FL RX5 30 5 1 := ⟨RX5, TX5, 10, tyX5, cf_5, by decide, rfl, Or.inl (mm_tbI 268 (by decide +kernel) rfl)⟩
theorem fl_RX5_34 : mm_FL RX5 34 5 2 := ⟨RX5, TX5, 10, tyX5, cf_5, by decide, rfl, Or.inl (mm_tbI 269 (by decide +kernel) rfl)⟩
theorem fl_RX5_38 : mm_FL RX5 38 5 7 := ⟨RX5, TX5, 10, tyX5, cf_5, by decide, rfl, Or.inl (mm_tbI 279 (by decide +kernel) rfl)⟩
theorem fl_RX5_54 : mm_FL RX5 54 2 0 := ⟨RX2, TX2, 7, tyX2, cf_2, by decide, rfl, Or.inr ⟨"WeatherHotel", mm_nwI 123 (by decide +kernel) rfl⟩⟩
theorem fl_RX5_57 : mm_FL RX5 57 7 1 := ⟨RX7, TX7, 6, tyX7, cf_7, by decide, rfl, Or.inr ⟨"WeatherHotel", mm_nwI 172 (by decide +kernel) rfl⟩⟩
theorem fl_RX5_64 : mm_FL RX5 64 7 4 := ⟨RX7, TX7, 6, tyX7, cf_7, by decide, rfl, Or.inr ⟨"WeatherHotel", mm_nwI 184 (by decide +kernel) rfl⟩⟩
theorem fl_RX5_70 : mm_FL RX5 70 7 2 := ⟨RX7, TX7, 6, tyX7, cf_7, by decide, rfl, Or.inr ⟨"WeatherHotel", mm_nwI 177 (by decide +kernel) rfl⟩⟩
theorem fl_RX5_99 : mm_FL RX5 99 2 5 := ⟨RX2, TX2, 7, tyX2, cf_2, by decide, rfl, Or.inr ⟨"WeatherHotel", mm_nwI 143 (by decide +kernel) rfl⟩⟩
theorem fl_RX6_15 : mm_FL RX6 15 6 5 := ⟨RX6, TX6, 9, tyX6, cf_6, by decide, rfl, Or.inl (mm_tbI 411 (by decide +kernel) rfl)⟩
theorem fl_RX6_18 : mm_FL RX6 18 6 6 := ⟨RX6, TX6, 9, tyX6, cf_6, by decide, rfl, Or.inl (mm_tbI 413 (by decide +kernel) rfl)⟩
theorem fl_RX6_21 : mm_FL RX6 21 6 0 := ⟨RX6, TX6, 9, tyX6, cf_6, by decide, rfl, Or.inl (mm_tbI 405 (by decide +kernel) rfl)⟩
theorem fl_RX6_25 : mm_FL RX6 25 6 1 := ⟨RX6, TX6, 9, tyX6, cf_6, by decide, rfl, Or.inl (mm_tbI 406 (by decide +kernel) rfl)⟩
theorem fl_RX6_29 : mm_FL RX6 29 6 2 := ⟨RX6, TX6, 9, tyX6, cf_6, by decide, rfl, Or.inl (mm_tbI 407 (by decide +kernel) rfl)⟩
theorem fl_RX6_33 : mm_FL RX6 33 6 3 := ⟨RX6, TX6, 9, tyX6, cf_6, by decide, rfl, Or.inl (mm_tbI 408 (by decide +kernel) rfl)⟩
theorem fl_RX6_37 : mm_FL RX6 37 7 0 := ⟨RX7, TX7, 6, tyX7, cf_7, by decide, rfl, Or.inr ⟨"WeatherHotel", mm_nwI 168 (by decide +kernel) rfl⟩⟩
theorem fl_RX6_55 : mm_FL RX6 55 2 0 := ⟨RX2, TX2, 7, tyX2, cf_2, by decide, rfl, Or.inr ⟨"WeatherHotel", mm_nwI 124 (by decide +kernel) rfl⟩⟩
theorem fl_RX6_74 : mm_FL RX6 74 7 1 := ⟨RX7, TX7, 6, tyX7, cf_7, by decide, rfl, Or.inr ⟨"WeatherHotel", mm_nwI 173 (by decide +kernel) rfl⟩⟩
theorem fl_RX6_77 : mm_FL RX6 77 6 7 := ⟨RX6, TX6, 9, tyX6, cf_6, by decide, rfl, Or.inl (mm_tbI 414 (by decide +kernel) rfl)⟩
theorem fl_RX6_80 : mm_FL RX6 80 6 8 := ⟨RX6, TX6, 9, tyX6, cf_6, by decide, rfl, Or.inl (mm_tbI 415 (by decide +kernel) rfl)⟩
theorem fl_RX6_9 : mm_FL RX6 9 6 4 := ⟨RX6, TX6, 9, tyX6, cf_6, by decide, rfl, Or.inl (mm_tbI 409 (by decide +kernel) rfl)⟩
theorem fl_RX6_92 : mm_FL RX6 92 7 4 := ⟨RX7, TX7, 6, tyX7, cf_7, by decide, rfl, Or.inr ⟨"WeatherHotel", mm_nwI 185 (by decide +kernel) rfl⟩⟩
theorem fl_RX7_15 : mm_FL RX7 15 7 2 := ⟨RX7, TX7, 6, tyX7, cf_7, by decide, rfl, Or.inl (mm_tbI 176 (by decide +kernel) rfl)⟩
theorem fl_RX7_18 : mm_FL RX7 18 7 3 := ⟨RX7, TX7, 6, tyX7, cf_7, by decide, rfl, Or.inl (mm_tbI 180 (by decide +kernel) rfl)⟩
theorem fl_RX7_21 : mm_FL RX7 21 7 4 := ⟨RX7, TX7, 6, tyX7, cf_7, by decide, rfl, Or.inl (mm_tbI 183 (by decide +kernel) rfl)⟩
theorem fl_RX7_24 : mm_FL RX7 24 7 5 := ⟨RX7, TX7, 6, tyX7, cf_7, by decide, rfl, Or.inl (mm_tbI 187 (by decide +kernel) rfl)⟩
theorem fl_RX7_28 : mm_FL RX7 28 7 0 := ⟨RX7, TX7, 6, tyX7, cf_7, by decide, rfl, Or.inl (mm_tbI 167 (by decide +kernel) rfl)⟩
theorem fl_RX7_9 : mm_FL RX7 9 7 1 := ⟨RX7, TX7, 6, tyX7, cf_7, by decide, rfl, Or.inl (mm_tbI 171 (by decide +kernel) rfl)⟩
theorem fl_RX8_11 : mm_FL RX8 11 8 4 := ⟨RX8, TX8, 15, tyX8, cf_8, by decide, rfl, Or.inl (mm_tbI 352 (by decide +kernel) rfl)⟩
theorem fl_RX8_125 : mm_FL RX8 125 5 3 := ⟨RX5, TX5, 10, tyX5, cf_5, by decide, rfl, Or.inr ⟨"WeatherHotel", mm_nwI 271 (by decide +kernel) rfl⟩⟩
theorem fl_RX8_128 : mm_FL RX8 128 5 4 := ⟨RX5, TX5, 10, tyX5, cf_5, by decide, rfl, Or.inr ⟨"WeatherHotel", mm_nwI 273 (by decide +kernel) rfl⟩⟩
theorem fl_RX8_16 : mm_FL RX8 16 8 5 := ⟨RX8, TX8, 15, tyX8, cf_8, by decide, rfl, Or.inl (mm_tbI 354 (by decide +kernel) rfl)⟩
theorem fl_RX8_169 : mm_FL RX8 169 5 5 := ⟨RX5, TX5, 10, tyX5, cf_5, by decide, rfl, Or.inr ⟨"WeatherHotel", mm_nwI 275 (by decide +kernel) rfl⟩⟩
theorem fl_RX8_175 : mm_FL RX8 175 5 6 := ⟨RX5, TX5, 10, tyX5, cf_5, by decide, rfl, Or.inr ⟨"WeatherHotel", mm_nwI 278 (by decide +kernel) rfl⟩⟩
theorem fl_RX8_20 : mm_FL RX8 20 8 8 := ⟨RX8, TX8, 15, tyX8, cf_8, by decide, rfl, Or.inl (mm_tbI 360 (by decide +kernel) rfl)⟩
theorem fl_RX8_23 : mm_FL RX8 23 8 9 := ⟨RX8, TX8, 15, tyX8, cf_8, by decide, rfl, Or.inl (mm_tbI 361 (by decide +kernel) rfl)⟩
theorem fl_RX8_26 : mm_FL RX8 26 8 10 := ⟨RX8, TX8, 15, tyX8, cf_8, by decide, rfl, Or.inl (mm_tbI 362 (by decide +kernel) rfl)⟩
theorem fl_RX8_29 : mm_FL RX8 29 8 11 := ⟨RX8, TX8, 15, tyX8, cf_8, by decide, rfl, Or.inl (mm_tbI 363 (by decide +kernel) rfl)⟩
theorem fl_RX8_32 : mm_FL RX8 32 8 12 := ⟨RX8, TX8, 15, tyX8, cf_8, by decide, rfl, Or.inl (mm_tbI 364 (by decide +kernel) rfl)⟩
theorem fl_RX8_35 : mm_FL RX8 35 8 13 := ⟨RX8, TX8, 15, tyX8, cf_8, by decide, rfl, Or.inl (mm_tbI 365 (by decide +kernel) rfl)⟩
theorem fl_RX8_38 : mm_FL RX8 38 8 14 := ⟨RX8, TX8, 15, tyX8, cf_8, by decide, rfl, Or.inl (mm_tbI 367 (by decide +kernel) rfl)⟩
theorem fl_RX8_41 : mm_FL RX8 41 8 0 := ⟨RX8, TX8, 15, tyX8, cf_8, by decide, rfl, Or.inl (mm_tbI 348 (by decide +kernel) rfl)⟩
theorem fl_RX8_45 : mm_FL RX8 45 8 1 := ⟨RX8, TX8, 15, tyX8, cf_8, by decide, rfl, Or.inl (mm_tbI 349 (by decide +kernel) rfl)⟩
theorem fl_RX8_49 : mm_FL RX8 49 8 2 := ⟨RX8, TX8, 15, tyX8, cf_8, by decide, rfl, Or.inl (mm_tbI 350 (by decide +kernel) rfl)⟩
theorem fl_RX8_53 : mm_FL RX8 53 8 3 := ⟨RX8, TX8, 15, tyX8, cf_8, by decide, rfl, Or.inl (mm_tbI 351 (by decide +kernel) rfl)⟩
theorem fl_RX8_62 : mm_FL RX8 62 8 6 := ⟨RX8, TX8, 15, tyX8, cf_8, by decide, rfl, Or.inl (mm_tbI 356 (by decide +kernel) rfl)⟩
theorem fl_RX8_66 : mm_FL RX8 66 2 5 := ⟨RX2, TX2, 7, tyX2, cf_2, by decide, rfl, Or.inr ⟨"WeatherHotel", mm_nwI 141 (by decide +kernel) rfl⟩⟩
theorem fl_RX8_71 : mm_FL RX8 71 8 7 := ⟨RX8, TX8, 15, tyX8, cf_8, by decide, rfl, Or.inl (mm_tbI 358 (by decide +kernel) rfl)⟩
theorem fl_RX8_86 : mm_FL RX8 86 2 2 := ⟨RX2, TX2, 7, tyX2, cf_2, by decide, rfl, Or.inr ⟨"WeatherHotel", mm_nwI 129 (by decide +kernel) rfl⟩⟩
theorem fl_RX8_95 : mm_FL RX8 95 2 4 := ⟨RX2, TX2, 7, tyX2, cf_2, by decide, rfl, Or.inr ⟨"WeatherHotel", mm_nwI 137 (by decide +kernel) rfl⟩⟩
theorem fl_RX9_15 : mm_FL RX9 15 9 1 := ⟨RX9, TX9, 2, tyX9, cf_9, by decide, rfl, Or.inl (mm_tbI 39 (by decide +kernel) rfl)⟩
theorem fl_RX9_9 : mm_FL RX9 9 9 0 := ⟨RX9, TX9, 2, tyX9, cf_9, by decide, rfl, Or.inl (mm_tbI 37 (by decide +kernel) rfl)⟩
theorem fp_RX0_110 : mm_FP RX0 110 0 6 .long := ⟨RX0, TX0, 8, tyX0, cf_0, by decide, rfl, Or.inl (mm_tbI 320 (by decide +kernel) rfl), rfl, rfl⟩
theorem fp_RX0_114 : mm_FP RX0 114 0 7 .long := ⟨RX0, TX0, 8, tyX0, cf_0, by decide, rfl, Or.inl (mm_tbI 322 (by decide +kernel) rfl), rfl, rfl⟩
theorem fp_RX0_63 : mm_FP RX0 63 0 3 .int := ⟨RX0, TX0, 8, tyX0, cf_0, by decide, rfl, Or.inl (mm_tbI 314 (by decide +kernel) rfl), rfl, rfl⟩
theorem fp_RX0_66 : mm_FP RX0 66 0 4 .int := ⟨RX0, TX0, 8, tyX0, cf_0, by decide, rfl, Or.inl (mm_tbI 316 (by decide +kernel) rfl), rfl, rfl⟩
theorem fp_RX10_27 : mm_FP RX10 27 10 1 .int := ⟨RX10, TX10, 5, tyX10, cf_10, by decide, rfl, Or.inl (mm_tbI 54 (by decide +kernel) rfl), rfl, rfl⟩
theorem fp_RX10_28 : mm_FP RX10 28 10 2 .int := ⟨RX10, TX10, 5, tyX10, cf_10, by decide, rfl, Or.inl (mm_tbI 55 (by decide +kernel) rfl), rfl, rfl⟩
theorem fp_RX10_31 : mm_FP RX10 31 10 4 .int := ⟨RX10, TX10, 5, tyX10, cf_10, by decide, rfl, Or.inl (mm_tbI 59 (by decide +kernel) rfl), rfl, rfl⟩
theorem fp_RX10_41 : mm_FP RX10 41 10 3 .int := ⟨RX10, TX10, 5, tyX10, cf_10, by decide, rfl, Or.inl (mm_tbI 58 (by decide +kernel) rfl), rfl, rfl⟩
theorem fp_RX11_127 : mm_FP RX11 127 2 1 .int := ⟨RX2, TX2, 7, tyX2, cf_2, by decide, rfl, Or.inr ⟨"WeatherHotel", mm_nwI 127 (by decide +kernel) rfl⟩, rfl, rfl⟩
theorem fp_RX11_147 : mm_FP RX11 147 2 5 .int := ⟨RX2, TX2, 7, tyX2, cf_2, by decide, rfl, Or.inr ⟨"WeatherHotel", mm_nwI 142 (by decide +kernel) rfl⟩, rfl, rfl⟩
theorem fp_RX11_150 : mm_FP RX11 150 2 6 .int := ⟨RX2, TX2, 7, tyX2, cf_2, by decide, rfl, Or.inr ⟨"WeatherHotel", mm_nwI 145 (by decide +kernel) rfl⟩, rfl, rfl⟩
theorem fp_RX11_164 : mm_FP RX11 164 7 0 .int := ⟨RX7, TX7, 6, tyX7, cf_7, by decide, rfl, Or.inr ⟨"WeatherHotel", mm_nwI 170 (by decide +kernel) rfl⟩, rfl, rfl⟩
theorem fp_RX11_306 : mm_FP RX11 306 7 5 .int := ⟨RX7, TX7, 6, tyX7, cf_7, by decide, rfl, Or.inr ⟨"WeatherHotel", mm_nwI 188 (by decide +kernel) rfl⟩, rfl, rfl⟩
theorem fp_RX11_315 : mm_FP RX11 315 11 5 .boolean := ⟨RX11, TX11, 13, tyX11, cf_11, by decide, rfl, Or.inl (mm_tbI 441 (by decide +kernel) rfl), rfl, rfl⟩
theorem fp_RX12_137 : mm_FP RX12 137 12 13 .int := ⟨RX12, TX12, 68, tyX12, cf_12, by decide, rfl, Or.inl (mm_tbI 1208 (by decide +kernel) rfl), rfl, rfl⟩
theorem fp_RX12_141 : mm_FP RX12 141 12 10 .int := ⟨RX12, TX12, 68, tyX12, cf_12, by decide, rfl, Or.inl (mm_tbI 1205 (by decide +kernel) rfl), rfl, rfl⟩
theorem fp_RX12_144 : mm_FP RX12 144 12 1 .int := ⟨RX12, TX12, 68, tyX12, cf_12, by decide, rfl, Or.inl (mm_tbI 1196 (by decide +kernel) rfl), rfl, rfl⟩
theorem fp_RX12_151 : mm_FP RX12 151 12 2 .int := ⟨RX12, TX12, 68, tyX12, cf_12, by decide, rfl, Or.inl (mm_tbI 1197 (by decide +kernel) rfl), rfl, rfl⟩
theorem fp_RX12_154 : mm_FP RX12 154 12 5 .int := ⟨RX12, TX12, 68, tyX12, cf_12, by decide, rfl, Or.inl (mm_tbI 1200 (by decide +kernel) rfl), rfl, rfl⟩
theorem fp_RX12_187 : mm_FP RX12 187 12 3 .int := ⟨RX12, TX12, 68, tyX12, cf_12, by decide, rfl, Or.inl (mm_tbI 1198 (by decide +kernel) rfl), rfl, rfl⟩
theorem fp_RX12_193 : mm_FP RX12 193 12 4 .int := ⟨RX12, TX12, 68, tyX12, cf_12, by decide, rfl, Or.inl (mm_tbI 1199 (by decide +kernel) rfl), rfl, rfl⟩
theorem fp_RX12_196 : mm_FP RX12 196 12 6 .int := ⟨RX12, TX12, 68, tyX12, cf_12, by decide, rfl, Or.inl (mm_tbI 1201 (by decide +kernel) rfl), rfl, rfl⟩
theorem fp_RX12_211 : mm_FP RX12 211 12 9 .int := ⟨RX12, TX12, 68, tyX12, cf_12, by decide, rfl, Or.inl (mm_tbI 1204 (by decide +kernel) rfl), rfl, rfl⟩
theorem fp_RX12_214 : mm_FP RX12 214 12 11 .int := ⟨RX12, TX12, 68, tyX12, cf_12, by decide, rfl, Or.inl (mm_tbI 1206 (by decide +kernel) rfl), rfl, rfl⟩
theorem fp_RX12_217 : mm_FP RX12 217 12 12 .int := ⟨RX12, TX12, 68, tyX12, cf_12, by decide, rfl, Or.inl (mm_tbI 1207 (by decide +kernel) rfl), rfl, rfl⟩
theorem fp_RX12_237 : mm_FP RX12 237 12 23 .int := ⟨RX12, TX12, 68, tyX12, cf_12, by decide, rfl, Or.inl (mm_tbI 1218 (by decide +kernel) rfl), rfl, rfl⟩
theorem fp_RX12_241 : mm_FP RX12 241 12 22 .int := ⟨RX12, TX12, 68, tyX12, cf_12, by decide, rfl, Or.inl (mm_tbI 1217 (by decide +kernel) rfl), rfl, rfl⟩
theorem fp_RX12_244 : mm_FP RX12 244 12 24 .int := ⟨RX12, TX12, 68, tyX12, cf_12, by decide, rfl, Or.inl (mm_tbI 1219 (by decide +kernel) rfl), rfl, rfl⟩
theorem fp_RX12_291 : mm_FP RX12 291 12 25 .int := ⟨RX12, TX12, 68, tyX12, cf_12, by decide, rfl, Or.inl (mm_tbI 1220 (by decide +kernel) rfl), rfl, rfl⟩
theorem fp_RX12_300 : mm_FP RX12 300 12 26 .int := ⟨RX12, TX12, 68, tyX12, cf_12, by decide, rfl, Or.inl (mm_tbI 1221 (by decide +kernel) rfl), rfl, rfl⟩
theorem fp_RX12_316 : mm_FP RX12 316 12 46 .int := ⟨RX12, TX12, 68, tyX12, cf_12, by decide, rfl, Or.inl (mm_tbI 1241 (by decide +kernel) rfl), rfl, rfl⟩
theorem fp_RX12_322 : mm_FP RX12 322 12 49 .int := ⟨RX12, TX12, 68, tyX12, cf_12, by decide, rfl, Or.inl (mm_tbI 1244 (by decide +kernel) rfl), rfl, rfl⟩
theorem fp_RX12_325 : mm_FP RX12 325 12 48 .int := ⟨RX12, TX12, 68, tyX12, cf_12, by decide, rfl, Or.inl (mm_tbI 1243 (by decide +kernel) rfl), rfl, rfl⟩
theorem fp_RX12_328 : mm_FP RX12 328 12 47 .int := ⟨RX12, TX12, 68, tyX12, cf_12, by decide, rfl, Or.inl (mm_tbI 1242 (by decide +kernel) rfl), rfl, rfl⟩
theorem fp_RX12_350 : mm_FP RX12 350 12 50 .int := ⟨RX12, TX12, 68, tyX12, cf_12, by decide, rfl, Or.inl (mm_tbI 1245 (by decide +kernel) rfl), rfl, rfl⟩
theorem fp_RX12_357 : mm_FP RX12 357 12 51 .int := ⟨RX12, TX12, 68, tyX12, cf_12, by decide, rfl, Or.inl (mm_tbI 1246 (by decide +kernel) rfl), rfl, rfl⟩
theorem fp_RX12_381 : mm_FP RX12 381 12 57 .int := ⟨RX12, TX12, 68, tyX12, cf_12, by decide, rfl, Or.inl (mm_tbI 1252 (by decide +kernel) rfl), rfl, rfl⟩
theorem fp_RX12_438 : mm_FP RX12 438 12 61 .boolean := ⟨RX12, TX12, 68, tyX12, cf_12, by decide, rfl, Or.inl (mm_tbI 1256 (by decide +kernel) rfl), rfl, rfl⟩
theorem fp_RX12_442 : mm_FP RX12 442 12 62 .int := ⟨RX12, TX12, 68, tyX12, cf_12, by decide, rfl, Or.inl (mm_tbI 1257 (by decide +kernel) rfl), rfl, rfl⟩
theorem fp_RX12_445 : mm_FP RX12 445 12 63 .int := ⟨RX12, TX12, 68, tyX12, cf_12, by decide, rfl, Or.inl (mm_tbI 1258 (by decide +kernel) rfl), rfl, rfl⟩
theorem fp_RX1_114 : mm_FP RX1 114 1 7 .int := ⟨RX1, TX1, 9, tyX1, cf_1, by decide, rfl, Or.inl (mm_tbI 90 (by decide +kernel) rfl), rfl, rfl⟩
theorem fp_RX1_117 : mm_FP RX1 117 1 8 .int := ⟨RX1, TX1, 9, tyX1, cf_1, by decide, rfl, Or.inl (mm_tbI 92 (by decide +kernel) rfl), rfl, rfl⟩
theorem fp_RX1_33 : mm_FP RX1 33 1 3 .int := ⟨RX1, TX1, 9, tyX1, cf_1, by decide, rfl, Or.inl (mm_tbI 84 (by decide +kernel) rfl), rfl, rfl⟩
theorem fp_RX3_36 : mm_FP RX3 36 3 2 .int := ⟨RX3, TX3, 12, tyX3, cf_3, by decide, rfl, Or.inl (mm_tbI 210 (by decide +kernel) rfl), rfl, rfl⟩
theorem fp_RX3_40 : mm_FP RX3 40 3 7 .int := ⟨RX3, TX3, 12, tyX3, cf_3, by decide, rfl, Or.inl (mm_tbI 216 (by decide +kernel) rfl), rfl, rfl⟩
theorem fp_RX3_89 : mm_FP RX3 89 3 10 .int := ⟨RX3, TX3, 12, tyX3, cf_3, by decide, rfl, Or.inl (mm_tbI 220 (by decide +kernel) rfl), rfl, rfl⟩
theorem fp_RX3_92 : mm_FP RX3 92 3 11 .boolean := ⟨RX3, TX3, 12, tyX3, cf_3, by decide, rfl, Or.inl (mm_tbI 221 (by decide +kernel) rfl), rfl, rfl⟩
theorem fp_RX5_110 : mm_FP RX5 110 5 8 .int := ⟨RX5, TX5, 10, tyX5, cf_5, by decide, rfl, Or.inl (mm_tbI 280 (by decide +kernel) rfl), rfl, rfl⟩
theorem fp_RX5_113 : mm_FP RX5 113 5 9 .int := ⟨RX5, TX5, 10, tyX5, cf_5, by decide, rfl, Or.inl (mm_tbI 282 (by decide +kernel) rfl), rfl, rfl⟩
theorem fp_RX5_38 : mm_FP RX5 38 5 7 .int := ⟨RX5, TX5, 10, tyX5, cf_5, by decide, rfl, Or.inl (mm_tbI 279 (by decide +kernel) rfl), rfl, rfl⟩
theorem fp_RX6_33 : mm_FP RX6 33 6 3 .int := ⟨RX6, TX6, 9, tyX6, cf_6, by decide, rfl, Or.inl (mm_tbI 408 (by decide +kernel) rfl), rfl, rfl⟩
theorem fp_RX6_77 : mm_FP RX6 77 6 7 .int := ⟨RX6, TX6, 9, tyX6, cf_6, by decide, rfl, Or.inl (mm_tbI 414 (by decide +kernel) rfl), rfl, rfl⟩
theorem fp_RX6_80 : mm_FP RX6 80 6 8 .int := ⟨RX6, TX6, 9, tyX6, cf_6, by decide, rfl, Or.inl (mm_tbI 415 (by decide +kernel) rfl), rfl, rfl⟩
theorem fp_RX7_24 : mm_FP RX7 24 7 5 .int := ⟨RX7, TX7, 6, tyX7, cf_7, by decide, rfl, Or.inl (mm_tbI 187 (by decide +kernel) rfl), rfl, rfl⟩
theorem fp_RX7_28 : mm_FP RX7 28 7 0 .int := ⟨RX7, TX7, 6, tyX7, cf_7, by decide, rfl, Or.inl (mm_tbI 167 (by decide +kernel) rfl), rfl, rfl⟩
theorem fp_RX8_62 : mm_FP RX8 62 8 6 .int := ⟨RX8, TX8, 15, tyX8, cf_8, by decide, rfl, Or.inl (mm_tbI 356 (by decide +kernel) rfl), rfl, rfl⟩
theorem fp_RX8_71 : mm_FP RX8 71 8 7 .int := ⟨RX8, TX8, 15, tyX8, cf_8, by decide, rfl, Or.inl (mm_tbI 358 (by decide +kernel) rfl), rfl, rfl⟩
theorem fp_RX9_15 : mm_FP RX9 15 9 1 .int := ⟨RX9, TX9, 2, tyX9, cf_9, by decide, rfl, Or.inl (mm_tbI 39 (by decide +kernel) rfl), rfl, rfl⟩
theorem lk_RJ0_335 : Cond.methodLink RJ0 335 yJ0_coder_7d493 ∈ mm_tb := mm_tbI 546 (by decide +kernel) rfl
theorem lk_RJ0_492 : Cond.methodLink RJ0 492 yJ0_isLatin1_aae02 ∈ mm_tb := mm_tbI 536 (by decide +kernel) rfl
theorem lk_RJ0_505 : Cond.methodLink RJ0 505 yJ0_length_8abf5 ∈ mm_tb := mm_tbI 542 (by decide +kernel) rfl
theorem lk_RJ0_633 : Cond.methodLink RJ0 633 yJ0_indexOf_7cf53 ∈ mm_tb := mm_tbI 532 (by decide +kernel) rfl
theorem lk_RJ0_637 : Cond.methodLink RJ0 637 yJ1_indexOf_4cfef ∈ mm_tb := mm_tbI 550 (by decide +kernel) rfl
theorem lk_RJ1_38 : Cond.methodLink RJ1 38 yJ9_min_7cf53 ∈ mm_tb := mm_tbI 559 (by decide +kernel) rfl
theorem lk_RJ1_88 : Cond.methodLink RJ1 88 yJ1_canEncode_9a6ad ∈ mm_tb := mm_tbI 553 (by decide +kernel) rfl
theorem lk_RJ1_92 : Cond.methodLink RJ1 92 yJ9_max_7cf53 ∈ mm_tb := mm_tbI 556 (by decide +kernel) rfl
theorem lk_RJ1_95 : Cond.methodLink RJ1 95 yJ1_indexOfChar_4cfef ∈ mm_tb := mm_tbI 560 (by decide +kernel) rfl
theorem lk_RX0_100 : Cond.methodLink RX0 100 yX0_plantCostOf ∈ mm_tb := mm_tbI 1065 (by decide +kernel) rfl
theorem lk_RX0_103 : Cond.methodLinkNest RX0 103 yX11_isIn "WeatherHotel" ∈ mm_nw := mm_nwI 1069 (by decide +kernel) rfl
theorem lk_RX0_106 : Cond.methodLink RX0 106 yX0_reduce ∈ mm_tb := mm_tbI 1070 (by decide +kernel) rfl
theorem lk_RX0_27 : Cond.methodLinkNest RX0 27 yX11_isPart "WeatherHotel" ∈ mm_nw := mm_nwI 938 (by decide +kernel) rfl
theorem lk_RX0_31 : Cond.methodLink RX0 31 yX7_pricesOf ∈ mm_tb := mm_tbI 939 (by decide +kernel) rfl
theorem lk_RX0_37 : Cond.methodLink RX0 37 yX0_isBetter ∈ mm_tb := mm_tbI 943 (by decide +kernel) rfl
theorem lk_RX0_41 : Cond.methodLink RX0 41 yX0_fits ∈ mm_tb := mm_tbI 947 (by decide +kernel) rfl
theorem lk_RX0_45 : Cond.methodLink RX0 45 yJ6_bitCount_0f7a4 ∈ mm_tb := mm_tbI 946 (by decide +kernel) rfl
theorem lk_RX0_50 : Cond.methodLink RX0 50 yX5_turnTo ∈ mm_tb := mm_tbI 951 (by decide +kernel) rfl
theorem lk_RX0_56 : Cond.methodLink RX0 56 yX5_fits ∈ mm_tb := mm_tbI 952 (by decide +kernel) rfl
theorem lk_RX0_69 : Cond.methodLink RX0 69 yX0_tryLarger ∈ mm_tb := mm_tbI 1035 (by decide +kernel) rfl
theorem lk_RX0_73 : Cond.methodLink RX0 73 yX0_moreOf ∈ mm_tb := mm_tbI 1039 (by decide +kernel) rfl
theorem lk_RX0_81 : Cond.methodLink RX0 81 yX5_fitsButForPlant ∈ mm_tb := mm_tbI 1049 (by decide +kernel) rfl
theorem lk_RX0_84 : Cond.methodLink RX0 84 yX5_peakOf ∈ mm_tb := mm_tbI 1043 (by decide +kernel) rfl
theorem lk_RX0_90 : Cond.methodLink RX0 90 yJ9_max_7cf53 ∈ mm_tb := mm_tbI 1048 (by decide +kernel) rfl
theorem lk_RX0_96 : Cond.methodLink RX0 96 yX0_factorial ∈ mm_tb := mm_tbI 1062 (by decide +kernel) rfl
theorem lk_RX10_21 : Cond.methodLink RX10 21 yJ9_min_7cf53 ∈ mm_tb := mm_tbI 507 (by decide +kernel) rfl
theorem lk_RX10_34 : Cond.methodLink RX10 34 yX10_step ∈ mm_tb := mm_tbI 510 (by decide +kernel) rfl
theorem lk_RX10_44 : Cond.methodLink RX10 44 yX10_failHere ∈ mm_tb := mm_tbI 625 (by decide +kernel) rfl
theorem lk_RX10_48 : Cond.methodLink RX10 48 yX10_atEnd ∈ mm_tb := mm_tbI 524 (by decide +kernel) rfl
theorem lk_RX10_52 : Cond.methodLink RX10 52 yJ0_indexOf_0f7a4 ∈ mm_tb := mm_tbI 528 (by decide +kernel) rfl
theorem lk_RX10_58 : Cond.methodLink RX10 58 yX10_atDigit ∈ mm_tb := mm_tbI 621 (by decide +kernel) rfl
theorem lk_RX11_100 : Cond.methodLink RX11 100 yX9_size ∈ mm_tb := mm_tbI 480 (by decide +kernel) rfl
theorem lk_RX11_104 : Cond.methodLink RX11 104 yX9_append ∈ mm_tb := mm_tbI 484 (by decide +kernel) rfl
theorem lk_RX11_108 : Cond.methodLink RX11 108 yX11_isBelow ∈ mm_tb := mm_tbI 492 (by decide +kernel) rfl
theorem lk_RX11_112 : Cond.methodLink RX11 112 yX1_tell ∈ mm_tb := mm_tbI 495 (by decide +kernel) rfl
theorem lk_RX11_116 : Cond.methodLink RX11 116 yX9_clear ∈ mm_tb := mm_tbI 643 (by decide +kernel) rfl
theorem lk_RX11_119 : Cond.methodLink RX11 119 yX1_isTold ∈ mm_tb := mm_tbI 652 (by decide +kernel) rfl
theorem lk_RX11_123 : Cond.methodLink RX11 123 yX1_rowOf ∈ mm_tb := mm_tbI 659 (by decide +kernel) rfl
theorem lk_RX11_135 : Cond.methodLink RX11 135 yX11_isUpTo ∈ mm_tb := mm_tbI 671 (by decide +kernel) rfl
theorem lk_RX11_153 : Cond.methodLink RX11 153 yX7_holderOf ∈ mm_tb := mm_tbI 686 (by decide +kernel) rfl
theorem lk_RX11_157 : Cond.methodLink RX11 157 yX7_write ∈ mm_tb := mm_tbI 695 (by decide +kernel) rfl
theorem lk_RX11_161 : Cond.methodLink RX11 161 yX7_has ∈ mm_tb := mm_tbI 703 (by decide +kernel) rfl
theorem lk_RX11_170 : Cond.methodLink RX11 170 yX4_read ∈ mm_tb := mm_tbI 712 (by decide +kernel) rfl
theorem lk_RX11_173 : Cond.methodLink RX11 173 yX3_copyFrom ∈ mm_tb := mm_tbI 788 (by decide +kernel) rfl
theorem lk_RX11_177 : Cond.methodLink RX11 177 yX5_begin ∈ mm_tb := mm_tbI 797 (by decide +kernel) rfl
theorem lk_RX11_180 : Cond.methodLink RX11 180 yX5_turnTo ∈ mm_tb := mm_tbI 815 (by decide +kernel) rfl
theorem lk_RX11_186 : Cond.methodLink RX11 186 yX8_serveAll ∈ mm_tb := mm_tbI 828 (by decide +kernel) rfl
theorem lk_RX11_200 : Cond.methodLink RX11 200 yX8_missedOfAll ∈ mm_tb := mm_tbI 896 (by decide +kernel) rfl
theorem lk_RX11_203 : Cond.methodLink RX11 203 yX11_areStays ∈ mm_tb := mm_tbI 904 (by decide +kernel) rfl
theorem lk_RX11_206 : Cond.methodLink RX11 206 yX5_fits ∈ mm_tb := mm_tbI 917 (by decide +kernel) rfl
theorem lk_RX11_216 : Cond.methodLink RX11 216 yX0_bestOf ∈ mm_tb := mm_tbI 934 (by decide +kernel) rfl
theorem lk_RX11_219 : Cond.methodLink RX11 219 yX7_pricesOf ∈ mm_tb := mm_tbI 953 (by decide +kernel) rfl
theorem lk_RX11_222 : Cond.methodLink RX11 222 yX0_smallestMisfit ∈ mm_tb := mm_tbI 958 (by decide +kernel) rfl
theorem lk_RX11_226 : Cond.methodLink RX11 226 yJ6_bitCount_0f7a4 ∈ mm_tb := mm_tbI 911 (by decide +kernel) rfl
theorem lk_RX11_231 : Cond.methodLink RX11 231 yX11_isIn ∈ mm_tb := mm_tbI 971 (by decide +kernel) rfl
theorem lk_RX11_234 : Cond.methodLink RX11 234 yX11_roomsOnTape ∈ mm_tb := mm_tbI 972 (by decide +kernel) rfl
theorem lk_RX11_237 : Cond.methodLink RX11 237 yX6_findRooms ∈ mm_tb := mm_tbI 981 (by decide +kernel) rfl
theorem lk_RX11_243 : Cond.methodLink RX11 243 yX6_moveIn ∈ mm_tb := mm_tbI 1002 (by decide +kernel) rfl
theorem lk_RX11_246 : Cond.methodLink RX11 246 yX6_findShifts ∈ mm_tb := mm_tbI 1010 (by decide +kernel) rfl
theorem lk_RX11_249 : Cond.methodLink RX11 249 yX6_shiftAll ∈ mm_tb := mm_tbI 1023 (by decide +kernel) rfl
theorem lk_RX11_258 : Cond.methodLink RX11 258 yX0_chooseLarger ∈ mm_tb := mm_tbI 1031 (by decide +kernel) rfl
theorem lk_RX11_272 : Cond.methodLink RX11 272 yX0_shareOut ∈ mm_tb := mm_tbI 1058 (by decide +kernel) rfl
theorem lk_RX11_283 : Cond.methodLink RX11 283 yX8_orderForDrought ∈ mm_tb := mm_tbI 1078 (by decide +kernel) rfl
theorem lk_RX11_289 : Cond.methodLink RX11 289 yX8_droughtStayAt ∈ mm_tb := mm_tbI 1107 (by decide +kernel) rfl
theorem lk_RX11_292 : Cond.methodLink RX11 292 yX1_readMeter ∈ mm_tb := mm_tbI 1115 (by decide +kernel) rfl
theorem lk_RX11_309 : Cond.methodLink RX11 309 yX11_drawOne ∈ mm_tb := mm_tbI 1154 (by decide +kernel) rfl
theorem lk_RX11_312 : Cond.methodLink RX11 312 yX7_copyFrom ∈ mm_tb := mm_tbI 1163 (by decide +kernel) rfl
theorem lk_RX11_319 : Cond.methodLink RX11 319 yX9_numberAt ∈ mm_tb := mm_tbI 1176 (by decide +kernel) rfl
theorem lk_RX11_328 : Cond.methodLink RX11 328 yX11_countOfOne ∈ mm_tb := mm_tbI 1185 (by decide +kernel) rfl
theorem lk_RX11_341 : Cond.methodLink RX11 341 yX9_byteAt ∈ mm_tb := mm_tbI 976 (by decide +kernel) rfl
theorem lk_RX11_344 : Cond.methodLink RX11 344 yX11_isPart ∈ mm_tb := mm_tbI 908 (by decide +kernel) rfl
theorem lk_RX12_147 : Cond.methodLink RX12 147 yX12_types ∈ mm_tb := mm_tbI 1404 (by decide +kernel) rfl
theorem lk_RX12_157 : Cond.methodLink RX12 157 yX12_isDigit ∈ mm_tb := mm_tbI 1431 (by decide +kernel) rfl
theorem lk_RX12_161 : Cond.methodLink RX12 161 yX12_wrongAt ∈ mm_tb := mm_tbI 1423 (by decide +kernel) rfl
theorem lk_RX12_165 : Cond.methodLink RX12 165 yX12_here ∈ mm_tb := mm_tbI 1419 (by decide +kernel) rfl
theorem lk_RX12_169 : Cond.methodLink RX12 169 yX12_in ∈ mm_tb := mm_tbI 1412 (by decide +kernel) rfl
theorem lk_RX12_173 : Cond.methodLink RX12 173 yX12_readsTwo ∈ mm_tb := mm_tbI 1427 (by decide +kernel) rfl
theorem lk_RX12_176 : Cond.methodLink RX12 176 yX12_takes ∈ mm_tb := mm_tbI 1435 (by decide +kernel) rfl
theorem lk_RX12_180 : Cond.methodLink RX12 180 yX12_readsHour ∈ mm_tb := mm_tbI 1439 (by decide +kernel) rfl
theorem lk_RX12_183 : Cond.methodLink RX12 183 yX12_min ∈ mm_tb := mm_tbI 1443 (by decide +kernel) rfl
theorem lk_RX12_190 : Cond.methodLink RX12 190 yX12_readsPart ∈ mm_tb := mm_tbI 1415 (by decide +kernel) rfl
theorem lk_RX12_199 : Cond.methodLink RX12 199 yX12_has ∈ mm_tb := mm_tbI 1454 (by decide +kernel) rfl
theorem lk_RX12_202 : Cond.methodLink RX12 202 yX12_isDay ∈ mm_tb := mm_tbI 1450 (by decide +kernel) rfl
theorem lk_RX12_205 : Cond.methodLink RX12 205 yX12_isKind ∈ mm_tb := mm_tbI 1457 (by decide +kernel) rfl
theorem lk_RX12_208 : Cond.methodLink RX12 208 yX12_isHour ∈ mm_tb := mm_tbI 1460 (by decide +kernel) rfl
theorem lk_RX12_220 : Cond.methodLink RX12 220 yX12_isStay ∈ mm_tb := mm_tbI 1491 (by decide +kernel) rfl
theorem lk_RX12_223 : Cond.methodLink RX12 223 yX12_isRoom ∈ mm_tb := mm_tbI 1483 (by decide +kernel) rfl
theorem lk_RX12_226 : Cond.methodLink RX12 226 yX12_stayIn ∈ mm_tb := mm_tbI 1487 (by decide +kernel) rfl
theorem lk_RX12_230 : Cond.methodLink RX12 230 yX12_wantOf ∈ mm_tb := mm_tbI 1511 (by decide +kernel) rfl
theorem lk_RX12_234 : Cond.methodLink RX12 234 yX12_wantAll ∈ mm_tb := mm_tbI 1507 (by decide +kernel) rfl
theorem lk_RX12_247 : Cond.methodLink RX12 247 yX12_top ∈ mm_tb := mm_tbI 1554 (by decide +kernel) rfl
theorem lk_RX12_250 : Cond.methodLink RX12 250 yX12_notes ∈ mm_tb := mm_tbI 1540 (by decide +kernel) rfl
theorem lk_RX12_254 : Cond.methodLink RX12 254 yX12_opens ∈ mm_tb := mm_tbI 1531 (by decide +kernel) rfl
theorem lk_RX12_257 : Cond.methodLink RX12 257 yX12_readsNumber ∈ mm_tb := mm_tbI 1536 (by decide +kernel) rfl
theorem lk_RX12_260 : Cond.methodLink RX12 260 yX12_factOf ∈ mm_tb := mm_tbI 1544 (by decide +kernel) rfl
theorem lk_RX12_263 : Cond.methodLink RX12 263 yX12_readsFactor ∈ mm_tb := mm_tbI 1527 (by decide +kernel) rfl
theorem lk_RX12_266 : Cond.methodLink RX12 266 yX12_sumSign ∈ mm_tb := mm_tbI 1547 (by decide +kernel) rfl
theorem lk_RX12_269 : Cond.methodLink RX12 269 yX12_closesSums ∈ mm_tb := mm_tbI 1550 (by decide +kernel) rfl
theorem lk_RX12_273 : Cond.methodLink RX12 273 yX12_hasOpenSum ∈ mm_tb := mm_tbI 1558 (by decide +kernel) rfl
theorem lk_RX12_276 : Cond.methodLink RX12 276 yX12_readsSum ∈ mm_tb := mm_tbI 1523 (by decide +kernel) rfl
theorem lk_RX12_279 : Cond.methodLink RX12 279 yX12_endsPiece ∈ mm_tb := mm_tbI 1570 (by decide +kernel) rfl
theorem lk_RX12_282 : Cond.methodLink RX12 282 yX12_readsCompared ∈ mm_tb := mm_tbI 1566 (by decide +kernel) rfl
theorem lk_RX12_285 : Cond.methodLink RX12 285 yX12_lands ∈ mm_tb := mm_tbI 1574 (by decide +kernel) rfl
theorem lk_RX12_288 : Cond.methodLink RX12 288 yX12_jumps ∈ mm_tb := mm_tbI 1578 (by decide +kernel) rfl
theorem lk_RX12_294 : Cond.methodLink RX12 294 yX12_readsCondition ∈ mm_tb := mm_tbI 1562 (by decide +kernel) rfl
theorem lk_RX12_297 : Cond.methodLink RX12 297 yX12_readsClause ∈ mm_tb := mm_tbI 1519 (by decide +kernel) rfl
theorem lk_RX12_303 : Cond.methodLink RX12 303 yX12_reckon ∈ mm_tb := mm_tbI 1614 (by decide +kernel) rfl
theorem lk_RX12_306 : Cond.methodLink RX12 306 yX12_comesTo ∈ mm_tb := mm_tbI 1610 (by decide +kernel) rfl
theorem lk_RX12_309 : Cond.methodLink RX12 309 yX12_feels ∈ mm_tb := mm_tbI 1602 (by decide +kernel) rfl
theorem lk_RX12_313 : Cond.methodLink RX12 313 yX12_byLaw ∈ mm_tb := mm_tbI 1606 (by decide +kernel) rfl
theorem lk_RX12_319 : Cond.methodLink RX12 319 yX12_soonOf ∈ mm_tb := mm_tbI 1598 (by decide +kernel) rfl
theorem lk_RX12_331 : Cond.methodLink RX12 331 yX12_gives ∈ mm_tb := mm_tbI 1621 (by decide +kernel) rfl
theorem lk_RX12_335 : Cond.methodLink RX12 335 yX12_startsDay ∈ mm_tb := mm_tbI 1590 (by decide +kernel) rfl
theorem lk_RX12_338 : Cond.methodLink RX12 338 yX12_laysOrder ∈ mm_tb := mm_tbI 1594 (by decide +kernel) rfl
theorem lk_RX12_341 : Cond.methodLink RX12 341 yX12_servesHour ∈ mm_tb := mm_tbI 1617 (by decide +kernel) rfl
theorem lk_RX12_344 : Cond.methodLink RX12 344 yX12_serves ∈ mm_tb := mm_tbI 1586 (by decide +kernel) rfl
theorem lk_RX12_347 : Cond.methodLink RX12 347 yX12_rainOf ∈ mm_tb := mm_tbI 1645 (by decide +kernel) rfl
theorem lk_RX12_353 : Cond.methodLink RX12 353 yX12_whyNot ∈ mm_tb := mm_tbI 1641 (by decide +kernel) rfl
theorem lk_RX12_360 : Cond.methodLink RX12 360 yX12_areStays ∈ mm_tb := mm_tbI 1633 (by decide +kernel) rfl
theorem lk_RX12_363 : Cond.methodLink RX12 363 yX12_canBe ∈ mm_tb := mm_tbI 1637 (by decide +kernel) rfl
theorem lk_RX12_367 : Cond.methodLink RX12 367 yX12_bits ∈ mm_tb := mm_tbI 1664 (by decide +kernel) rfl
theorem lk_RX12_370 : Cond.methodLink RX12 370 yX12_pricesOf ∈ mm_tb := mm_tbI 1657 (by decide +kernel) rfl
theorem lk_RX12_373 : Cond.methodLink RX12 373 yX12_isBetter ∈ mm_tb := mm_tbI 1661 (by decide +kernel) rfl
theorem lk_RX12_377 : Cond.methodLink RX12 377 yX12_bestOf ∈ mm_tb := mm_tbI 1653 (by decide +kernel) rfl
theorem lk_RX12_384 : Cond.methodLink RX12 384 yX12_orders ∈ mm_tb := mm_tbI 1692 (by decide +kernel) rfl
theorem lk_RX12_387 : Cond.methodLink RX12 387 yX12_ordersBy ∈ mm_tb := mm_tbI 1695 (by decide +kernel) rfl
theorem lk_RX12_390 : Cond.methodLink RX12 390 yX12_takesRooms ∈ mm_tb := mm_tbI 1680 (by decide +kernel) rfl
theorem lk_RX12_393 : Cond.methodLink RX12 393 yX12_laysWho ∈ mm_tb := mm_tbI 1684 (by decide +kernel) rfl
theorem lk_RX12_396 : Cond.methodLink RX12 396 yX12_firstRooms ∈ mm_tb := mm_tbI 1688 (by decide +kernel) rfl
theorem lk_RX12_399 : Cond.methodLink RX12 399 yX12_size ∈ mm_tb := mm_tbI 1707 (by decide +kernel) rfl
theorem lk_RX12_402 : Cond.methodLink RX12 402 yX12_shiftsBy ∈ mm_tb := mm_tbI 1703 (by decide +kernel) rfl
theorem lk_RX12_405 : Cond.methodLink RX12 405 yX12_max ∈ mm_tb := mm_tbI 1726 (by decide +kernel) rfl
theorem lk_RX12_408 : Cond.methodLink RX12 408 yX12_mostWanted ∈ mm_tb := mm_tbI 1722 (by decide +kernel) rfl
theorem lk_RX12_411 : Cond.methodLink RX12 411 yX12_moreOf ∈ mm_tb := mm_tbI 1718 (by decide +kernel) rfl
theorem lk_RX12_414 : Cond.methodLink RX12 414 yX12_brings ∈ mm_tb := mm_tbI 1714 (by decide +kernel) rfl
theorem lk_RX12_419 : Cond.methodLink RX12 419 yX12_plantCost ∈ mm_tb := mm_tbI 1734 (by decide +kernel) rfl
theorem lk_RX12_422 : Cond.methodLink RX12 422 yX12_gcd ∈ mm_tb := mm_tbI 1738 (by decide +kernel) rfl
theorem lk_RX12_427 : Cond.methodLink RX12 427 yX12_harmBy ∈ mm_tb := mm_tbI 1746 (by decide +kernel) rfl
theorem lk_RX12_430 : Cond.methodLink RX12 430 yX12_comesToMeter ∈ mm_tb := mm_tbI 1758 (by decide +kernel) rfl
theorem lk_RX12_433 : Cond.methodLink RX12 433 yX12_isMeterRow ∈ mm_tb := mm_tbI 1754 (by decide +kernel) rfl
theorem lk_RX12_448 : Cond.methodLink RX12 448 yX12_copies ∈ mm_tb := mm_tbI 1776 (by decide +kernel) rfl
theorem lk_RX12_452 : Cond.methodLink RX12 452 yX12_tapeNumber ∈ mm_tb := mm_tbI 1787 (by decide +kernel) rfl
theorem lk_RX1_105 : Cond.methodLink RX1 105 yX10_failAt ∈ mm_tb := mm_tbI 634 (by decide +kernel) rfl
theorem lk_RX1_109 : Cond.methodLink RX1 109 yX9_pairAt ∈ mm_tb := mm_tbI 1119 (by decide +kernel) rfl
theorem lk_RX1_120 : Cond.methodLink RX1 120 yX1_fillRow ∈ mm_tb := mm_tbI 1124 (by decide +kernel) rfl
theorem lk_RX1_124 : Cond.methodLink RX1 124 yX1_isRestGone ∈ mm_tb := mm_tbI 1128 (by decide +kernel) rfl
theorem lk_RX1_127 : Cond.methodLink RX1 127 yX1_noteRow ∈ mm_tb := mm_tbI 1132 (by decide +kernel) rfl
theorem lk_RX1_130 : Cond.methodLink RX1 130 yX1_isTold ∈ mm_tb := mm_tbI 1136 (by decide +kernel) rfl
theorem lk_RX1_133 : Cond.methodLink RX1 133 yX1_isWithinRest ∈ mm_tb := mm_tbI 1137 (by decide +kernel) rfl
theorem lk_RX1_136 : Cond.methodLink RX1 136 yX1_changeRest ∈ mm_tb := mm_tbI 1141 (by decide +kernel) rfl
theorem lk_RX1_37 : Cond.methodLinkNest RX1 37 yX11_isIn "WeatherHotel" ∈ mm_nw := mm_nwI 656 (by decide +kernel) rfl
theorem lk_RX1_41 : Cond.methodLink RX1 41 yX1_readParts ∈ mm_tb := mm_tbI 499 (by decide +kernel) rfl
theorem lk_RX1_45 : Cond.methodLink RX1 45 arraycopyName ∈ mm_tb := mm_tbI 640 (by decide +kernel) rfl
theorem lk_RX1_51 : Cond.methodLink RX1 51 yX10_open ∈ mm_tb := mm_tbI 503 (by decide +kernel) rfl
theorem lk_RX1_57 : Cond.methodLink RX1 57 yJ7_fill_53178 ∈ mm_tb := mm_tbI 514 (by decide +kernel) rfl
theorem lk_RX1_63 : Cond.methodLink RX1 63 yX1_readPart ∈ mm_tb := mm_tbI 515 (by decide +kernel) rfl
theorem lk_RX1_70 : Cond.methodLink RX1 70 yX10_atEnd ∈ mm_tb := mm_tbI 639 (by decide +kernel) rfl
theorem lk_RX1_74 : Cond.methodLink RX1 74 yX10_take ∈ mm_tb := mm_tbI 626 (by decide +kernel) rfl
theorem lk_RX1_80 : Cond.methodLink RX1 80 yX10_among ∈ mm_tb := mm_tbI 520 (by decide +kernel) rfl
theorem lk_RX1_84 : Cond.methodLink RX1 84 yX10_failHere ∈ mm_tb := mm_tbI 612 (by decide +kernel) rfl
theorem lk_RX1_87 : Cond.methodLink RX1 87 yX10_step ∈ mm_tb := mm_tbI 616 (by decide +kernel) rfl
theorem lk_RX1_90 : Cond.methodLink RX1 90 yX10_number ∈ mm_tb := mm_tbI 617 (by decide +kernel) rfl
theorem lk_RX1_93 : Cond.methodLink RX1 93 yX1_readHour ∈ mm_tb := mm_tbI 630 (by decide +kernel) rfl
theorem lk_RX1_97 : Cond.methodLink RX1 97 yJ9_min_7cf53 ∈ mm_tb := mm_tbI 638 (by decide +kernel) rfl
theorem lk_RX2_37 : Cond.methodLink RX2 37 yJ9_min_7cf53 ∈ mm_tb := mm_tbI 842 (by decide +kernel) rfl
theorem lk_RX3_103 : Cond.methodLink RX3 103 yX3_join ∈ mm_tb := mm_tbI 874 (by decide +kernel) rfl
theorem lk_RX3_43 : Cond.methodLink RX3 43 arraycopyName ∈ mm_tb := mm_tbI 792 (by decide +kernel) rfl
theorem lk_RX3_49 : Cond.methodLink RX3 49 yX3_endExit ∈ mm_tb := mm_tbI 776 (by decide +kernel) rfl
theorem lk_RX3_53 : Cond.methodLink RX3 53 yX3_addStep ∈ mm_tb := mm_tbI 781 (by decide +kernel) rfl
theorem lk_RX3_57 : Cond.methodLinkNest RX3 57 yX11_isBelow "WeatherHotel" ∈ mm_nw := mm_nwI 780 (by decide +kernel) rfl
theorem lk_RX3_77 : Cond.methodLink RX3 77 yX3_reckon ∈ mm_tb := mm_tbI 861 (by decide +kernel) rfl
theorem lk_RX3_81 : Cond.methodLink RX3 81 yJ9_min_7cf53 ∈ mm_tb := mm_tbI 878 (by decide +kernel) rfl
theorem lk_RX3_86 : Cond.methodLink RX3 86 yJ9_max_7cf53 ∈ mm_tb := mm_tbI 873 (by decide +kernel) rfl
theorem lk_RX3_96 : Cond.methodLink RX3 96 yX3_push ∈ mm_tb := mm_tbI 865 (by decide +kernel) rfl
theorem lk_RX3_99 : Cond.methodLink RX3 99 yX3_pop ∈ mm_tb := mm_tbI 869 (by decide +kernel) rfl
theorem lk_RX4_104 : Cond.methodLink RX4 104 yX4_readFactor ∈ mm_tb := mm_tbI 737 (by decide +kernel) rfl
theorem lk_RX4_111 : Cond.methodLink RX4 111 yX10_number ∈ mm_tb := mm_tbI 751 (by decide +kernel) rfl
theorem lk_RX4_115 : Cond.methodLink RX4 115 yX10_atDigit ∈ mm_tb := mm_tbI 752 (by decide +kernel) rfl
theorem lk_RX4_19 : Cond.methodLink RX4 19 yX10_open ∈ mm_tb := mm_tbI 716 (by decide +kernel) rfl
theorem lk_RX4_25 : Cond.methodLink RX4 25 yX3_clear ∈ mm_tb := mm_tbI 717 (by decide +kernel) rfl
theorem lk_RX4_30 : Cond.methodLink RX4 30 yX4_readClause ∈ mm_tb := mm_tbI 721 (by decide +kernel) rfl
theorem lk_RX4_38 : Cond.methodLink RX4 38 yX10_atEnd ∈ mm_tb := mm_tbI 787 (by decide +kernel) rfl
theorem lk_RX4_42 : Cond.methodLink RX4 42 yX10_take ∈ mm_tb := mm_tbI 745 (by decide +kernel) rfl
theorem lk_RX4_51 : Cond.methodLink RX4 51 yX10_among ∈ mm_tb := mm_tbI 726 (by decide +kernel) rfl
theorem lk_RX4_55 : Cond.methodLink RX4 55 yX10_failHere ∈ mm_tb := mm_tbI 727 (by decide +kernel) rfl
theorem lk_RX4_58 : Cond.methodLink RX4 58 yX10_step ∈ mm_tb := mm_tbI 728 (by decide +kernel) rfl
theorem lk_RX4_64 : Cond.methodLink RX4 64 yX4_readSum ∈ mm_tb := mm_tbI 729 (by decide +kernel) rfl
theorem lk_RX4_67 : Cond.methodLink RX4 67 yX4_readCondition ∈ mm_tb := mm_tbI 755 (by decide +kernel) rfl
theorem lk_RX4_70 : Cond.methodLink RX4 70 yX3_addClause ∈ mm_tb := mm_tbI 783 (by decide +kernel) rfl
theorem lk_RX4_74 : Cond.methodLink RX4 74 yX4_readPieces ∈ mm_tb := mm_tbI 759 (by decide +kernel) rfl
theorem lk_RX4_77 : Cond.methodLink RX4 77 yX3_addExit ∈ mm_tb := mm_tbI 772 (by decide +kernel) rfl
theorem lk_RX4_81 : Cond.methodLink RX4 81 yX3_endExit ∈ mm_tb := mm_tbI 782 (by decide +kernel) rfl
theorem lk_RX4_84 : Cond.methodLink RX4 84 yX4_readPiece ∈ mm_tb := mm_tbI 763 (by decide +kernel) rfl
theorem lk_RX4_87 : Cond.methodLink RX4 87 yX4_mayOpen ∈ mm_tb := mm_tbI 741 (by decide +kernel) rfl
theorem lk_RX4_90 : Cond.methodLink RX4 90 yX3_addStep ∈ mm_tb := mm_tbI 747 (by decide +kernel) rfl
theorem lk_RX4_94 : Cond.methodLink RX4 94 yX4_readComparison ∈ mm_tb := mm_tbI 767 (by decide +kernel) rfl
theorem lk_RX4_99 : Cond.methodLink RX4 99 yX4_readTerm ∈ mm_tb := mm_tbI 733 (by decide +kernel) rfl
theorem lk_RX5_102 : Cond.methodLink RX5 102 yX2_afterInflow ∈ mm_tb := mm_tbI 925 (by decide +kernel) rfl
theorem lk_RX5_106 : Cond.methodLink RX5 106 yX5_causeAt ∈ mm_tb := mm_tbI 926 (by decide +kernel) rfl
theorem lk_RX5_122 : Cond.methodLink RX5 122 yJ9_max_7cf53 ∈ mm_tb := mm_tbI 1047 (by decide +kernel) rfl
theorem lk_RX5_125 : Cond.methodLink RX5 125 yJ9_min_7cf53 ∈ mm_tb := mm_tbI 1091 (by decide +kernel) rfl
theorem lk_RX5_42 : Cond.methodLink RX5 42 yJ7_fill_53178 ∈ mm_tb := mm_tbI 801 (by decide +kernel) rfl
theorem lk_RX5_48 : Cond.methodLink RX5 48 yX7_has ∈ mm_tb := mm_tbI 802 (by decide +kernel) rfl
theorem lk_RX5_60 : Cond.methodLink RX5 60 yX5_setFloor ∈ mm_tb := mm_tbI 803 (by decide +kernel) rfl
theorem lk_RX5_67 : Cond.methodLink RX5 67 yX5_setShift ∈ mm_tb := mm_tbI 807 (by decide +kernel) rfl
theorem lk_RX5_73 : Cond.methodLink RX5 73 yX1_rowOf ∈ mm_tb := mm_tbI 811 (by decide +kernel) rfl
theorem lk_RX5_79 : Cond.methodLink RX5 79 yJ9_floorMod_7cf53 ∈ mm_tb := mm_tbI 812 (by decide +kernel) rfl
theorem lk_RX5_85 : Cond.methodLinkNest RX5 85 yX11_isIn "WeatherHotel" ∈ mm_nw := mm_nwI 819 (by decide +kernel) rfl
theorem lk_RX5_89 : Cond.methodLink RX5 89 yX5_change ∈ mm_tb := mm_tbI 820 (by decide +kernel) rfl
theorem lk_RX5_92 : Cond.methodLink RX5 92 yX5_turnTo ∈ mm_tb := mm_tbI 996 (by decide +kernel) rfl
theorem lk_RX5_96 : Cond.methodLink RX5 96 yX5_fitsFrom ∈ mm_tb := mm_tbI 921 (by decide +kernel) rfl
theorem lk_RX6_101 : Cond.methodLink RX6 101 yX5_setShift ∈ mm_tb := mm_tbI 1022 (by decide +kernel) rfl
theorem lk_RX6_42 : Cond.methodLink RX6 42 yX5_turnTo ∈ mm_tb := mm_tbI 985 (by decide +kernel) rfl
theorem lk_RX6_48 : Cond.methodLink RX6 48 yX6_findRoomsFrom ∈ mm_tb := mm_tbI 986 (by decide +kernel) rfl
theorem lk_RX6_52 : Cond.methodLinkNest RX6 52 yX11_isIn "WeatherHotel" ∈ mm_nw := mm_nwI 990 (by decide +kernel) rfl
theorem lk_RX6_60 : Cond.methodLink RX6 60 yX5_setFloor ∈ mm_tb := mm_tbI 991 (by decide +kernel) rfl
theorem lk_RX6_64 : Cond.methodLink RX6 64 yX5_include ∈ mm_tb := mm_tbI 992 (by decide +kernel) rfl
theorem lk_RX6_67 : Cond.methodLink RX6 67 yX5_fits ∈ mm_tb := mm_tbI 997 (by decide +kernel) rfl
theorem lk_RX6_71 : Cond.methodLink RX6 71 yX5_exclude ∈ mm_tb := mm_tbI 998 (by decide +kernel) rfl
theorem lk_RX6_83 : Cond.methodLink RX6 83 yX6_findShiftsFrom ∈ mm_tb := mm_tbI 1014 (by decide +kernel) rfl
theorem lk_RX6_86 : Cond.methodLink RX6 86 arraycopyName ∈ mm_tb := mm_tbI 1018 (by decide +kernel) rfl
theorem lk_RX6_95 : Cond.methodLink RX6 95 yJ9_abs_0f7a4 ∈ mm_tb := mm_tbI 1019 (by decide +kernel) rfl
theorem lk_RX7_31 : Cond.methodLinkNest RX7 31 yX11_isIn "WeatherHotel" ∈ mm_nw := mm_nwI 694 (by decide +kernel) rfl
theorem lk_RX7_35 : Cond.methodLink RX7 35 yX7_has ∈ mm_tb := mm_tbI 690 (by decide +kernel) rfl
theorem lk_RX7_39 : Cond.methodLink RX7 39 arraycopyName ∈ mm_tb := mm_tbI 1167 (by decide +kernel) rfl
theorem lk_RX8_101 : Cond.methodLink RX8 101 yX8_serve ∈ mm_tb := mm_tbI 879 (by decide +kernel) rfl
theorem lk_RX8_105 : Cond.methodLink RX8 105 yX7_has ∈ mm_tb := mm_tbI 848 (by decide +kernel) rfl
theorem lk_RX8_111 : Cond.methodLink RX8 111 yX3_askAbout ∈ mm_tb := mm_tbI 849 (by decide +kernel) rfl
theorem lk_RX8_117 : Cond.methodLink RX8 117 yX3_askAt ∈ mm_tb := mm_tbI 853 (by decide +kernel) rfl
theorem lk_RX8_121 : Cond.methodLink RX8 121 yX3_answerBy ∈ mm_tb := mm_tbI 857 (by decide +kernel) rfl
theorem lk_RX8_131 : Cond.methodLink RX8 131 yX8_giveRain ∈ mm_tb := mm_tbI 883 (by decide +kernel) rfl
theorem lk_RX8_135 : Cond.methodLink RX8 135 yJ9_min_7cf53 ∈ mm_tb := mm_tbI 887 (by decide +kernel) rfl
theorem lk_RX8_140 : Cond.methodLink RX8 140 yX8_harmOf ∈ mm_tb := mm_tbI 888 (by decide +kernel) rfl
theorem lk_RX8_144 : Cond.methodLink RX8 144 yX8_readRainTops ∈ mm_tb := mm_tbI 1082 (by decide +kernel) rfl
theorem lk_RX8_147 : Cond.methodLinkNest RX8 147 yX11_isPart "WeatherHotel" ∈ mm_nw := mm_nwI 1092 (by decide +kernel) rfl
theorem lk_RX8_151 : Cond.methodLink RX8 151 yX5_turnTo ∈ mm_tb := mm_tbI 1086 (by decide +kernel) rfl
theorem lk_RX8_154 : Cond.methodLink RX8 154 yX8_chooseNext ∈ mm_tb := mm_tbI 1093 (by decide +kernel) rfl
theorem lk_RX8_157 : Cond.methodLink RX8 157 yX5_throughPipes ∈ mm_tb := mm_tbI 1087 (by decide +kernel) rfl
theorem lk_RX8_160 : Cond.methodLinkNest RX8 160 yX11_isIn "WeatherHotel" ∈ mm_nw := mm_nwI 1097 (by decide +kernel) rfl
theorem lk_RX8_163 : Cond.methodLink RX8 163 yX8_harmBehind ∈ mm_tb := mm_tbI 1098 (by decide +kernel) rfl
theorem lk_RX8_166 : Cond.methodLink RX8 166 yX8_rainLeft ∈ mm_tb := mm_tbI 1102 (by decide +kernel) rfl
theorem lk_RX8_172 : Cond.methodLink RX8 172 yJ9_max_7cf53 ∈ mm_tb := mm_tbI 1106 (by decide +kernel) rfl
theorem lk_RX8_57 : Cond.methodLink RX8 57 yX5_begin ∈ mm_tb := mm_tbI 832 (by decide +kernel) rfl
theorem lk_RX8_72 : Cond.methodLink RX8 72 yJ7_fill_53178 ∈ mm_tb := mm_tbI 833 (by decide +kernel) rfl
theorem lk_RX8_78 : Cond.methodLink RX8 78 yX8_serveHour ∈ mm_tb := mm_tbI 834 (by decide +kernel) rfl
theorem lk_RX8_82 : Cond.methodLink RX8 82 yX2_afterInflow ∈ mm_tb := mm_tbI 838 (by decide +kernel) rfl
theorem lk_RX8_89 : Cond.methodLink RX8 89 arraycopyName ∈ mm_tb := mm_tbI 843 (by decide +kernel) rfl
theorem lk_RX8_98 : Cond.methodLink RX8 98 yX8_orderStays ∈ mm_tb := mm_tbI 844 (by decide +kernel) rfl
theorem lk_RX9_19 : Cond.methodLinkNest RX9 19 yX11_isBelow "WeatherHotel" ∈ mm_nw := mm_nwI 980 (by decide +kernel) rfl
theorem lk_RX9_23 : Cond.methodLink RX9 23 yX9_byteAt ∈ mm_tb := mm_tbI 1123 (by decide +kernel) rfl
theorem lk_RX9_27 : Cond.methodLink RX9 27 yX9_pairAt ∈ mm_tb := mm_tbI 1180 (by decide +kernel) rfl
theorem wf_RJ0_15 : Cond.fieldLink RJ0 15 "java/lang/String" "coder" "B" ∈ mm_tb := mm_tbI 1795 (by decide +kernel) rfl
theorem wf_RJ0_38 : Cond.fieldLink RJ0 38 "java/lang/String" "COMPACT_STRINGS" "Z" ∈ mm_tb := mm_tbI 540 (by decide +kernel) rfl
theorem wf_RJ0_9 : Cond.fieldLink RJ0 9 "java/lang/String" "value" "[B" ∈ mm_tb := mm_tbI 1796 (by decide +kernel) rfl
abbrev Y_J0_coder_7d493 : mm_Y := (yJ0_coder_7d493, cJ0_coder_7d493, 1, some .byte)
theorem mz_J0_coder_7d493 : mm_Z Y_J0_coder_7d493 0 := ⟨mm_tbI 549 (by decide +kernel) rfl, mm_tbI 16 (by decide +kernel) rfl, by decide, by decide, by decide +kernel⟩
theorem im_J0_coder_7d493 : Cond.instanceMethod yJ0_coder_7d493 ∈ mm_tb := mm_tbI 547 (by decide +kernel) rfl
theorem se_J0_coder_7d493 : Cond.selects RJ0 yJ0_coder_7d493 yJ0_coder_7d493 ∈ mm_tb := mm_tbI 548 (by decide +kernel) rfl
abbrev Y_J0_indexOf_0f7a4 : mm_Y := (yJ0_indexOf_0f7a4, cJ0_indexOf_0f7a4, 2, some .int)
theorem mz_J0_indexOf_0f7a4 : mm_Z Y_J0_indexOf_0f7a4 1 := ⟨mm_tbI 531 (by decide +kernel) rfl, mm_tbI 16 (by decide +kernel) rfl, by decide, by decide, by decide +kernel⟩
theorem im_J0_indexOf_0f7a4 : Cond.instanceMethod yJ0_indexOf_0f7a4 ∈ mm_tb := mm_tbI 529 (by decide +kernel) rfl
theorem se_J0_indexOf_0f7a4 : Cond.selects RJ0 yJ0_indexOf_0f7a4 yJ0_indexOf_0f7a4 ∈ mm_tb := mm_tbI 530 (by decide +kernel) rfl
abbrev Y_J0_indexOf_7cf53 : mm_Y := (yJ0_indexOf_7cf53, cJ0_indexOf_7cf53, 3, some .int)
theorem mz_J0_indexOf_7cf53 : mm_Z Y_J0_indexOf_7cf53 2 := ⟨mm_tbI 535 (by decide +kernel) rfl, mm_tbI 16 (by decide +kernel) rfl, by decide, by decide, by decide +kernel⟩
theorem im_J0_indexOf_7cf53 : Cond.instanceMethod yJ0_indexOf_7cf53 ∈ mm_tb := mm_tbI 533 (by decide +kernel) rfl
theorem se_J0_indexOf_7cf53 : Cond.selects RJ0 yJ0_indexOf_7cf53 yJ0_indexOf_7cf53 ∈ mm_tb := mm_tbI 534 (by decide +kernel) rfl
abbrev Y_J0_isLatin1_aae02 : mm_Y := (yJ0_isLatin1_aae02, cJ0_isLatin1_aae02, 1, some .boolean)
theorem mz_J0_isLatin1_aae02 : mm_Z Y_J0_isLatin1_aae02 0 := ⟨mm_tbI 539 (by decide +kernel) rfl, mm_tbI 16 (by decide +kernel) rfl, by decide, by decide, by decide +kernel⟩
theorem im_J0_isLatin1_aae02 : Cond.instanceMethod yJ0_isLatin1_aae02 ∈ mm_tb := mm_tbI 537 (by decide +kernel) rfl
theorem se_J0_isLatin1_aae02 : Cond.selects RJ0 yJ0_isLatin1_aae02 yJ0_isLatin1_aae02 ∈ mm_tb := mm_tbI 538 (by decide +kernel) rfl
abbrev Y_J0_length_8abf5 : mm_Y := (yJ0_length_8abf5, cJ0_length_8abf5, 1, some .int)
theorem mz_J0_length_8abf5 : mm_Z Y_J0_length_8abf5 0 := ⟨mm_tbI 545 (by decide +kernel) rfl, mm_tbI 16 (by decide +kernel) rfl, by decide, by decide, by decide +kernel⟩
theorem im_J0_length_8abf5 : Cond.instanceMethod yJ0_length_8abf5 ∈ mm_tb := mm_tbI 543 (by decide +kernel) rfl
theorem se_J0_length_8abf5 : Cond.selects RJ0 yJ0_length_8abf5 yJ0_length_8abf5 ∈ mm_tb := mm_tbI 544 (by decide +kernel) rfl
abbrev Y_J1_canEncode_9a6ad : mm_Y := (yJ1_canEncode_9a6ad, cJ1_canEncode_9a6ad, 1, some .boolean)
theorem mz_J1_canEncode_9a6ad : mm_Z Y_J1_canEncode_9a6ad 1 := ⟨mm_tbI 555 (by decide +kernel) rfl, mm_tbI 17 (by decide +kernel) rfl, by decide, by decide, by decide +kernel⟩
theorem sm_J1_canEncode_9a6ad : Cond.static yJ1_canEncode_9a6ad ∈ mm_tb := mm_tbI 554 (by decide +kernel) rfl
abbrev Y_J1_indexOfChar_4cfef : mm_Y := (yJ1_indexOfChar_4cfef, cJ1_indexOfChar_4cfef, 6, some .int)
theorem mz_J1_indexOfChar_4cfef : mm_Z Y_J1_indexOfChar_4cfef 4 := ⟨mm_tbI 562 (by decide +kernel) rfl, mm_tbI 17 (by decide +kernel) rfl, by decide, by decide, by decide +kernel⟩
theorem sm_J1_indexOfChar_4cfef : Cond.static yJ1_indexOfChar_4cfef ∈ mm_tb := mm_tbI 561 (by decide +kernel) rfl
abbrev Y_J1_indexOf_4cfef : mm_Y := (yJ1_indexOf_4cfef, cJ1_indexOf_4cfef, 4, some .int)
theorem mz_J1_indexOf_4cfef : mm_Z Y_J1_indexOf_4cfef 4 := ⟨mm_tbI 552 (by decide +kernel) rfl, mm_tbI 17 (by decide +kernel) rfl, by decide, by decide, by decide +kernel⟩
theorem sm_J1_indexOf_4cfef : Cond.static yJ1_indexOf_4cfef ∈ mm_tb := mm_tbI 551 (by decide +kernel) rfl
abbrev Y_J6_bitCount_0f7a4 : mm_Y := (yJ6_bitCount_0f7a4, cJ6_bitCount_0f7a4, 1, some .int)
theorem mz_J6_bitCount_0f7a4 : mm_Z Y_J6_bitCount_0f7a4 1 := ⟨mm_tbI 913 (by decide +kernel) rfl, mm_tbI 22 (by decide +kernel) rfl, by decide, by decide, by decide +kernel⟩
theorem sm_J6_bitCount_0f7a4 : Cond.static yJ6_bitCount_0f7a4 ∈ mm_tb := mm_tbI 912 (by decide +kernel) rfl
abbrev Y_J7_fill_53178 : mm_Y := (yJ7_fill_53178, cJ7_fill_53178, 4, none)
theorem mz_J7_fill_53178 : mm_Z Y_J7_fill_53178 2 := ⟨mm_tbI 121 (by decide +kernel) rfl, mm_tbI 6 (by decide +kernel) rfl, by decide, by decide, by decide +kernel⟩
theorem sm_J7_fill_53178 : Cond.static yJ7_fill_53178 ∈ mm_tb := mm_tbI 120 (by decide +kernel) rfl
abbrev Y_J9_abs_0f7a4 : mm_Y := (yJ9_abs_0f7a4, cJ9_abs_0f7a4, 1, some .int)
theorem mz_J9_abs_0f7a4 : mm_Z Y_J9_abs_0f7a4 1 := ⟨mm_tbI 1021 (by decide +kernel) rfl, mm_tbI 15 (by decide +kernel) rfl, by decide, by decide, by decide +kernel⟩
theorem sm_J9_abs_0f7a4 : Cond.static yJ9_abs_0f7a4 ∈ mm_tb := mm_tbI 1020 (by decide +kernel) rfl
abbrev Y_J9_floorMod_7cf53 : mm_Y := (yJ9_floorMod_7cf53, cJ9_floorMod_7cf53, 3, some .int)
theorem mz_J9_floorMod_7cf53 : mm_Z Y_J9_floorMod_7cf53 2 := ⟨mm_tbI 814 (by decide +kernel) rfl, mm_tbI 15 (by decide +kernel) rfl, by decide, by decide, by decide +kernel⟩
theorem sm_J9_floorMod_7cf53 : Cond.static yJ9_floorMod_7cf53 ∈ mm_tb := mm_tbI 813 (by decide +kernel) rfl
abbrev Y_J9_max_7cf53 : mm_Y := (yJ9_max_7cf53, cJ9_max_7cf53, 2, some .int)
theorem mz_J9_max_7cf53 : mm_Z Y_J9_max_7cf53 2 := ⟨mm_tbI 558 (by decide +kernel) rfl, mm_tbI 15 (by decide +kernel) rfl, by decide, by decide, by decide +kernel⟩
theorem sm_J9_max_7cf53 : Cond.static yJ9_max_7cf53 ∈ mm_tb := mm_tbI 557 (by decide +kernel) rfl
abbrev Y_J9_min_7cf53 : mm_Y := (yJ9_min_7cf53, cJ9_min_7cf53, 2, some .int)
theorem mz_J9_min_7cf53 : mm_Z Y_J9_min_7cf53 2 := ⟨mm_tbI 509 (by decide +kernel) rfl, mm_tbI 15 (by decide +kernel) rfl, by decide, by decide, by decide +kernel⟩
theorem sm_J9_min_7cf53 : Cond.static yJ9_min_7cf53 ∈ mm_tb := mm_tbI 508 (by decide +kernel) rfl
abbrev Y_X0_bestOf : mm_Y := (yX0_bestOf, cX0_bestOf, 6, some .int)
theorem mz_X0_bestOf : mm_Z Y_X0_bestOf 1 := ⟨mm_tbI 937 (by decide +kernel) rfl, mm_tbI 11 (by decide +kernel) rfl, by decide, by decide, by decide +kernel⟩
theorem im_X0_bestOf : Cond.instanceMethod yX0_bestOf ∈ mm_tb := mm_tbI 935 (by decide +kernel) rfl
theorem se_X0_bestOf : Cond.selects RX0 yX0_bestOf yX0_bestOf ∈ mm_tb := mm_tbI 936 (by decide +kernel) rfl
abbrev Y_X0_chooseLarger : mm_Y := (yX0_chooseLarger, cX0_chooseLarger, 3, none)
theorem mz_X0_chooseLarger : mm_Z Y_X0_chooseLarger 0 := ⟨mm_tbI 1034 (by decide +kernel) rfl, mm_tbI 11 (by decide +kernel) rfl, by decide, by decide, by decide +kernel⟩
theorem im_X0_chooseLarger : Cond.instanceMethod yX0_chooseLarger ∈ mm_tb := mm_tbI 1032 (by decide +kernel) rfl
theorem se_X0_chooseLarger : Cond.selects RX0 yX0_chooseLarger yX0_chooseLarger ∈ mm_tb := mm_tbI 1033 (by decide +kernel) rfl
abbrev Y_X0_factorial : mm_Y := (yX0_factorial, cX0_factorial, 4, some .long)
theorem mz_X0_factorial : mm_Z Y_X0_factorial 1 := ⟨mm_tbI 1064 (by decide +kernel) rfl, mm_tbI 11 (by decide +kernel) rfl, by decide, by decide, by decide +kernel⟩
theorem sm_X0_factorial : Cond.static yX0_factorial ∈ mm_tb := mm_tbI 1063 (by decide +kernel) rfl
abbrev Y_X0_fits : mm_Y := (yX0_fits, cX0_fits, 2, some .boolean)
theorem mz_X0_fits : mm_Z Y_X0_fits 1 := ⟨mm_tbI 950 (by decide +kernel) rfl, mm_tbI 11 (by decide +kernel) rfl, by decide, by decide, by decide +kernel⟩
theorem im_X0_fits : Cond.instanceMethod yX0_fits ∈ mm_tb := mm_tbI 949 (by decide +kernel) rfl
theorem se_X0_fits : Cond.selects RX0 yX0_fits yX0_fits ∈ mm_tb := mm_tbP 25 (q := (yX0_fits, 8)) (by decide +kernel) rfl
abbrev Y_X0_isBetter : mm_Y := (yX0_isBetter, cX0_isBetter, 4, some .boolean)
theorem mz_X0_isBetter : mm_Z Y_X0_isBetter 4 := ⟨mm_tbI 945 (by decide +kernel) rfl, mm_tbI 11 (by decide +kernel) rfl, by decide, by decide, by decide +kernel⟩
theorem sm_X0_isBetter : Cond.static yX0_isBetter ∈ mm_tb := mm_tbI 944 (by decide +kernel) rfl
abbrev Y_X0_moreOf : mm_Y := (yX0_moreOf, cX0_moreOf, 2, some .int)
theorem mz_X0_moreOf : mm_Z Y_X0_moreOf 1 := ⟨mm_tbI 1042 (by decide +kernel) rfl, mm_tbI 11 (by decide +kernel) rfl, by decide, by decide, by decide +kernel⟩
theorem im_X0_moreOf : Cond.instanceMethod yX0_moreOf ∈ mm_tb := mm_tbI 1041 (by decide +kernel) rfl
theorem se_X0_moreOf : Cond.selects RX0 yX0_moreOf yX0_moreOf ∈ mm_tb := mm_tbP 30 (q := (yX0_moreOf, 8)) (by decide +kernel) rfl
abbrev Y_X0_plantCostOf : mm_Y := (yX0_plantCostOf, cX0_plantCostOf, 5, some .long)
theorem mz_X0_plantCostOf : mm_Z Y_X0_plantCostOf 1 := ⟨mm_tbI 1068 (by decide +kernel) rfl, mm_tbI 11 (by decide +kernel) rfl, by decide, by decide, by decide +kernel⟩
theorem im_X0_plantCostOf : Cond.instanceMethod yX0_plantCostOf ∈ mm_tb := mm_tbI 1067 (by decide +kernel) rfl
theorem se_X0_plantCostOf : Cond.selects RX0 yX0_plantCostOf yX0_plantCostOf ∈ mm_tb := mm_tbP 31 (q := (yX0_plantCostOf, 8)) (by decide +kernel) rfl
abbrev Y_X0_reduce : mm_Y := (yX0_reduce, cX0_reduce, 12, none)
theorem mz_X0_reduce : mm_Z Y_X0_reduce 2 := ⟨mm_tbI 1073 (by decide +kernel) rfl, mm_tbI 11 (by decide +kernel) rfl, by decide, by decide, by decide +kernel⟩
theorem im_X0_reduce : Cond.instanceMethod yX0_reduce ∈ mm_tb := mm_tbI 1072 (by decide +kernel) rfl
theorem se_X0_reduce : Cond.selects RX0 yX0_reduce yX0_reduce ∈ mm_tb := mm_tbP 32 (q := (yX0_reduce, 8)) (by decide +kernel) rfl
abbrev Y_X0_shareOut : mm_Y := (yX0_shareOut, cX0_shareOut, 12, none)
theorem mz_X0_shareOut : mm_Z Y_X0_shareOut 2 := ⟨mm_tbI 1061 (by decide +kernel) rfl, mm_tbI 11 (by decide +kernel) rfl, by decide, by decide, by decide +kernel⟩
theorem im_X0_shareOut : Cond.instanceMethod yX0_shareOut ∈ mm_tb := mm_tbI 1059 (by decide +kernel) rfl
theorem se_X0_shareOut : Cond.selects RX0 yX0_shareOut yX0_shareOut ∈ mm_tb := mm_tbI 1060 (by decide +kernel) rfl
abbrev Y_X0_smallestMisfit : mm_Y := (yX0_smallestMisfit, cX0_smallestMisfit, 4, some .int)
theorem mz_X0_smallestMisfit : mm_Z Y_X0_smallestMisfit 0 := ⟨mm_tbI 961 (by decide +kernel) rfl, mm_tbI 11 (by decide +kernel) rfl, by decide, by decide, by decide +kernel⟩
theorem im_X0_smallestMisfit : Cond.instanceMethod yX0_smallestMisfit ∈ mm_tb := mm_tbI 959 (by decide +kernel) rfl
theorem se_X0_smallestMisfit : Cond.selects RX0 yX0_smallestMisfit yX0_smallestMisfit ∈ mm_tb := mm_tbI 960 (by decide +kernel) rfl
abbrev Y_X0_tryLarger : mm_Y := (yX0_tryLarger, cX0_tryLarger, 5, none)
theorem mz_X0_tryLarger : mm_Z Y_X0_tryLarger 2 := ⟨mm_tbI 1038 (by decide +kernel) rfl, mm_tbI 11 (by decide +kernel) rfl, by decide, by decide, by decide +kernel⟩
theorem im_X0_tryLarger : Cond.instanceMethod yX0_tryLarger ∈ mm_tb := mm_tbI 1037 (by decide +kernel) rfl
theorem se_X0_tryLarger : Cond.selects RX0 yX0_tryLarger yX0_tryLarger ∈ mm_tb := mm_tbP 29 (q := (yX0_tryLarger, 8)) (by decide +kernel) rfl
abbrev Y_X10_among : mm_Y := (yX10_among, cX10_among, 2, some .int)
theorem mz_X10_among : mm_Z Y_X10_among 1 := ⟨mm_tbI 523 (by decide +kernel) rfl, mm_tbI 3 (by decide +kernel) rfl, by decide, by decide, by decide +kernel⟩
theorem im_X10_among : Cond.instanceMethod yX10_among ∈ mm_tb := mm_tbI 521 (by decide +kernel) rfl
theorem se_X10_among : Cond.selects RX10 yX10_among yX10_among ∈ mm_tb := mm_tbI 522 (by decide +kernel) rfl
abbrev Y_X10_atDigit : mm_Y := (yX10_atDigit, cX10_atDigit, 1, some .boolean)
theorem mz_X10_atDigit : mm_Z Y_X10_atDigit 0 := ⟨mm_tbI 624 (by decide +kernel) rfl, mm_tbI 3 (by decide +kernel) rfl, by decide, by decide, by decide +kernel⟩
theorem im_X10_atDigit : Cond.instanceMethod yX10_atDigit ∈ mm_tb := mm_tbI 622 (by decide +kernel) rfl
theorem se_X10_atDigit : Cond.selects RX10 yX10_atDigit yX10_atDigit ∈ mm_tb := mm_tbI 623 (by decide +kernel) rfl
abbrev Y_X10_atEnd : mm_Y := (yX10_atEnd, cX10_atEnd, 1, some .boolean)
theorem mz_X10_atEnd : mm_Z Y_X10_atEnd 0 := ⟨mm_tbI 527 (by decide +kernel) rfl, mm_tbI 3 (by decide +kernel) rfl, by decide, by decide, by decide +kernel⟩
theorem im_X10_atEnd : Cond.instanceMethod yX10_atEnd ∈ mm_tb := mm_tbI 525 (by decide +kernel) rfl
theorem se_X10_atEnd : Cond.selects RX10 yX10_atEnd yX10_atEnd ∈ mm_tb := mm_tbI 526 (by decide +kernel) rfl
abbrev Y_X10_failAt : mm_Y := (yX10_failAt, cX10_failAt, 3, none)
theorem mz_X10_failAt : mm_Z Y_X10_failAt 2 := ⟨mm_tbI 637 (by decide +kernel) rfl, mm_tbI 3 (by decide +kernel) rfl, by decide, by decide, by decide +kernel⟩
theorem im_X10_failAt : Cond.instanceMethod yX10_failAt ∈ mm_tb := mm_tbI 635 (by decide +kernel) rfl
theorem se_X10_failAt : Cond.selects RX10 yX10_failAt yX10_failAt ∈ mm_tb := mm_tbI 636 (by decide +kernel) rfl
abbrev Y_X10_failHere : mm_Y := (yX10_failHere, cX10_failHere, 2, some .boolean)
theorem mz_X10_failHere : mm_Z Y_X10_failHere 1 := ⟨mm_tbI 615 (by decide +kernel) rfl, mm_tbI 3 (by decide +kernel) rfl, by decide, by decide, by decide +kernel⟩
theorem im_X10_failHere : Cond.instanceMethod yX10_failHere ∈ mm_tb := mm_tbI 613 (by decide +kernel) rfl
theorem se_X10_failHere : Cond.selects RX10 yX10_failHere yX10_failHere ∈ mm_tb := mm_tbI 614 (by decide +kernel) rfl
abbrev Y_X10_number : mm_Y := (yX10_number, cX10_number, 4, some .int)
theorem mz_X10_number : mm_Z Y_X10_number 1 := ⟨mm_tbI 620 (by decide +kernel) rfl, mm_tbI 3 (by decide +kernel) rfl, by decide, by decide, by decide +kernel⟩
theorem im_X10_number : Cond.instanceMethod yX10_number ∈ mm_tb := mm_tbI 618 (by decide +kernel) rfl
theorem se_X10_number : Cond.selects RX10 yX10_number yX10_number ∈ mm_tb := mm_tbI 619 (by decide +kernel) rfl
abbrev Y_X10_open : mm_Y := (yX10_open, cX10_open, 2, none)
theorem mz_X10_open : mm_Z Y_X10_open 1 := ⟨mm_tbI 506 (by decide +kernel) rfl, mm_tbI 3 (by decide +kernel) rfl, by decide, by decide, by decide +kernel⟩
theorem im_X10_open : Cond.instanceMethod yX10_open ∈ mm_tb := mm_tbI 504 (by decide +kernel) rfl
theorem se_X10_open : Cond.selects RX10 yX10_open yX10_open ∈ mm_tb := mm_tbI 505 (by decide +kernel) rfl
abbrev Y_X10_step : mm_Y := (yX10_step, cX10_step, 1, none)
theorem mz_X10_step : mm_Z Y_X10_step 0 := ⟨mm_tbI 513 (by decide +kernel) rfl, mm_tbI 3 (by decide +kernel) rfl, by decide, by decide, by decide +kernel⟩
theorem im_X10_step : Cond.instanceMethod yX10_step ∈ mm_tb := mm_tbI 511 (by decide +kernel) rfl
theorem se_X10_step : Cond.selects RX10 yX10_step yX10_step ∈ mm_tb := mm_tbI 512 (by decide +kernel) rfl
abbrev Y_X10_take : mm_Y := (yX10_take, cX10_take, 2, some .boolean)
theorem mz_X10_take : mm_Z Y_X10_take 1 := ⟨mm_tbI 629 (by decide +kernel) rfl, mm_tbI 3 (by decide +kernel) rfl, by decide, by decide, by decide +kernel⟩
theorem im_X10_take : Cond.instanceMethod yX10_take ∈ mm_tb := mm_tbI 627 (by decide +kernel) rfl
theorem se_X10_take : Cond.selects RX10 yX10_take yX10_take ∈ mm_tb := mm_tbI 628 (by decide +kernel) rfl
abbrev Y_X11_areStays : mm_Y := (yX11_areStays, cX11_areStays, 3, some .boolean)
theorem mz_X11_areStays : mm_Z Y_X11_areStays 2 := ⟨mm_tbI 907 (by decide +kernel) rfl, mm_tbI 1 (by decide +kernel) rfl, by decide, by decide, by decide +kernel⟩
theorem im_X11_areStays : Cond.instanceMethod yX11_areStays ∈ mm_tb := mm_tbI 906 (by decide +kernel) rfl
theorem se_X11_areStays : Cond.selects RX11 yX11_areStays yX11_areStays ∈ mm_tb := mm_tbP 22 (q := (yX11_areStays, 13)) (by decide +kernel) rfl
abbrev Y_X11_best : mm_Y := (yX11_best, cX11_best, 3, some .int)
abbrev Y_X11_can : mm_Y := (yX11_can, cX11_can, 4, some .int)
abbrev Y_X11_cellar : mm_Y := (yX11_cellar, cX11_cellar, 3, some .boolean)
abbrev Y_X11_check : mm_Y := (yX11_check, cX11_check, 6, some .int)
abbrev Y_X11_costs : mm_Y := (yX11_costs, cX11_costs, 5, some .int)
abbrev Y_X11_count : mm_Y := (yX11_count, cX11_count, 2, some .int)
abbrev Y_X11_countOfOne : mm_Y := (yX11_countOfOne, cX11_countOfOne, 3, some .int)
theorem mz_X11_countOfOne : mm_Z Y_X11_countOfOne 1 := ⟨mm_tbI 1188 (by decide +kernel) rfl, mm_tbI 1 (by decide +kernel) rfl, by decide, by decide, by decide +kernel⟩
theorem im_X11_countOfOne : Cond.instanceMethod yX11_countOfOne ∈ mm_tb := mm_tbI 1187 (by decide +kernel) rfl
theorem se_X11_countOfOne : Cond.selects RX11 yX11_countOfOne yX11_countOfOne ∈ mm_tb := mm_tbP 43 (q := (yX11_countOfOne, 13)) (by decide +kernel) rfl
abbrev Y_X11_day : mm_Y := (yX11_day, cX11_day, 4, some .int)
abbrev Y_X11_dayIs : mm_Y := (yX11_dayIs, cX11_dayIs, 4, some .int)
abbrev Y_X11_draw : mm_Y := (yX11_draw, cX11_draw, 3, some .int)
abbrev Y_X11_drawOne : mm_Y := (yX11_drawOne, cX11_drawOne, 3, none)
theorem mz_X11_drawOne : mm_Z Y_X11_drawOne 0 := ⟨mm_tbI 1157 (by decide +kernel) rfl, mm_tbI 1 (by decide +kernel) rfl, by decide, by decide, by decide +kernel⟩
theorem im_X11_drawOne : Cond.instanceMethod yX11_drawOne ∈ mm_tb := mm_tbI 1156 (by decide +kernel) rfl
theorem se_X11_drawOne : Cond.selects RX11 yX11_drawOne yX11_drawOne ∈ mm_tb := mm_tbP 42 (q := (yX11_drawOne, 13)) (by decide +kernel) rfl
abbrev Y_X11_drought : mm_Y := (yX11_drought, cX11_drought, 3, some .int)
abbrev Y_X11_fair : mm_Y := (yX11_fair, cX11_fair, 4, some .long)
abbrev Y_X11_feed : mm_Y := (yX11_feed, cX11_feed, 6, some .int)
abbrev Y_X11_gets : mm_Y := (yX11_gets, cX11_gets, 4, some .int)
abbrev Y_X11_isBelow : mm_Y := (yX11_isBelow, cX11_isBelow, 2, some .boolean)
theorem mz_X11_isBelow : mm_Z Y_X11_isBelow 2 := ⟨mm_tbI 494 (by decide +kernel) rfl, mm_tbI 1 (by decide +kernel) rfl, by decide, by decide, by decide +kernel⟩
theorem sm_X11_isBelow : Cond.static yX11_isBelow ∈ mm_tb := mm_tbI 493 (by decide +kernel) rfl
abbrev Y_X11_isIn : mm_Y := (yX11_isIn, cX11_isIn, 2, some .boolean)
theorem mz_X11_isIn : mm_Z Y_X11_isIn 2 := ⟨mm_tbI 658 (by decide +kernel) rfl, mm_tbI 1 (by decide +kernel) rfl, by decide, by decide, by decide +kernel⟩
theorem sm_X11_isIn : Cond.static yX11_isIn ∈ mm_tb := mm_tbI 657 (by decide +kernel) rfl
abbrev Y_X11_isPart : mm_Y := (yX11_isPart, cX11_isPart, 2, some .boolean)
theorem mz_X11_isPart : mm_Z Y_X11_isPart 2 := ⟨mm_tbI 910 (by decide +kernel) rfl, mm_tbI 1 (by decide +kernel) rfl, by decide, by decide, by decide +kernel⟩
theorem sm_X11_isPart : Cond.static yX11_isPart ∈ mm_tb := mm_tbI 909 (by decide +kernel) rfl
abbrev Y_X11_isUpTo : mm_Y := (yX11_isUpTo, cX11_isUpTo, 2, some .boolean)
theorem mz_X11_isUpTo : mm_Z Y_X11_isUpTo 2 := ⟨mm_tbI 673 (by decide +kernel) rfl, mm_tbI 1 (by decide +kernel) rfl, by decide, by decide, by decide +kernel⟩
theorem sm_X11_isUpTo : Cond.static yX11_isUpTo ∈ mm_tb := mm_tbI 672 (by decide +kernel) rfl
abbrev Y_X11_keep : mm_Y := (yX11_keep, cX11_keep, 1, some .int)
abbrev Y_X11_larger : mm_Y := (yX11_larger, cX11_larger, 2, some .int)
abbrev Y_X11_law : mm_Y := (yX11_law, cX11_law, 3, some .int)
abbrev Y_X11_leave : mm_Y := (yX11_leave, cX11_leave, 2, some .boolean)
abbrev Y_X11_meter : mm_Y := (yX11_meter, cX11_meter, 4, some .int)
abbrev Y_X11_pipes : mm_Y := (yX11_pipes, cX11_pipes, 3, some .boolean)
abbrev Y_X11_plant : mm_Y := (yX11_plant, cX11_plant, 4, some .boolean)
abbrev Y_X11_room : mm_Y := (yX11_room, cX11_room, 2, some .int)
abbrev Y_X11_rooms : mm_Y := (yX11_rooms, cX11_rooms, 6, some .int)
abbrev Y_X11_roomsOnTape : mm_Y := (yX11_roomsOnTape, cX11_roomsOnTape, 7, some .int)
theorem mz_X11_roomsOnTape : mm_Z Y_X11_roomsOnTape 2 := ⟨mm_tbI 975 (by decide +kernel) rfl, mm_tbI 1 (by decide +kernel) rfl, by decide, by decide, by decide +kernel⟩
theorem im_X11_roomsOnTape : Cond.instanceMethod yX11_roomsOnTape ∈ mm_tb := mm_tbI 974 (by decide +kernel) rfl
theorem se_X11_roomsOnTape : Cond.selects RX11 yX11_roomsOnTape yX11_roomsOnTape ∈ mm_tb := mm_tbP 26 (q := (yX11_roomsOnTape, 13)) (by decide +kernel) rfl
abbrev Y_X11_seed : mm_Y := (yX11_seed, cX11_seed, 2, some .boolean)
abbrev Y_X11_served : mm_Y := (yX11_served, cX11_served, 3, some .int)
abbrev Y_X11_shift : mm_Y := (yX11_shift, cX11_shift, 3, some .boolean)
abbrev Y_X11_shifting : mm_Y := (yX11_shifting, cX11_shifting, 4, some .int)
abbrev Y_X11_smallest : mm_Y := (yX11_smallest, cX11_smallest, 1, some .int)
abbrev Y_X11_stay : mm_Y := (yX11_stay, cX11_stay, 6, some .boolean)
abbrev Y_X11_undo : mm_Y := (yX11_undo, cX11_undo, 1, some .boolean)
abbrev Y_X11_wants : mm_Y := (yX11_wants, cX11_wants, 3, some .int)
abbrev Y_X12_areStays : mm_Y := (yX12_areStays, cX12_areStays, 2, some .boolean)
theorem mz_X12_areStays : mm_Z Y_X12_areStays 1 := ⟨mm_tbI 1636 (by decide +kernel) rfl, mm_tbI 14 (by decide +kernel) rfl, by decide, by decide, by decide +kernel⟩
theorem im_X12_areStays : Cond.instanceMethod yX12_areStays ∈ mm_tb := mm_tbI 1635 (by decide +kernel) rfl
theorem se_X12_areStays : Cond.selects RX12 yX12_areStays yX12_areStays ∈ mm_tb := mm_tbP 81 (q := (yX12_areStays, 68)) (by decide +kernel) rfl
abbrev Y_X12_best : mm_Y := (yX12_best, cX12_best, 3, some .int)
abbrev Y_X12_bestOf : mm_Y := (yX12_bestOf, cX12_bestOf, 4, some .int)
theorem mz_X12_bestOf : mm_Z Y_X12_bestOf 1 := ⟨mm_tbI 1656 (by decide +kernel) rfl, mm_tbI 14 (by decide +kernel) rfl, by decide, by decide, by decide +kernel⟩
theorem im_X12_bestOf : Cond.instanceMethod yX12_bestOf ∈ mm_tb := mm_tbI 1655 (by decide +kernel) rfl
theorem se_X12_bestOf : Cond.selects RX12 yX12_bestOf yX12_bestOf ∈ mm_tb := mm_tbP 85 (q := (yX12_bestOf, 68)) (by decide +kernel) rfl
abbrev Y_X12_bits : mm_Y := (yX12_bits, cX12_bits, 3, some .int)
theorem mz_X12_bits : mm_Z Y_X12_bits 1 := ⟨mm_tbI 1666 (by decide +kernel) rfl, mm_tbI 14 (by decide +kernel) rfl, by decide, by decide, by decide +kernel⟩
theorem sm_X12_bits : Cond.static yX12_bits ∈ mm_tb := mm_tbI 1665 (by decide +kernel) rfl
abbrev Y_X12_brings : mm_Y := (yX12_brings, cX12_brings, 4, some .int)
theorem mz_X12_brings : mm_Z Y_X12_brings 1 := ⟨mm_tbI 1717 (by decide +kernel) rfl, mm_tbI 14 (by decide +kernel) rfl, by decide, by decide, by decide +kernel⟩
theorem im_X12_brings : Cond.instanceMethod yX12_brings ∈ mm_tb := mm_tbI 1716 (by decide +kernel) rfl
theorem se_X12_brings : Cond.selects RX12 yX12_brings yX12_brings ∈ mm_tb := mm_tbP 92 (q := (yX12_brings, 68)) (by decide +kernel) rfl
abbrev Y_X12_byLaw : mm_Y := (yX12_byLaw, cX12_byLaw, 6, some .int)
theorem mz_X12_byLaw : mm_Z Y_X12_byLaw 3 := ⟨mm_tbI 1609 (by decide +kernel) rfl, mm_tbI 14 (by decide +kernel) rfl, by decide, by decide, by decide +kernel⟩
theorem im_X12_byLaw : Cond.instanceMethod yX12_byLaw ∈ mm_tb := mm_tbI 1608 (by decide +kernel) rfl
theorem se_X12_byLaw : Cond.selects RX12 yX12_byLaw yX12_byLaw ∈ mm_tb := mm_tbP 77 (q := (yX12_byLaw, 68)) (by decide +kernel) rfl
abbrev Y_X12_can : mm_Y := (yX12_can, cX12_can, 4, some .int)
abbrev Y_X12_canBe : mm_Y := (yX12_canBe, cX12_canBe, 5, some .boolean)
theorem mz_X12_canBe : mm_Z Y_X12_canBe 2 := ⟨mm_tbI 1640 (by decide +kernel) rfl, mm_tbI 14 (by decide +kernel) rfl, by decide, by decide, by decide +kernel⟩
theorem im_X12_canBe : Cond.instanceMethod yX12_canBe ∈ mm_tb := mm_tbI 1639 (by decide +kernel) rfl
theorem se_X12_canBe : Cond.selects RX12 yX12_canBe yX12_canBe ∈ mm_tb := mm_tbP 82 (q := (yX12_canBe, 68)) (by decide +kernel) rfl
abbrev Y_X12_cellar : mm_Y := (yX12_cellar, cX12_cellar, 3, some .boolean)
abbrev Y_X12_check : mm_Y := (yX12_check, cX12_check, 5, some .int)
abbrev Y_X12_closesSums : mm_Y := (yX12_closesSums, cX12_closesSums, 2, none)
theorem mz_X12_closesSums : mm_Z Y_X12_closesSums 1 := ⟨mm_tbI 1553 (by decide +kernel) rfl, mm_tbI 14 (by decide +kernel) rfl, by decide, by decide, by decide +kernel⟩
theorem im_X12_closesSums : Cond.instanceMethod yX12_closesSums ∈ mm_tb := mm_tbI 1552 (by decide +kernel) rfl
theorem se_X12_closesSums : Cond.selects RX12 yX12_closesSums yX12_closesSums ∈ mm_tb := mm_tbP 64 (q := (yX12_closesSums, 68)) (by decide +kernel) rfl
abbrev Y_X12_comesTo : mm_Y := (yX12_comesTo, cX12_comesTo, 8, some .int)
theorem mz_X12_comesTo : mm_Z Y_X12_comesTo 2 := ⟨mm_tbI 1613 (by decide +kernel) rfl, mm_tbI 14 (by decide +kernel) rfl, by decide, by decide, by decide +kernel⟩
theorem im_X12_comesTo : Cond.instanceMethod yX12_comesTo ∈ mm_tb := mm_tbI 1612 (by decide +kernel) rfl
theorem se_X12_comesTo : Cond.selects RX12 yX12_comesTo yX12_comesTo ∈ mm_tb := mm_tbP 78 (q := (yX12_comesTo, 68)) (by decide +kernel) rfl
abbrev Y_X12_comesToMeter : mm_Y := (yX12_comesToMeter, cX12_comesToMeter, 5, some .boolean)
theorem mz_X12_comesToMeter : mm_Z Y_X12_comesToMeter 1 := ⟨mm_tbI 1761 (by decide +kernel) rfl, mm_tbI 14 (by decide +kernel) rfl, by decide, by decide, by decide +kernel⟩
theorem im_X12_comesToMeter : Cond.instanceMethod yX12_comesToMeter ∈ mm_tb := mm_tbI 1760 (by decide +kernel) rfl
theorem se_X12_comesToMeter : Cond.selects RX12 yX12_comesToMeter yX12_comesToMeter ∈ mm_tb := mm_tbP 98 (q := (yX12_comesToMeter, 68)) (by decide +kernel) rfl
abbrev Y_X12_copies : mm_Y := (yX12_copies, cX12_copies, 3, none)
theorem mz_X12_copies : mm_Z Y_X12_copies 2 := ⟨mm_tbI 1778 (by decide +kernel) rfl, mm_tbI 14 (by decide +kernel) rfl, by decide, by decide, by decide +kernel⟩
theorem sm_X12_copies : Cond.static yX12_copies ∈ mm_tb := mm_tbI 1777 (by decide +kernel) rfl
abbrev Y_X12_costs : mm_Y := (yX12_costs, cX12_costs, 4, some .int)
abbrev Y_X12_count : mm_Y := (yX12_count, cX12_count, 2, some .int)
abbrev Y_X12_day : mm_Y := (yX12_day, cX12_day, 6, some .int)
abbrev Y_X12_dayIs : mm_Y := (yX12_dayIs, cX12_dayIs, 4, some .int)
abbrev Y_X12_draw : mm_Y := (yX12_draw, cX12_draw, 5, some .int)
abbrev Y_X12_drought : mm_Y := (yX12_drought, cX12_drought, 8, some .int)
abbrev Y_X12_endsPiece : mm_Y := (yX12_endsPiece, cX12_endsPiece, 1, none)
theorem mz_X12_endsPiece : mm_Z Y_X12_endsPiece 0 := ⟨mm_tbI 1573 (by decide +kernel) rfl, mm_tbI 14 (by decide +kernel) rfl, by decide, by decide, by decide +kernel⟩
theorem im_X12_endsPiece : Cond.instanceMethod yX12_endsPiece ∈ mm_tb := mm_tbI 1572 (by decide +kernel) rfl
theorem se_X12_endsPiece : Cond.selects RX12 yX12_endsPiece yX12_endsPiece ∈ mm_tb := mm_tbP 69 (q := (yX12_endsPiece, 68)) (by decide +kernel) rfl
abbrev Y_X12_factOf : mm_Y := (yX12_factOf, cX12_factOf, 1, some .int)
theorem mz_X12_factOf : mm_Z Y_X12_factOf 1 := ⟨mm_tbI 1546 (by decide +kernel) rfl, mm_tbI 14 (by decide +kernel) rfl, by decide, by decide, by decide +kernel⟩
theorem sm_X12_factOf : Cond.static yX12_factOf ∈ mm_tb := mm_tbI 1545 (by decide +kernel) rfl
abbrev Y_X12_fair : mm_Y := (yX12_fair, cX12_fair, 11, some .long)
abbrev Y_X12_feed : mm_Y := (yX12_feed, cX12_feed, 6, some .int)
abbrev Y_X12_feels : mm_Y := (yX12_feels, cX12_feels, 6, none)
theorem mz_X12_feels : mm_Z Y_X12_feels 5 := ⟨mm_tbI 1605 (by decide +kernel) rfl, mm_tbI 14 (by decide +kernel) rfl, by decide, by decide, by decide +kernel⟩
theorem im_X12_feels : Cond.instanceMethod yX12_feels ∈ mm_tb := mm_tbI 1604 (by decide +kernel) rfl
theorem se_X12_feels : Cond.selects RX12 yX12_feels yX12_feels ∈ mm_tb := mm_tbP 76 (q := (yX12_feels, 68)) (by decide +kernel) rfl
abbrev Y_X12_firstRooms : mm_Y := (yX12_firstRooms, cX12_firstRooms, 4, some .int)
theorem mz_X12_firstRooms : mm_Z Y_X12_firstRooms 0 := ⟨mm_tbI 1691 (by decide +kernel) rfl, mm_tbI 14 (by decide +kernel) rfl, by decide, by decide, by decide +kernel⟩
theorem im_X12_firstRooms : Cond.instanceMethod yX12_firstRooms ∈ mm_tb := mm_tbI 1690 (by decide +kernel) rfl
theorem se_X12_firstRooms : Cond.selects RX12 yX12_firstRooms yX12_firstRooms ∈ mm_tb := mm_tbP 89 (q := (yX12_firstRooms, 68)) (by decide +kernel) rfl
abbrev Y_X12_gcd : mm_Y := (yX12_gcd, cX12_gcd, 10, some .long)
theorem mz_X12_gcd : mm_Z Y_X12_gcd 2 := ⟨mm_tbI 1740 (by decide +kernel) rfl, mm_tbI 14 (by decide +kernel) rfl, by decide, by decide, by decide +kernel⟩
theorem sm_X12_gcd : Cond.static yX12_gcd ∈ mm_tb := mm_tbI 1739 (by decide +kernel) rfl
abbrev Y_X12_gets : mm_Y := (yX12_gets, cX12_gets, 4, some .int)
abbrev Y_X12_gives : mm_Y := (yX12_gives, cX12_gives, 7, none)
theorem mz_X12_gives : mm_Z Y_X12_gives 3 := ⟨mm_tbI 1624 (by decide +kernel) rfl, mm_tbI 14 (by decide +kernel) rfl, by decide, by decide, by decide +kernel⟩
theorem im_X12_gives : Cond.instanceMethod yX12_gives ∈ mm_tb := mm_tbI 1623 (by decide +kernel) rfl
theorem se_X12_gives : Cond.selects RX12 yX12_gives yX12_gives ∈ mm_tb := mm_tbP 80 (q := (yX12_gives, 68)) (by decide +kernel) rfl
abbrev Y_X12_harmBy : mm_Y := (yX12_harmBy, cX12_harmBy, 4, some .int)
theorem mz_X12_harmBy : mm_Z Y_X12_harmBy 2 := ⟨mm_tbI 1749 (by decide +kernel) rfl, mm_tbI 14 (by decide +kernel) rfl, by decide, by decide, by decide +kernel⟩
theorem im_X12_harmBy : Cond.instanceMethod yX12_harmBy ∈ mm_tb := mm_tbI 1748 (by decide +kernel) rfl
theorem se_X12_harmBy : Cond.selects RX12 yX12_harmBy yX12_harmBy ∈ mm_tb := mm_tbP 96 (q := (yX12_harmBy, 68)) (by decide +kernel) rfl
abbrev Y_X12_has : mm_Y := (yX12_has, cX12_has, 2, some .boolean)
theorem mz_X12_has : mm_Z Y_X12_has 2 := ⟨mm_tbI 1456 (by decide +kernel) rfl, mm_tbI 14 (by decide +kernel) rfl, by decide, by decide, by decide +kernel⟩
theorem sm_X12_has : Cond.static yX12_has ∈ mm_tb := mm_tbI 1455 (by decide +kernel) rfl
abbrev Y_X12_hasOpenSum : mm_Y := (yX12_hasOpenSum, cX12_hasOpenSum, 3, some .boolean)
theorem mz_X12_hasOpenSum : mm_Z Y_X12_hasOpenSum 1 := ⟨mm_tbI 1561 (by decide +kernel) rfl, mm_tbI 14 (by decide +kernel) rfl, by decide, by decide, by decide +kernel⟩
theorem im_X12_hasOpenSum : Cond.instanceMethod yX12_hasOpenSum ∈ mm_tb := mm_tbI 1560 (by decide +kernel) rfl
theorem se_X12_hasOpenSum : Cond.selects RX12 yX12_hasOpenSum yX12_hasOpenSum ∈ mm_tb := mm_tbP 66 (q := (yX12_hasOpenSum, 68)) (by decide +kernel) rfl
abbrev Y_X12_here : mm_Y := (yX12_here, cX12_here, 1, some .int)
theorem mz_X12_here : mm_Z Y_X12_here 0 := ⟨mm_tbI 1422 (by decide +kernel) rfl, mm_tbI 14 (by decide +kernel) rfl, by decide, by decide, by decide +kernel⟩
theorem im_X12_here : Cond.instanceMethod yX12_here ∈ mm_tb := mm_tbI 1421 (by decide +kernel) rfl
theorem se_X12_here : Cond.selects RX12 yX12_here yX12_here ∈ mm_tb := mm_tbP 46 (q := (yX12_here, 68)) (by decide +kernel) rfl
abbrev Y_X12_in : mm_Y := (yX12_in, cX12_in, 3, some .boolean)
theorem mz_X12_in : mm_Z Y_X12_in 3 := ⟨mm_tbI 1414 (by decide +kernel) rfl, mm_tbI 14 (by decide +kernel) rfl, by decide, by decide, by decide +kernel⟩
theorem sm_X12_in : Cond.static yX12_in ∈ mm_tb := mm_tbI 1413 (by decide +kernel) rfl
abbrev Y_X12_isBetter : mm_Y := (yX12_isBetter, cX12_isBetter, 4, some .boolean)
theorem mz_X12_isBetter : mm_Z Y_X12_isBetter 4 := ⟨mm_tbI 1663 (by decide +kernel) rfl, mm_tbI 14 (by decide +kernel) rfl, by decide, by decide, by decide +kernel⟩
theorem sm_X12_isBetter : Cond.static yX12_isBetter ∈ mm_tb := mm_tbI 1662 (by decide +kernel) rfl
abbrev Y_X12_isDay : mm_Y := (yX12_isDay, cX12_isDay, 2, some .boolean)
theorem mz_X12_isDay : mm_Z Y_X12_isDay 1 := ⟨mm_tbI 1453 (by decide +kernel) rfl, mm_tbI 14 (by decide +kernel) rfl, by decide, by decide, by decide +kernel⟩
theorem im_X12_isDay : Cond.instanceMethod yX12_isDay ∈ mm_tb := mm_tbI 1452 (by decide +kernel) rfl
theorem se_X12_isDay : Cond.selects RX12 yX12_isDay yX12_isDay ∈ mm_tb := mm_tbP 52 (q := (yX12_isDay, 68)) (by decide +kernel) rfl
abbrev Y_X12_isDigit : mm_Y := (yX12_isDigit, cX12_isDigit, 1, some .boolean)
theorem mz_X12_isDigit : mm_Z Y_X12_isDigit 0 := ⟨mm_tbI 1434 (by decide +kernel) rfl, mm_tbI 14 (by decide +kernel) rfl, by decide, by decide, by decide +kernel⟩
theorem im_X12_isDigit : Cond.instanceMethod yX12_isDigit ∈ mm_tb := mm_tbI 1433 (by decide +kernel) rfl
theorem se_X12_isDigit : Cond.selects RX12 yX12_isDigit yX12_isDigit ∈ mm_tb := mm_tbP 49 (q := (yX12_isDigit, 68)) (by decide +kernel) rfl
abbrev Y_X12_isHour : mm_Y := (yX12_isHour, cX12_isHour, 1, some .boolean)
theorem mz_X12_isHour : mm_Z Y_X12_isHour 1 := ⟨mm_tbI 1462 (by decide +kernel) rfl, mm_tbI 14 (by decide +kernel) rfl, by decide, by decide, by decide +kernel⟩
theorem sm_X12_isHour : Cond.static yX12_isHour ∈ mm_tb := mm_tbI 1461 (by decide +kernel) rfl
abbrev Y_X12_isKind : mm_Y := (yX12_isKind, cX12_isKind, 1, some .boolean)
theorem mz_X12_isKind : mm_Z Y_X12_isKind 1 := ⟨mm_tbI 1459 (by decide +kernel) rfl, mm_tbI 14 (by decide +kernel) rfl, by decide, by decide, by decide +kernel⟩
theorem sm_X12_isKind : Cond.static yX12_isKind ∈ mm_tb := mm_tbI 1458 (by decide +kernel) rfl
abbrev Y_X12_isMeterRow : mm_Y := (yX12_isMeterRow, cX12_isMeterRow, 5, some .boolean)
theorem mz_X12_isMeterRow : mm_Z Y_X12_isMeterRow 2 := ⟨mm_tbI 1757 (by decide +kernel) rfl, mm_tbI 14 (by decide +kernel) rfl, by decide, by decide, by decide +kernel⟩
theorem im_X12_isMeterRow : Cond.instanceMethod yX12_isMeterRow ∈ mm_tb := mm_tbI 1756 (by decide +kernel) rfl
theorem se_X12_isMeterRow : Cond.selects RX12 yX12_isMeterRow yX12_isMeterRow ∈ mm_tb := mm_tbP 97 (q := (yX12_isMeterRow, 68)) (by decide +kernel) rfl
abbrev Y_X12_isRoom : mm_Y := (yX12_isRoom, cX12_isRoom, 2, some .boolean)
theorem mz_X12_isRoom : mm_Z Y_X12_isRoom 1 := ⟨mm_tbI 1486 (by decide +kernel) rfl, mm_tbI 14 (by decide +kernel) rfl, by decide, by decide, by decide +kernel⟩
theorem im_X12_isRoom : Cond.instanceMethod yX12_isRoom ∈ mm_tb := mm_tbI 1485 (by decide +kernel) rfl
theorem se_X12_isRoom : Cond.selects RX12 yX12_isRoom yX12_isRoom ∈ mm_tb := mm_tbP 53 (q := (yX12_isRoom, 68)) (by decide +kernel) rfl
abbrev Y_X12_isStay : mm_Y := (yX12_isStay, cX12_isStay, 2, some .boolean)
theorem mz_X12_isStay : mm_Z Y_X12_isStay 1 := ⟨mm_tbI 1494 (by decide +kernel) rfl, mm_tbI 14 (by decide +kernel) rfl, by decide, by decide, by decide +kernel⟩
theorem im_X12_isStay : Cond.instanceMethod yX12_isStay ∈ mm_tb := mm_tbI 1493 (by decide +kernel) rfl
theorem se_X12_isStay : Cond.selects RX12 yX12_isStay yX12_isStay ∈ mm_tb := mm_tbP 55 (q := (yX12_isStay, 68)) (by decide +kernel) rfl
abbrev Y_X12_jumps : mm_Y := (yX12_jumps, cX12_jumps, 2, none)
theorem mz_X12_jumps : mm_Z Y_X12_jumps 1 := ⟨mm_tbI 1581 (by decide +kernel) rfl, mm_tbI 14 (by decide +kernel) rfl, by decide, by decide, by decide +kernel⟩
theorem im_X12_jumps : Cond.instanceMethod yX12_jumps ∈ mm_tb := mm_tbI 1580 (by decide +kernel) rfl
theorem se_X12_jumps : Cond.selects RX12 yX12_jumps yX12_jumps ∈ mm_tb := mm_tbP 71 (q := (yX12_jumps, 68)) (by decide +kernel) rfl
abbrev Y_X12_keep : mm_Y := (yX12_keep, cX12_keep, 1, some .int)
abbrev Y_X12_lands : mm_Y := (yX12_lands, cX12_lands, 3, none)
theorem mz_X12_lands : mm_Z Y_X12_lands 1 := ⟨mm_tbI 1577 (by decide +kernel) rfl, mm_tbI 14 (by decide +kernel) rfl, by decide, by decide, by decide +kernel⟩
theorem im_X12_lands : Cond.instanceMethod yX12_lands ∈ mm_tb := mm_tbI 1576 (by decide +kernel) rfl
theorem se_X12_lands : Cond.selects RX12 yX12_lands yX12_lands ∈ mm_tb := mm_tbP 70 (q := (yX12_lands, 68)) (by decide +kernel) rfl
abbrev Y_X12_larger : mm_Y := (yX12_larger, cX12_larger, 6, some .int)
abbrev Y_X12_law : mm_Y := (yX12_law, cX12_law, 4, some .int)
abbrev Y_X12_laysOrder : mm_Y := (yX12_laysOrder, cX12_laysOrder, 4, none)
theorem mz_X12_laysOrder : mm_Z Y_X12_laysOrder 1 := ⟨mm_tbI 1597 (by decide +kernel) rfl, mm_tbI 14 (by decide +kernel) rfl, by decide, by decide, by decide +kernel⟩
theorem im_X12_laysOrder : Cond.instanceMethod yX12_laysOrder ∈ mm_tb := mm_tbI 1596 (by decide +kernel) rfl
theorem se_X12_laysOrder : Cond.selects RX12 yX12_laysOrder yX12_laysOrder ∈ mm_tb := mm_tbP 74 (q := (yX12_laysOrder, 68)) (by decide +kernel) rfl
abbrev Y_X12_laysWho : mm_Y := (yX12_laysWho, cX12_laysWho, 3, none)
theorem mz_X12_laysWho : mm_Z Y_X12_laysWho 1 := ⟨mm_tbI 1687 (by decide +kernel) rfl, mm_tbI 14 (by decide +kernel) rfl, by decide, by decide, by decide +kernel⟩
theorem im_X12_laysWho : Cond.instanceMethod yX12_laysWho ∈ mm_tb := mm_tbI 1686 (by decide +kernel) rfl
theorem se_X12_laysWho : Cond.selects RX12 yX12_laysWho yX12_laysWho ∈ mm_tb := mm_tbP 88 (q := (yX12_laysWho, 68)) (by decide +kernel) rfl
abbrev Y_X12_leave : mm_Y := (yX12_leave, cX12_leave, 2, some .boolean)
abbrev Y_X12_max : mm_Y := (yX12_max, cX12_max, 2, some .int)
theorem mz_X12_max : mm_Z Y_X12_max 2 := ⟨mm_tbI 1728 (by decide +kernel) rfl, mm_tbI 14 (by decide +kernel) rfl, by decide, by decide, by decide +kernel⟩
theorem sm_X12_max : Cond.static yX12_max ∈ mm_tb := mm_tbI 1727 (by decide +kernel) rfl
abbrev Y_X12_meter : mm_Y := (yX12_meter, cX12_meter, 9, some .int)
abbrev Y_X12_min : mm_Y := (yX12_min, cX12_min, 2, some .int)
theorem mz_X12_min : mm_Z Y_X12_min 2 := ⟨mm_tbI 1445 (by decide +kernel) rfl, mm_tbI 14 (by decide +kernel) rfl, by decide, by decide, by decide +kernel⟩
theorem sm_X12_min : Cond.static yX12_min ∈ mm_tb := mm_tbI 1444 (by decide +kernel) rfl
abbrev Y_X12_moreOf : mm_Y := (yX12_moreOf, cX12_moreOf, 3, some .int)
theorem mz_X12_moreOf : mm_Z Y_X12_moreOf 2 := ⟨mm_tbI 1721 (by decide +kernel) rfl, mm_tbI 14 (by decide +kernel) rfl, by decide, by decide, by decide +kernel⟩
theorem im_X12_moreOf : Cond.instanceMethod yX12_moreOf ∈ mm_tb := mm_tbI 1720 (by decide +kernel) rfl
theorem se_X12_moreOf : Cond.selects RX12 yX12_moreOf yX12_moreOf ∈ mm_tb := mm_tbP 93 (q := (yX12_moreOf, 68)) (by decide +kernel) rfl
abbrev Y_X12_mostWanted : mm_Y := (yX12_mostWanted, cX12_mostWanted, 5, some .int)
theorem mz_X12_mostWanted : mm_Z Y_X12_mostWanted 2 := ⟨mm_tbI 1725 (by decide +kernel) rfl, mm_tbI 14 (by decide +kernel) rfl, by decide, by decide, by decide +kernel⟩
theorem im_X12_mostWanted : Cond.instanceMethod yX12_mostWanted ∈ mm_tb := mm_tbI 1724 (by decide +kernel) rfl
theorem se_X12_mostWanted : Cond.selects RX12 yX12_mostWanted yX12_mostWanted ∈ mm_tb := mm_tbP 94 (q := (yX12_mostWanted, 68)) (by decide +kernel) rfl
abbrev Y_X12_notes : mm_Y := (yX12_notes, cX12_notes, 3, none)
theorem mz_X12_notes : mm_Z Y_X12_notes 2 := ⟨mm_tbI 1543 (by decide +kernel) rfl, mm_tbI 14 (by decide +kernel) rfl, by decide, by decide, by decide +kernel⟩
theorem im_X12_notes : Cond.instanceMethod yX12_notes ∈ mm_tb := mm_tbI 1542 (by decide +kernel) rfl
theorem se_X12_notes : Cond.selects RX12 yX12_notes yX12_notes ∈ mm_tb := mm_tbP 63 (q := (yX12_notes, 68)) (by decide +kernel) rfl
abbrev Y_X12_opens : mm_Y := (yX12_opens, cX12_opens, 2, some .boolean)
theorem mz_X12_opens : mm_Z Y_X12_opens 1 := ⟨mm_tbI 1534 (by decide +kernel) rfl, mm_tbI 14 (by decide +kernel) rfl, by decide, by decide, by decide +kernel⟩
theorem im_X12_opens : Cond.instanceMethod yX12_opens ∈ mm_tb := mm_tbI 1533 (by decide +kernel) rfl
theorem se_X12_opens : Cond.selects RX12 yX12_opens yX12_opens ∈ mm_tb := mm_tbP 61 (q := (yX12_opens, 68)) (by decide +kernel) rfl
abbrev Y_X12_orders : mm_Y := (yX12_orders, cX12_orders, 3, some .int)
theorem mz_X12_orders : mm_Z Y_X12_orders 1 := ⟨mm_tbI 1694 (by decide +kernel) rfl, mm_tbI 14 (by decide +kernel) rfl, by decide, by decide, by decide +kernel⟩
theorem sm_X12_orders : Cond.static yX12_orders ∈ mm_tb := mm_tbI 1693 (by decide +kernel) rfl
abbrev Y_X12_ordersBy : mm_Y := (yX12_ordersBy, cX12_ordersBy, 10, none)
theorem mz_X12_ordersBy : mm_Z Y_X12_ordersBy 3 := ⟨mm_tbI 1698 (by decide +kernel) rfl, mm_tbI 14 (by decide +kernel) rfl, by decide, by decide, by decide +kernel⟩
theorem im_X12_ordersBy : Cond.instanceMethod yX12_ordersBy ∈ mm_tb := mm_tbI 1697 (by decide +kernel) rfl
theorem se_X12_ordersBy : Cond.selects RX12 yX12_ordersBy yX12_ordersBy ∈ mm_tb := mm_tbP 90 (q := (yX12_ordersBy, 68)) (by decide +kernel) rfl
abbrev Y_X12_pipes : mm_Y := (yX12_pipes, cX12_pipes, 3, some .boolean)
abbrev Y_X12_plant : mm_Y := (yX12_plant, cX12_plant, 4, some .boolean)
abbrev Y_X12_plantCost : mm_Y := (yX12_plantCost, cX12_plantCost, 4, some .int)
theorem mz_X12_plantCost : mm_Z Y_X12_plantCost 1 := ⟨mm_tbI 1737 (by decide +kernel) rfl, mm_tbI 14 (by decide +kernel) rfl, by decide, by decide, by decide +kernel⟩
theorem im_X12_plantCost : Cond.instanceMethod yX12_plantCost ∈ mm_tb := mm_tbI 1736 (by decide +kernel) rfl
theorem se_X12_plantCost : Cond.selects RX12 yX12_plantCost yX12_plantCost ∈ mm_tb := mm_tbP 95 (q := (yX12_plantCost, 68)) (by decide +kernel) rfl
abbrev Y_X12_pricesOf : mm_Y := (yX12_pricesOf, cX12_pricesOf, 4, some .int)
theorem mz_X12_pricesOf : mm_Z Y_X12_pricesOf 1 := ⟨mm_tbI 1660 (by decide +kernel) rfl, mm_tbI 14 (by decide +kernel) rfl, by decide, by decide, by decide +kernel⟩
theorem im_X12_pricesOf : Cond.instanceMethod yX12_pricesOf ∈ mm_tb := mm_tbI 1659 (by decide +kernel) rfl
theorem se_X12_pricesOf : Cond.selects RX12 yX12_pricesOf yX12_pricesOf ∈ mm_tb := mm_tbP 86 (q := (yX12_pricesOf, 68)) (by decide +kernel) rfl
abbrev Y_X12_rainOf : mm_Y := (yX12_rainOf, cX12_rainOf, 6, some .int)
theorem mz_X12_rainOf : mm_Z Y_X12_rainOf 3 := ⟨mm_tbI 1648 (by decide +kernel) rfl, mm_tbI 14 (by decide +kernel) rfl, by decide, by decide, by decide +kernel⟩
theorem im_X12_rainOf : Cond.instanceMethod yX12_rainOf ∈ mm_tb := mm_tbI 1647 (by decide +kernel) rfl
theorem se_X12_rainOf : Cond.selects RX12 yX12_rainOf yX12_rainOf ∈ mm_tb := mm_tbP 84 (q := (yX12_rainOf, 68)) (by decide +kernel) rfl
abbrev Y_X12_readsClause : mm_Y := (yX12_readsClause, cX12_readsClause, 2, some .boolean)
theorem mz_X12_readsClause : mm_Z Y_X12_readsClause 0 := ⟨mm_tbI 1522 (by decide +kernel) rfl, mm_tbI 14 (by decide +kernel) rfl, by decide, by decide, by decide +kernel⟩
theorem im_X12_readsClause : Cond.instanceMethod yX12_readsClause ∈ mm_tb := mm_tbI 1521 (by decide +kernel) rfl
theorem se_X12_readsClause : Cond.selects RX12 yX12_readsClause yX12_readsClause ∈ mm_tb := mm_tbP 58 (q := (yX12_readsClause, 68)) (by decide +kernel) rfl
abbrev Y_X12_readsCompared : mm_Y := (yX12_readsCompared, cX12_readsCompared, 2, some .boolean)
theorem mz_X12_readsCompared : mm_Z Y_X12_readsCompared 0 := ⟨mm_tbI 1569 (by decide +kernel) rfl, mm_tbI 14 (by decide +kernel) rfl, by decide, by decide, by decide +kernel⟩
theorem im_X12_readsCompared : Cond.instanceMethod yX12_readsCompared ∈ mm_tb := mm_tbI 1568 (by decide +kernel) rfl
theorem se_X12_readsCompared : Cond.selects RX12 yX12_readsCompared yX12_readsCompared ∈ mm_tb := mm_tbP 68 (q := (yX12_readsCompared, 68)) (by decide +kernel) rfl
abbrev Y_X12_readsCondition : mm_Y := (yX12_readsCondition, cX12_readsCondition, 1, some .boolean)
theorem mz_X12_readsCondition : mm_Z Y_X12_readsCondition 0 := ⟨mm_tbI 1565 (by decide +kernel) rfl, mm_tbI 14 (by decide +kernel) rfl, by decide, by decide, by decide +kernel⟩
theorem im_X12_readsCondition : Cond.instanceMethod yX12_readsCondition ∈ mm_tb := mm_tbI 1564 (by decide +kernel) rfl
theorem se_X12_readsCondition : Cond.selects RX12 yX12_readsCondition yX12_readsCondition ∈ mm_tb := mm_tbP 67 (q := (yX12_readsCondition, 68)) (by decide +kernel) rfl
abbrev Y_X12_readsFactor : mm_Y := (yX12_readsFactor, cX12_readsFactor, 2, some .boolean)
theorem mz_X12_readsFactor : mm_Z Y_X12_readsFactor 0 := ⟨mm_tbI 1530 (by decide +kernel) rfl, mm_tbI 14 (by decide +kernel) rfl, by decide, by decide, by decide +kernel⟩
theorem im_X12_readsFactor : Cond.instanceMethod yX12_readsFactor ∈ mm_tb := mm_tbI 1529 (by decide +kernel) rfl
theorem se_X12_readsFactor : Cond.selects RX12 yX12_readsFactor yX12_readsFactor ∈ mm_tb := mm_tbP 60 (q := (yX12_readsFactor, 68)) (by decide +kernel) rfl
abbrev Y_X12_readsHour : mm_Y := (yX12_readsHour, cX12_readsHour, 4, some .boolean)
theorem mz_X12_readsHour : mm_Z Y_X12_readsHour 2 := ⟨mm_tbI 1442 (by decide +kernel) rfl, mm_tbI 14 (by decide +kernel) rfl, by decide, by decide, by decide +kernel⟩
theorem im_X12_readsHour : Cond.instanceMethod yX12_readsHour ∈ mm_tb := mm_tbI 1441 (by decide +kernel) rfl
theorem se_X12_readsHour : Cond.selects RX12 yX12_readsHour yX12_readsHour ∈ mm_tb := mm_tbP 51 (q := (yX12_readsHour, 68)) (by decide +kernel) rfl
abbrev Y_X12_readsNumber : mm_Y := (yX12_readsNumber, cX12_readsNumber, 2, some .boolean)
theorem mz_X12_readsNumber : mm_Z Y_X12_readsNumber 0 := ⟨mm_tbI 1539 (by decide +kernel) rfl, mm_tbI 14 (by decide +kernel) rfl, by decide, by decide, by decide +kernel⟩
theorem im_X12_readsNumber : Cond.instanceMethod yX12_readsNumber ∈ mm_tb := mm_tbI 1538 (by decide +kernel) rfl
theorem se_X12_readsNumber : Cond.selects RX12 yX12_readsNumber yX12_readsNumber ∈ mm_tb := mm_tbP 62 (q := (yX12_readsNumber, 68)) (by decide +kernel) rfl
abbrev Y_X12_readsPart : mm_Y := (yX12_readsPart, cX12_readsPart, 7, some .boolean)
theorem mz_X12_readsPart : mm_Z Y_X12_readsPart 1 := ⟨mm_tbI 1418 (by decide +kernel) rfl, mm_tbI 14 (by decide +kernel) rfl, by decide, by decide, by decide +kernel⟩
theorem im_X12_readsPart : Cond.instanceMethod yX12_readsPart ∈ mm_tb := mm_tbI 1417 (by decide +kernel) rfl
theorem se_X12_readsPart : Cond.selects RX12 yX12_readsPart yX12_readsPart ∈ mm_tb := mm_tbP 45 (q := (yX12_readsPart, 68)) (by decide +kernel) rfl
abbrev Y_X12_readsSum : mm_Y := (yX12_readsSum, cX12_readsSum, 3, some .boolean)
theorem mz_X12_readsSum : mm_Z Y_X12_readsSum 0 := ⟨mm_tbI 1526 (by decide +kernel) rfl, mm_tbI 14 (by decide +kernel) rfl, by decide, by decide, by decide +kernel⟩
theorem im_X12_readsSum : Cond.instanceMethod yX12_readsSum ∈ mm_tb := mm_tbI 1525 (by decide +kernel) rfl
theorem se_X12_readsSum : Cond.selects RX12 yX12_readsSum yX12_readsSum ∈ mm_tb := mm_tbP 59 (q := (yX12_readsSum, 68)) (by decide +kernel) rfl
abbrev Y_X12_readsTwo : mm_Y := (yX12_readsTwo, cX12_readsTwo, 2, some .boolean)
theorem mz_X12_readsTwo : mm_Z Y_X12_readsTwo 0 := ⟨mm_tbI 1430 (by decide +kernel) rfl, mm_tbI 14 (by decide +kernel) rfl, by decide, by decide, by decide +kernel⟩
theorem im_X12_readsTwo : Cond.instanceMethod yX12_readsTwo ∈ mm_tb := mm_tbI 1429 (by decide +kernel) rfl
theorem se_X12_readsTwo : Cond.selects RX12 yX12_readsTwo yX12_readsTwo ∈ mm_tb := mm_tbP 48 (q := (yX12_readsTwo, 68)) (by decide +kernel) rfl
abbrev Y_X12_reckon : mm_Y := (yX12_reckon, cX12_reckon, 3, some .int)
theorem mz_X12_reckon : mm_Z Y_X12_reckon 3 := ⟨mm_tbI 1616 (by decide +kernel) rfl, mm_tbI 14 (by decide +kernel) rfl, by decide, by decide, by decide +kernel⟩
theorem sm_X12_reckon : Cond.static yX12_reckon ∈ mm_tb := mm_tbI 1615 (by decide +kernel) rfl
abbrev Y_X12_room : mm_Y := (yX12_room, cX12_room, 2, some .int)
abbrev Y_X12_rooms : mm_Y := (yX12_rooms, cX12_rooms, 7, some .int)
abbrev Y_X12_seed : mm_Y := (yX12_seed, cX12_seed, 2, some .boolean)
abbrev Y_X12_served : mm_Y := (yX12_served, cX12_served, 2, some .int)
abbrev Y_X12_serves : mm_Y := (yX12_serves, cX12_serves, 2, none)
theorem mz_X12_serves : mm_Z Y_X12_serves 0 := ⟨mm_tbI 1589 (by decide +kernel) rfl, mm_tbI 14 (by decide +kernel) rfl, by decide, by decide, by decide +kernel⟩
theorem im_X12_serves : Cond.instanceMethod yX12_serves ∈ mm_tb := mm_tbI 1588 (by decide +kernel) rfl
theorem se_X12_serves : Cond.selects RX12 yX12_serves yX12_serves ∈ mm_tb := mm_tbP 72 (q := (yX12_serves, 68)) (by decide +kernel) rfl
abbrev Y_X12_servesHour : mm_Y := (yX12_servesHour, cX12_servesHour, 4, none)
theorem mz_X12_servesHour : mm_Z Y_X12_servesHour 1 := ⟨mm_tbI 1620 (by decide +kernel) rfl, mm_tbI 14 (by decide +kernel) rfl, by decide, by decide, by decide +kernel⟩
theorem im_X12_servesHour : Cond.instanceMethod yX12_servesHour ∈ mm_tb := mm_tbI 1619 (by decide +kernel) rfl
theorem se_X12_servesHour : Cond.selects RX12 yX12_servesHour yX12_servesHour ∈ mm_tb := mm_tbP 79 (q := (yX12_servesHour, 68)) (by decide +kernel) rfl
abbrev Y_X12_shift : mm_Y := (yX12_shift, cX12_shift, 3, some .boolean)
abbrev Y_X12_shifting : mm_Y := (yX12_shifting, cX12_shifting, 9, some .int)
abbrev Y_X12_shiftsBy : mm_Y := (yX12_shiftsBy, cX12_shiftsBy, 7, some .int)
theorem mz_X12_shiftsBy : mm_Z Y_X12_shiftsBy 2 := ⟨mm_tbI 1706 (by decide +kernel) rfl, mm_tbI 14 (by decide +kernel) rfl, by decide, by decide, by decide +kernel⟩
theorem im_X12_shiftsBy : Cond.instanceMethod yX12_shiftsBy ∈ mm_tb := mm_tbI 1705 (by decide +kernel) rfl
theorem se_X12_shiftsBy : Cond.selects RX12 yX12_shiftsBy yX12_shiftsBy ∈ mm_tb := mm_tbP 91 (q := (yX12_shiftsBy, 68)) (by decide +kernel) rfl
abbrev Y_X12_size : mm_Y := (yX12_size, cX12_size, 1, some .int)
theorem mz_X12_size : mm_Z Y_X12_size 1 := ⟨mm_tbI 1709 (by decide +kernel) rfl, mm_tbI 14 (by decide +kernel) rfl, by decide, by decide, by decide +kernel⟩
theorem sm_X12_size : Cond.static yX12_size ∈ mm_tb := mm_tbI 1708 (by decide +kernel) rfl
abbrev Y_X12_smallest : mm_Y := (yX12_smallest, cX12_smallest, 3, some .int)
abbrev Y_X12_soonOf : mm_Y := (yX12_soonOf, cX12_soonOf, 3, some .int)
theorem mz_X12_soonOf : mm_Z Y_X12_soonOf 2 := ⟨mm_tbI 1601 (by decide +kernel) rfl, mm_tbI 14 (by decide +kernel) rfl, by decide, by decide, by decide +kernel⟩
theorem im_X12_soonOf : Cond.instanceMethod yX12_soonOf ∈ mm_tb := mm_tbI 1600 (by decide +kernel) rfl
theorem se_X12_soonOf : Cond.selects RX12 yX12_soonOf yX12_soonOf ∈ mm_tb := mm_tbP 75 (q := (yX12_soonOf, 68)) (by decide +kernel) rfl
abbrev Y_X12_startsDay : mm_Y := (yX12_startsDay, cX12_startsDay, 2, none)
theorem mz_X12_startsDay : mm_Z Y_X12_startsDay 0 := ⟨mm_tbI 1593 (by decide +kernel) rfl, mm_tbI 14 (by decide +kernel) rfl, by decide, by decide, by decide +kernel⟩
theorem im_X12_startsDay : Cond.instanceMethod yX12_startsDay ∈ mm_tb := mm_tbI 1592 (by decide +kernel) rfl
theorem se_X12_startsDay : Cond.selects RX12 yX12_startsDay yX12_startsDay ∈ mm_tb := mm_tbP 73 (q := (yX12_startsDay, 68)) (by decide +kernel) rfl
abbrev Y_X12_stay : mm_Y := (yX12_stay, cX12_stay, 5, some .boolean)
abbrev Y_X12_stayIn : mm_Y := (yX12_stayIn, cX12_stayIn, 3, some .int)
theorem mz_X12_stayIn : mm_Z Y_X12_stayIn 1 := ⟨mm_tbI 1490 (by decide +kernel) rfl, mm_tbI 14 (by decide +kernel) rfl, by decide, by decide, by decide +kernel⟩
theorem im_X12_stayIn : Cond.instanceMethod yX12_stayIn ∈ mm_tb := mm_tbI 1489 (by decide +kernel) rfl
theorem se_X12_stayIn : Cond.selects RX12 yX12_stayIn yX12_stayIn ∈ mm_tb := mm_tbP 54 (q := (yX12_stayIn, 68)) (by decide +kernel) rfl
abbrev Y_X12_sumSign : mm_Y := (yX12_sumSign, cX12_sumSign, 1, some .int)
theorem mz_X12_sumSign : mm_Z Y_X12_sumSign 1 := ⟨mm_tbI 1549 (by decide +kernel) rfl, mm_tbI 14 (by decide +kernel) rfl, by decide, by decide, by decide +kernel⟩
theorem sm_X12_sumSign : Cond.static yX12_sumSign ∈ mm_tb := mm_tbI 1548 (by decide +kernel) rfl
abbrev Y_X12_takes : mm_Y := (yX12_takes, cX12_takes, 2, some .boolean)
theorem mz_X12_takes : mm_Z Y_X12_takes 1 := ⟨mm_tbI 1438 (by decide +kernel) rfl, mm_tbI 14 (by decide +kernel) rfl, by decide, by decide, by decide +kernel⟩
theorem im_X12_takes : Cond.instanceMethod yX12_takes ∈ mm_tb := mm_tbI 1437 (by decide +kernel) rfl
theorem se_X12_takes : Cond.selects RX12 yX12_takes yX12_takes ∈ mm_tb := mm_tbP 50 (q := (yX12_takes, 68)) (by decide +kernel) rfl
abbrev Y_X12_takesRooms : mm_Y := (yX12_takesRooms, cX12_takesRooms, 7, some .boolean)
theorem mz_X12_takesRooms : mm_Z Y_X12_takesRooms 2 := ⟨mm_tbI 1683 (by decide +kernel) rfl, mm_tbI 14 (by decide +kernel) rfl, by decide, by decide, by decide +kernel⟩
theorem im_X12_takesRooms : Cond.instanceMethod yX12_takesRooms ∈ mm_tb := mm_tbI 1682 (by decide +kernel) rfl
theorem se_X12_takesRooms : Cond.selects RX12 yX12_takesRooms yX12_takesRooms ∈ mm_tb := mm_tbP 87 (q := (yX12_takesRooms, 68)) (by decide +kernel) rfl
abbrev Y_X12_tapeNumber : mm_Y := (yX12_tapeNumber, cX12_tapeNumber, 4, some .int)
theorem mz_X12_tapeNumber : mm_Z Y_X12_tapeNumber 1 := ⟨mm_tbI 1790 (by decide +kernel) rfl, mm_tbI 14 (by decide +kernel) rfl, by decide, by decide, by decide +kernel⟩
theorem im_X12_tapeNumber : Cond.instanceMethod yX12_tapeNumber ∈ mm_tb := mm_tbI 1789 (by decide +kernel) rfl
theorem se_X12_tapeNumber : Cond.selects RX12 yX12_tapeNumber yX12_tapeNumber ∈ mm_tb := mm_tbP 99 (q := (yX12_tapeNumber, 68)) (by decide +kernel) rfl
abbrev Y_X12_top : mm_Y := (yX12_top, cX12_top, 1, some .int)
theorem mz_X12_top : mm_Z Y_X12_top 0 := ⟨mm_tbI 1557 (by decide +kernel) rfl, mm_tbI 14 (by decide +kernel) rfl, by decide, by decide, by decide +kernel⟩
theorem im_X12_top : Cond.instanceMethod yX12_top ∈ mm_tb := mm_tbI 1556 (by decide +kernel) rfl
theorem se_X12_top : Cond.selects RX12 yX12_top yX12_top ∈ mm_tb := mm_tbP 65 (q := (yX12_top, 68)) (by decide +kernel) rfl
abbrev Y_X12_types : mm_Y := (yX12_types, cX12_types, 3, none)
theorem mz_X12_types : mm_Z Y_X12_types 1 := ⟨mm_tbI 1407 (by decide +kernel) rfl, mm_tbI 14 (by decide +kernel) rfl, by decide, by decide, by decide +kernel⟩
theorem im_X12_types : Cond.instanceMethod yX12_types ∈ mm_tb := mm_tbI 1406 (by decide +kernel) rfl
theorem se_X12_types : Cond.selects RX12 yX12_types yX12_types ∈ mm_tb := mm_tbP 44 (q := (yX12_types, 68)) (by decide +kernel) rfl
abbrev Y_X12_undo : mm_Y := (yX12_undo, cX12_undo, 1, some .boolean)
abbrev Y_X12_wantAll : mm_Y := (yX12_wantAll, cX12_wantAll, 6, some .int)
theorem mz_X12_wantAll : mm_Z Y_X12_wantAll 3 := ⟨mm_tbI 1510 (by decide +kernel) rfl, mm_tbI 14 (by decide +kernel) rfl, by decide, by decide, by decide +kernel⟩
theorem im_X12_wantAll : Cond.instanceMethod yX12_wantAll ∈ mm_tb := mm_tbI 1509 (by decide +kernel) rfl
theorem se_X12_wantAll : Cond.selects RX12 yX12_wantAll yX12_wantAll ∈ mm_tb := mm_tbP 56 (q := (yX12_wantAll, 68)) (by decide +kernel) rfl
abbrev Y_X12_wantOf : mm_Y := (yX12_wantOf, cX12_wantOf, 4, some .int)
theorem mz_X12_wantOf : mm_Z Y_X12_wantOf 3 := ⟨mm_tbI 1514 (by decide +kernel) rfl, mm_tbI 14 (by decide +kernel) rfl, by decide, by decide, by decide +kernel⟩
theorem im_X12_wantOf : Cond.instanceMethod yX12_wantOf ∈ mm_tb := mm_tbI 1513 (by decide +kernel) rfl
theorem se_X12_wantOf : Cond.selects RX12 yX12_wantOf yX12_wantOf ∈ mm_tb := mm_tbP 57 (q := (yX12_wantOf, 68)) (by decide +kernel) rfl
abbrev Y_X12_wants : mm_Y := (yX12_wants, cX12_wants, 3, some .int)
abbrev Y_X12_whyNot : mm_Y := (yX12_whyNot, cX12_whyNot, 6, some .int)
theorem mz_X12_whyNot : mm_Z Y_X12_whyNot 4 := ⟨mm_tbI 1644 (by decide +kernel) rfl, mm_tbI 14 (by decide +kernel) rfl, by decide, by decide, by decide +kernel⟩
theorem im_X12_whyNot : Cond.instanceMethod yX12_whyNot ∈ mm_tb := mm_tbI 1643 (by decide +kernel) rfl
theorem se_X12_whyNot : Cond.selects RX12 yX12_whyNot yX12_whyNot ∈ mm_tb := mm_tbP 83 (q := (yX12_whyNot, 68)) (by decide +kernel) rfl
abbrev Y_X12_wrongAt : mm_Y := (yX12_wrongAt, cX12_wrongAt, 3, some .boolean)
theorem mz_X12_wrongAt : mm_Z Y_X12_wrongAt 2 := ⟨mm_tbI 1426 (by decide +kernel) rfl, mm_tbI 14 (by decide +kernel) rfl, by decide, by decide, by decide +kernel⟩
theorem im_X12_wrongAt : Cond.instanceMethod yX12_wrongAt ∈ mm_tb := mm_tbI 1425 (by decide +kernel) rfl
theorem se_X12_wrongAt : Cond.selects RX12 yX12_wrongAt yX12_wrongAt ∈ mm_tb := mm_tbP 47 (q := (yX12_wrongAt, 68)) (by decide +kernel) rfl
abbrev Y_X1_changeRest : mm_Y := (yX1_changeRest, cX1_changeRest, 4, none)
theorem mz_X1_changeRest : mm_Z Y_X1_changeRest 2 := ⟨mm_tbI 1144 (by decide +kernel) rfl, mm_tbI 4 (by decide +kernel) rfl, by decide, by decide, by decide +kernel⟩
theorem im_X1_changeRest : Cond.instanceMethod yX1_changeRest ∈ mm_tb := mm_tbI 1143 (by decide +kernel) rfl
theorem se_X1_changeRest : Cond.selects RX1 yX1_changeRest yX1_changeRest ∈ mm_tb := mm_tbP 41 (q := (yX1_changeRest, 9)) (by decide +kernel) rfl
abbrev Y_X1_fillRow : mm_Y := (yX1_fillRow, cX1_fillRow, 5, none)
theorem mz_X1_fillRow : mm_Z Y_X1_fillRow 3 := ⟨mm_tbI 1127 (by decide +kernel) rfl, mm_tbI 4 (by decide +kernel) rfl, by decide, by decide, by decide +kernel⟩
theorem im_X1_fillRow : Cond.instanceMethod yX1_fillRow ∈ mm_tb := mm_tbI 1126 (by decide +kernel) rfl
theorem se_X1_fillRow : Cond.selects RX1 yX1_fillRow yX1_fillRow ∈ mm_tb := mm_tbP 37 (q := (yX1_fillRow, 9)) (by decide +kernel) rfl
abbrev Y_X1_isRestGone : mm_Y := (yX1_isRestGone, cX1_isRestGone, 2, some .boolean)
theorem mz_X1_isRestGone : mm_Z Y_X1_isRestGone 0 := ⟨mm_tbI 1131 (by decide +kernel) rfl, mm_tbI 4 (by decide +kernel) rfl, by decide, by decide, by decide +kernel⟩
theorem im_X1_isRestGone : Cond.instanceMethod yX1_isRestGone ∈ mm_tb := mm_tbI 1130 (by decide +kernel) rfl
theorem se_X1_isRestGone : Cond.selects RX1 yX1_isRestGone yX1_isRestGone ∈ mm_tb := mm_tbP 38 (q := (yX1_isRestGone, 9)) (by decide +kernel) rfl
abbrev Y_X1_isTold : mm_Y := (yX1_isTold, cX1_isTold, 2, some .boolean)
theorem mz_X1_isTold : mm_Z Y_X1_isTold 1 := ⟨mm_tbI 655 (by decide +kernel) rfl, mm_tbI 4 (by decide +kernel) rfl, by decide, by decide, by decide +kernel⟩
theorem im_X1_isTold : Cond.instanceMethod yX1_isTold ∈ mm_tb := mm_tbI 653 (by decide +kernel) rfl
theorem se_X1_isTold : Cond.selects RX1 yX1_isTold yX1_isTold ∈ mm_tb := mm_tbI 654 (by decide +kernel) rfl
abbrev Y_X1_isWithinRest : mm_Y := (yX1_isWithinRest, cX1_isWithinRest, 3, some .boolean)
theorem mz_X1_isWithinRest : mm_Z Y_X1_isWithinRest 1 := ⟨mm_tbI 1140 (by decide +kernel) rfl, mm_tbI 4 (by decide +kernel) rfl, by decide, by decide, by decide +kernel⟩
theorem im_X1_isWithinRest : Cond.instanceMethod yX1_isWithinRest ∈ mm_tb := mm_tbI 1139 (by decide +kernel) rfl
theorem se_X1_isWithinRest : Cond.selects RX1 yX1_isWithinRest yX1_isWithinRest ∈ mm_tb := mm_tbP 40 (q := (yX1_isWithinRest, 9)) (by decide +kernel) rfl
abbrev Y_X1_noteRow : mm_Y := (yX1_noteRow, cX1_noteRow, 4, none)
theorem mz_X1_noteRow : mm_Z Y_X1_noteRow 1 := ⟨mm_tbI 1135 (by decide +kernel) rfl, mm_tbI 4 (by decide +kernel) rfl, by decide, by decide, by decide +kernel⟩
theorem im_X1_noteRow : Cond.instanceMethod yX1_noteRow ∈ mm_tb := mm_tbI 1134 (by decide +kernel) rfl
theorem se_X1_noteRow : Cond.selects RX1 yX1_noteRow yX1_noteRow ∈ mm_tb := mm_tbP 39 (q := (yX1_noteRow, 9)) (by decide +kernel) rfl
abbrev Y_X1_readHour : mm_Y := (yX1_readHour, cX1_readHour, 5, some .int)
theorem mz_X1_readHour : mm_Z Y_X1_readHour 2 := ⟨mm_tbI 633 (by decide +kernel) rfl, mm_tbI 4 (by decide +kernel) rfl, by decide, by decide, by decide +kernel⟩
theorem im_X1_readHour : Cond.instanceMethod yX1_readHour ∈ mm_tb := mm_tbI 632 (by decide +kernel) rfl
theorem se_X1_readHour : Cond.selects RX1 yX1_readHour yX1_readHour ∈ mm_tb := mm_tbP 2 (q := (yX1_readHour, 9)) (by decide +kernel) rfl
abbrev Y_X1_readMeter : mm_Y := (yX1_readMeter, cX1_readMeter, 4, none)
theorem mz_X1_readMeter : mm_Z Y_X1_readMeter 2 := ⟨mm_tbI 1118 (by decide +kernel) rfl, mm_tbI 4 (by decide +kernel) rfl, by decide, by decide, by decide +kernel⟩
theorem im_X1_readMeter : Cond.instanceMethod yX1_readMeter ∈ mm_tb := mm_tbI 1116 (by decide +kernel) rfl
theorem se_X1_readMeter : Cond.selects RX1 yX1_readMeter yX1_readMeter ∈ mm_tb := mm_tbI 1117 (by decide +kernel) rfl
abbrev Y_X1_readPart : mm_Y := (yX1_readPart, cX1_readPart, 7, some .boolean)
theorem mz_X1_readPart : mm_Z Y_X1_readPart 1 := ⟨mm_tbI 518 (by decide +kernel) rfl, mm_tbI 4 (by decide +kernel) rfl, by decide, by decide, by decide +kernel⟩
theorem im_X1_readPart : Cond.instanceMethod yX1_readPart ∈ mm_tb := mm_tbI 517 (by decide +kernel) rfl
theorem se_X1_readPart : Cond.selects RX1 yX1_readPart yX1_readPart ∈ mm_tb := mm_tbP 1 (q := (yX1_readPart, 9)) (by decide +kernel) rfl
abbrev Y_X1_readParts : mm_Y := (yX1_readParts, cX1_readParts, 3, some .int)
theorem mz_X1_readParts : mm_Z Y_X1_readParts 1 := ⟨mm_tbI 502 (by decide +kernel) rfl, mm_tbI 4 (by decide +kernel) rfl, by decide, by decide, by decide +kernel⟩
theorem im_X1_readParts : Cond.instanceMethod yX1_readParts ∈ mm_tb := mm_tbI 501 (by decide +kernel) rfl
theorem se_X1_readParts : Cond.selects RX1 yX1_readParts yX1_readParts ∈ mm_tb := mm_tbP 0 (q := (yX1_readParts, 9)) (by decide +kernel) rfl
abbrev Y_X1_rowOf : mm_Y := (yX1_rowOf, cX1_rowOf, 2, some (.array .int))
theorem mz_X1_rowOf : mm_Z Y_X1_rowOf 1 := ⟨mm_tbI 662 (by decide +kernel) rfl, mm_tbI 4 (by decide +kernel) rfl, by decide, by decide, by decide +kernel⟩
theorem im_X1_rowOf : Cond.instanceMethod yX1_rowOf ∈ mm_tb := mm_tbI 660 (by decide +kernel) rfl
theorem se_X1_rowOf : Cond.selects RX1 yX1_rowOf yX1_rowOf ∈ mm_tb := mm_tbI 661 (by decide +kernel) rfl
abbrev Y_X1_tell : mm_Y := (yX1_tell, cX1_tell, 4, some .int)
theorem mz_X1_tell : mm_Z Y_X1_tell 2 := ⟨mm_tbI 498 (by decide +kernel) rfl, mm_tbI 4 (by decide +kernel) rfl, by decide, by decide, by decide +kernel⟩
theorem im_X1_tell : Cond.instanceMethod yX1_tell ∈ mm_tb := mm_tbI 496 (by decide +kernel) rfl
theorem se_X1_tell : Cond.selects RX1 yX1_tell yX1_tell ∈ mm_tb := mm_tbI 497 (by decide +kernel) rfl
abbrev Y_X2_afterInflow : mm_Y := (yX2_afterInflow, cX2_afterInflow, 2, some .int)
theorem mz_X2_afterInflow : mm_Z Y_X2_afterInflow 1 := ⟨mm_tbI 841 (by decide +kernel) rfl, mm_tbI 5 (by decide +kernel) rfl, by decide, by decide, by decide +kernel⟩
theorem im_X2_afterInflow : Cond.instanceMethod yX2_afterInflow ∈ mm_tb := mm_tbI 839 (by decide +kernel) rfl
theorem se_X2_afterInflow : Cond.selects RX2 yX2_afterInflow yX2_afterInflow ∈ mm_tb := mm_tbI 840 (by decide +kernel) rfl
abbrev Y_X3_addClause : mm_Y := (yX3_addClause, cX3_addClause, 4, none)
theorem mz_X3_addClause : mm_Z Y_X3_addClause 3 := ⟨mm_tbI 786 (by decide +kernel) rfl, mm_tbI 8 (by decide +kernel) rfl, by decide, by decide, by decide +kernel⟩
theorem im_X3_addClause : Cond.instanceMethod yX3_addClause ∈ mm_tb := mm_tbI 784 (by decide +kernel) rfl
theorem se_X3_addClause : Cond.selects RX3 yX3_addClause yX3_addClause ∈ mm_tb := mm_tbI 785 (by decide +kernel) rfl
abbrev Y_X3_addExit : mm_Y := (yX3_addExit, cX3_addExit, 3, some .int)
theorem mz_X3_addExit : mm_Z Y_X3_addExit 2 := ⟨mm_tbI 775 (by decide +kernel) rfl, mm_tbI 8 (by decide +kernel) rfl, by decide, by decide, by decide +kernel⟩
theorem im_X3_addExit : Cond.instanceMethod yX3_addExit ∈ mm_tb := mm_tbI 773 (by decide +kernel) rfl
theorem se_X3_addExit : Cond.selects RX3 yX3_addExit yX3_addExit ∈ mm_tb := mm_tbI 774 (by decide +kernel) rfl
abbrev Y_X3_addStep : mm_Y := (yX3_addStep, cX3_addStep, 3, none)
theorem mz_X3_addStep : mm_Z Y_X3_addStep 2 := ⟨mm_tbI 750 (by decide +kernel) rfl, mm_tbI 8 (by decide +kernel) rfl, by decide, by decide, by decide +kernel⟩
theorem im_X3_addStep : Cond.instanceMethod yX3_addStep ∈ mm_tb := mm_tbI 748 (by decide +kernel) rfl
theorem se_X3_addStep : Cond.selects RX3 yX3_addStep yX3_addStep ∈ mm_tb := mm_tbI 749 (by decide +kernel) rfl
abbrev Y_X3_answerBy : mm_Y := (yX3_answerBy, cX3_answerBy, 4, some .int)
theorem mz_X3_answerBy : mm_Z Y_X3_answerBy 1 := ⟨mm_tbI 860 (by decide +kernel) rfl, mm_tbI 8 (by decide +kernel) rfl, by decide, by decide, by decide +kernel⟩
theorem im_X3_answerBy : Cond.instanceMethod yX3_answerBy ∈ mm_tb := mm_tbI 858 (by decide +kernel) rfl
theorem se_X3_answerBy : Cond.selects RX3 yX3_answerBy yX3_answerBy ∈ mm_tb := mm_tbI 859 (by decide +kernel) rfl
abbrev Y_X3_askAbout : mm_Y := (yX3_askAbout, cX3_askAbout, 4, none)
theorem mz_X3_askAbout : mm_Z Y_X3_askAbout 3 := ⟨mm_tbI 852 (by decide +kernel) rfl, mm_tbI 8 (by decide +kernel) rfl, by decide, by decide, by decide +kernel⟩
theorem im_X3_askAbout : Cond.instanceMethod yX3_askAbout ∈ mm_tb := mm_tbI 850 (by decide +kernel) rfl
theorem se_X3_askAbout : Cond.selects RX3 yX3_askAbout yX3_askAbout ∈ mm_tb := mm_tbI 851 (by decide +kernel) rfl
abbrev Y_X3_askAt : mm_Y := (yX3_askAt, cX3_askAt, 5, none)
theorem mz_X3_askAt : mm_Z Y_X3_askAt 4 := ⟨mm_tbI 856 (by decide +kernel) rfl, mm_tbI 8 (by decide +kernel) rfl, by decide, by decide, by decide +kernel⟩
theorem im_X3_askAt : Cond.instanceMethod yX3_askAt ∈ mm_tb := mm_tbI 854 (by decide +kernel) rfl
theorem se_X3_askAt : Cond.selects RX3 yX3_askAt yX3_askAt ∈ mm_tb := mm_tbI 855 (by decide +kernel) rfl
abbrev Y_X3_clear : mm_Y := (yX3_clear, cX3_clear, 1, none)
theorem mz_X3_clear : mm_Z Y_X3_clear 0 := ⟨mm_tbI 720 (by decide +kernel) rfl, mm_tbI 8 (by decide +kernel) rfl, by decide, by decide, by decide +kernel⟩
theorem im_X3_clear : Cond.instanceMethod yX3_clear ∈ mm_tb := mm_tbI 718 (by decide +kernel) rfl
theorem se_X3_clear : Cond.selects RX3 yX3_clear yX3_clear ∈ mm_tb := mm_tbI 719 (by decide +kernel) rfl
abbrev Y_X3_copyFrom : mm_Y := (yX3_copyFrom, cX3_copyFrom, 2, none)
theorem mz_X3_copyFrom : mm_Z Y_X3_copyFrom 1 := ⟨mm_tbI 791 (by decide +kernel) rfl, mm_tbI 8 (by decide +kernel) rfl, by decide, by decide, by decide +kernel⟩
theorem im_X3_copyFrom : Cond.instanceMethod yX3_copyFrom ∈ mm_tb := mm_tbI 789 (by decide +kernel) rfl
theorem se_X3_copyFrom : Cond.selects RX3 yX3_copyFrom yX3_copyFrom ∈ mm_tb := mm_tbI 790 (by decide +kernel) rfl
abbrev Y_X3_endExit : mm_Y := (yX3_endExit, cX3_endExit, 2, none)
theorem mz_X3_endExit : mm_Z Y_X3_endExit 1 := ⟨mm_tbI 779 (by decide +kernel) rfl, mm_tbI 8 (by decide +kernel) rfl, by decide, by decide, by decide +kernel⟩
theorem im_X3_endExit : Cond.instanceMethod yX3_endExit ∈ mm_tb := mm_tbI 777 (by decide +kernel) rfl
theorem se_X3_endExit : Cond.selects RX3 yX3_endExit yX3_endExit ∈ mm_tb := mm_tbI 778 (by decide +kernel) rfl
abbrev Y_X3_join : mm_Y := (yX3_join, cX3_join, 4, some .int)
theorem mz_X3_join : mm_Z Y_X3_join 3 := ⟨mm_tbI 877 (by decide +kernel) rfl, mm_tbI 8 (by decide +kernel) rfl, by decide, by decide, by decide +kernel⟩
theorem im_X3_join : Cond.instanceMethod yX3_join ∈ mm_tb := mm_tbI 876 (by decide +kernel) rfl
theorem se_X3_join : Cond.selects RX3 yX3_join yX3_join ∈ mm_tb := mm_tbP 18 (q := (yX3_join, 12)) (by decide +kernel) rfl
abbrev Y_X3_pop : mm_Y := (yX3_pop, cX3_pop, 1, some .int)
theorem mz_X3_pop : mm_Z Y_X3_pop 0 := ⟨mm_tbI 872 (by decide +kernel) rfl, mm_tbI 8 (by decide +kernel) rfl, by decide, by decide, by decide +kernel⟩
theorem im_X3_pop : Cond.instanceMethod yX3_pop ∈ mm_tb := mm_tbI 871 (by decide +kernel) rfl
theorem se_X3_pop : Cond.selects RX3 yX3_pop yX3_pop ∈ mm_tb := mm_tbP 17 (q := (yX3_pop, 12)) (by decide +kernel) rfl
abbrev Y_X3_push : mm_Y := (yX3_push, cX3_push, 2, none)
theorem mz_X3_push : mm_Z Y_X3_push 1 := ⟨mm_tbI 868 (by decide +kernel) rfl, mm_tbI 8 (by decide +kernel) rfl, by decide, by decide, by decide +kernel⟩
theorem im_X3_push : Cond.instanceMethod yX3_push ∈ mm_tb := mm_tbI 867 (by decide +kernel) rfl
theorem se_X3_push : Cond.selects RX3 yX3_push yX3_push ∈ mm_tb := mm_tbP 16 (q := (yX3_push, 12)) (by decide +kernel) rfl
abbrev Y_X3_reckon : mm_Y := (yX3_reckon, cX3_reckon, 6, some .int)
theorem mz_X3_reckon : mm_Z Y_X3_reckon 2 := ⟨mm_tbI 864 (by decide +kernel) rfl, mm_tbI 8 (by decide +kernel) rfl, by decide, by decide, by decide +kernel⟩
theorem im_X3_reckon : Cond.instanceMethod yX3_reckon ∈ mm_tb := mm_tbI 863 (by decide +kernel) rfl
theorem se_X3_reckon : Cond.selects RX3 yX3_reckon yX3_reckon ∈ mm_tb := mm_tbP 15 (q := (yX3_reckon, 12)) (by decide +kernel) rfl
abbrev Y_X4_mayOpen : mm_Y := (yX4_mayOpen, cX4_mayOpen, 2, some .boolean)
theorem mz_X4_mayOpen : mm_Z Y_X4_mayOpen 1 := ⟨mm_tbI 744 (by decide +kernel) rfl, mm_tbI 9 (by decide +kernel) rfl, by decide, by decide, by decide +kernel⟩
theorem im_X4_mayOpen : Cond.instanceMethod yX4_mayOpen ∈ mm_tb := mm_tbI 743 (by decide +kernel) rfl
theorem se_X4_mayOpen : Cond.selects RX4 yX4_mayOpen yX4_mayOpen ∈ mm_tb := mm_tbP 7 (q := (yX4_mayOpen, 2)) (by decide +kernel) rfl
abbrev Y_X4_read : mm_Y := (yX4_read, cX4_read, 3, some .int)
theorem mz_X4_read : mm_Z Y_X4_read 1 := ⟨mm_tbI 715 (by decide +kernel) rfl, mm_tbI 9 (by decide +kernel) rfl, by decide, by decide, by decide +kernel⟩
theorem im_X4_read : Cond.instanceMethod yX4_read ∈ mm_tb := mm_tbI 713 (by decide +kernel) rfl
theorem se_X4_read : Cond.selects RX4 yX4_read yX4_read ∈ mm_tb := mm_tbI 714 (by decide +kernel) rfl
abbrev Y_X4_readClause : mm_Y := (yX4_readClause, cX4_readClause, 5, some .boolean)
theorem mz_X4_readClause : mm_Z Y_X4_readClause 1 := ⟨mm_tbI 724 (by decide +kernel) rfl, mm_tbI 9 (by decide +kernel) rfl, by decide, by decide, by decide +kernel⟩
theorem im_X4_readClause : Cond.instanceMethod yX4_readClause ∈ mm_tb := mm_tbI 723 (by decide +kernel) rfl
theorem se_X4_readClause : Cond.selects RX4 yX4_readClause yX4_readClause ∈ mm_tb := mm_tbP 3 (q := (yX4_readClause, 2)) (by decide +kernel) rfl
abbrev Y_X4_readComparison : mm_Y := (yX4_readComparison, cX4_readComparison, 3, some .boolean)
theorem mz_X4_readComparison : mm_Z Y_X4_readComparison 1 := ⟨mm_tbI 770 (by decide +kernel) rfl, mm_tbI 9 (by decide +kernel) rfl, by decide, by decide, by decide +kernel⟩
theorem im_X4_readComparison : Cond.instanceMethod yX4_readComparison ∈ mm_tb := mm_tbI 769 (by decide +kernel) rfl
theorem se_X4_readComparison : Cond.selects RX4 yX4_readComparison yX4_readComparison ∈ mm_tb := mm_tbP 11 (q := (yX4_readComparison, 2)) (by decide +kernel) rfl
abbrev Y_X4_readCondition : mm_Y := (yX4_readCondition, cX4_readCondition, 4, some .boolean)
theorem mz_X4_readCondition : mm_Z Y_X4_readCondition 1 := ⟨mm_tbI 758 (by decide +kernel) rfl, mm_tbI 9 (by decide +kernel) rfl, by decide, by decide, by decide +kernel⟩
theorem im_X4_readCondition : Cond.instanceMethod yX4_readCondition ∈ mm_tb := mm_tbI 757 (by decide +kernel) rfl
theorem se_X4_readCondition : Cond.selects RX4 yX4_readCondition yX4_readCondition ∈ mm_tb := mm_tbP 8 (q := (yX4_readCondition, 2)) (by decide +kernel) rfl
abbrev Y_X4_readFactor : mm_Y := (yX4_readFactor, cX4_readFactor, 4, some .boolean)
theorem mz_X4_readFactor : mm_Z Y_X4_readFactor 1 := ⟨mm_tbI 740 (by decide +kernel) rfl, mm_tbI 9 (by decide +kernel) rfl, by decide, by decide, by decide +kernel⟩
theorem im_X4_readFactor : Cond.instanceMethod yX4_readFactor ∈ mm_tb := mm_tbI 739 (by decide +kernel) rfl
theorem se_X4_readFactor : Cond.selects RX4 yX4_readFactor yX4_readFactor ∈ mm_tb := mm_tbP 6 (q := (yX4_readFactor, 2)) (by decide +kernel) rfl
abbrev Y_X4_readPiece : mm_Y := (yX4_readPiece, cX4_readPiece, 2, some .boolean)
theorem mz_X4_readPiece : mm_Z Y_X4_readPiece 1 := ⟨mm_tbI 766 (by decide +kernel) rfl, mm_tbI 9 (by decide +kernel) rfl, by decide, by decide, by decide +kernel⟩
theorem im_X4_readPiece : Cond.instanceMethod yX4_readPiece ∈ mm_tb := mm_tbI 765 (by decide +kernel) rfl
theorem se_X4_readPiece : Cond.selects RX4 yX4_readPiece yX4_readPiece ∈ mm_tb := mm_tbP 10 (q := (yX4_readPiece, 2)) (by decide +kernel) rfl
abbrev Y_X4_readPieces : mm_Y := (yX4_readPieces, cX4_readPieces, 4, some .boolean)
theorem mz_X4_readPieces : mm_Z Y_X4_readPieces 1 := ⟨mm_tbI 762 (by decide +kernel) rfl, mm_tbI 9 (by decide +kernel) rfl, by decide, by decide, by decide +kernel⟩
theorem im_X4_readPieces : Cond.instanceMethod yX4_readPieces ∈ mm_tb := mm_tbI 761 (by decide +kernel) rfl
theorem se_X4_readPieces : Cond.selects RX4 yX4_readPieces yX4_readPieces ∈ mm_tb := mm_tbP 9 (q := (yX4_readPieces, 2)) (by decide +kernel) rfl
abbrev Y_X4_readSum : mm_Y := (yX4_readSum, cX4_readSum, 4, some .boolean)
theorem mz_X4_readSum : mm_Z Y_X4_readSum 1 := ⟨mm_tbI 732 (by decide +kernel) rfl, mm_tbI 9 (by decide +kernel) rfl, by decide, by decide, by decide +kernel⟩
theorem im_X4_readSum : Cond.instanceMethod yX4_readSum ∈ mm_tb := mm_tbI 731 (by decide +kernel) rfl
theorem se_X4_readSum : Cond.selects RX4 yX4_readSum yX4_readSum ∈ mm_tb := mm_tbP 4 (q := (yX4_readSum, 2)) (by decide +kernel) rfl
abbrev Y_X4_readTerm : mm_Y := (yX4_readTerm, cX4_readTerm, 4, some .boolean)
theorem mz_X4_readTerm : mm_Z Y_X4_readTerm 1 := ⟨mm_tbI 736 (by decide +kernel) rfl, mm_tbI 9 (by decide +kernel) rfl, by decide, by decide, by decide +kernel⟩
theorem im_X4_readTerm : Cond.instanceMethod yX4_readTerm ∈ mm_tb := mm_tbI 735 (by decide +kernel) rfl
theorem se_X4_readTerm : Cond.selects RX4 yX4_readTerm yX4_readTerm ∈ mm_tb := mm_tbP 5 (q := (yX4_readTerm, 2)) (by decide +kernel) rfl
abbrev Y_X5_begin : mm_Y := (yX5_begin, cX5_begin, 2, none)
theorem mz_X5_begin : mm_Z Y_X5_begin 0 := ⟨mm_tbI 800 (by decide +kernel) rfl, mm_tbI 10 (by decide +kernel) rfl, by decide, by decide, by decide +kernel⟩
theorem im_X5_begin : Cond.instanceMethod yX5_begin ∈ mm_tb := mm_tbI 798 (by decide +kernel) rfl
theorem se_X5_begin : Cond.selects RX5 yX5_begin yX5_begin ∈ mm_tb := mm_tbI 799 (by decide +kernel) rfl
abbrev Y_X5_causeAt : mm_Y := (yX5_causeAt, cX5_causeAt, 5, some .int)
theorem mz_X5_causeAt : mm_Z Y_X5_causeAt 3 := ⟨mm_tbI 929 (by decide +kernel) rfl, mm_tbI 10 (by decide +kernel) rfl, by decide, by decide, by decide +kernel⟩
theorem im_X5_causeAt : Cond.instanceMethod yX5_causeAt ∈ mm_tb := mm_tbI 928 (by decide +kernel) rfl
theorem se_X5_causeAt : Cond.selects RX5 yX5_causeAt yX5_causeAt ∈ mm_tb := mm_tbP 24 (q := (yX5_causeAt, 10)) (by decide +kernel) rfl
abbrev Y_X5_change : mm_Y := (yX5_change, cX5_change, 6, none)
theorem mz_X5_change : mm_Z Y_X5_change 2 := ⟨mm_tbI 823 (by decide +kernel) rfl, mm_tbI 10 (by decide +kernel) rfl, by decide, by decide, by decide +kernel⟩
theorem im_X5_change : Cond.instanceMethod yX5_change ∈ mm_tb := mm_tbI 822 (by decide +kernel) rfl
theorem se_X5_change : Cond.selects RX5 yX5_change yX5_change ∈ mm_tb := mm_tbP 12 (q := (yX5_change, 10)) (by decide +kernel) rfl
abbrev Y_X5_exclude : mm_Y := (yX5_exclude, cX5_exclude, 2, none)
theorem mz_X5_exclude : mm_Z Y_X5_exclude 1 := ⟨mm_tbI 1001 (by decide +kernel) rfl, mm_tbI 10 (by decide +kernel) rfl, by decide, by decide, by decide +kernel⟩
theorem im_X5_exclude : Cond.instanceMethod yX5_exclude ∈ mm_tb := mm_tbI 999 (by decide +kernel) rfl
theorem se_X5_exclude : Cond.selects RX5 yX5_exclude yX5_exclude ∈ mm_tb := mm_tbI 1000 (by decide +kernel) rfl
abbrev Y_X5_fits : mm_Y := (yX5_fits, cX5_fits, 1, some .boolean)
theorem mz_X5_fits : mm_Z Y_X5_fits 0 := ⟨mm_tbI 920 (by decide +kernel) rfl, mm_tbI 10 (by decide +kernel) rfl, by decide, by decide, by decide +kernel⟩
theorem im_X5_fits : Cond.instanceMethod yX5_fits ∈ mm_tb := mm_tbI 918 (by decide +kernel) rfl
theorem se_X5_fits : Cond.selects RX5 yX5_fits yX5_fits ∈ mm_tb := mm_tbI 919 (by decide +kernel) rfl
abbrev Y_X5_fitsButForPlant : mm_Y := (yX5_fitsButForPlant, cX5_fitsButForPlant, 1, some .boolean)
theorem mz_X5_fitsButForPlant : mm_Z Y_X5_fitsButForPlant 0 := ⟨mm_tbI 1052 (by decide +kernel) rfl, mm_tbI 10 (by decide +kernel) rfl, by decide, by decide, by decide +kernel⟩
theorem im_X5_fitsButForPlant : Cond.instanceMethod yX5_fitsButForPlant ∈ mm_tb := mm_tbI 1050 (by decide +kernel) rfl
theorem se_X5_fitsButForPlant : Cond.selects RX5 yX5_fitsButForPlant yX5_fitsButForPlant ∈ mm_tb := mm_tbI 1051 (by decide +kernel) rfl
abbrev Y_X5_fitsFrom : mm_Y := (yX5_fitsFrom, cX5_fitsFrom, 5, some .boolean)
theorem mz_X5_fitsFrom : mm_Z Y_X5_fitsFrom 1 := ⟨mm_tbI 924 (by decide +kernel) rfl, mm_tbI 10 (by decide +kernel) rfl, by decide, by decide, by decide +kernel⟩
theorem im_X5_fitsFrom : Cond.instanceMethod yX5_fitsFrom ∈ mm_tb := mm_tbI 923 (by decide +kernel) rfl
theorem se_X5_fitsFrom : Cond.selects RX5 yX5_fitsFrom yX5_fitsFrom ∈ mm_tb := mm_tbP 23 (q := (yX5_fitsFrom, 10)) (by decide +kernel) rfl
abbrev Y_X5_include : mm_Y := (yX5_include, cX5_include, 2, none)
theorem mz_X5_include : mm_Z Y_X5_include 1 := ⟨mm_tbI 995 (by decide +kernel) rfl, mm_tbI 10 (by decide +kernel) rfl, by decide, by decide, by decide +kernel⟩
theorem im_X5_include : Cond.instanceMethod yX5_include ∈ mm_tb := mm_tbI 993 (by decide +kernel) rfl
theorem se_X5_include : Cond.selects RX5 yX5_include yX5_include ∈ mm_tb := mm_tbI 994 (by decide +kernel) rfl
abbrev Y_X5_peakOf : mm_Y := (yX5_peakOf, cX5_peakOf, 4, some .int)
theorem mz_X5_peakOf : mm_Z Y_X5_peakOf 1 := ⟨mm_tbI 1046 (by decide +kernel) rfl, mm_tbI 10 (by decide +kernel) rfl, by decide, by decide, by decide +kernel⟩
theorem im_X5_peakOf : Cond.instanceMethod yX5_peakOf ∈ mm_tb := mm_tbI 1044 (by decide +kernel) rfl
theorem se_X5_peakOf : Cond.selects RX5 yX5_peakOf yX5_peakOf ∈ mm_tb := mm_tbI 1045 (by decide +kernel) rfl
abbrev Y_X5_setFloor : mm_Y := (yX5_setFloor, cX5_setFloor, 3, none)
theorem mz_X5_setFloor : mm_Z Y_X5_setFloor 2 := ⟨mm_tbI 806 (by decide +kernel) rfl, mm_tbI 10 (by decide +kernel) rfl, by decide, by decide, by decide +kernel⟩
theorem im_X5_setFloor : Cond.instanceMethod yX5_setFloor ∈ mm_tb := mm_tbI 804 (by decide +kernel) rfl
theorem se_X5_setFloor : Cond.selects RX5 yX5_setFloor yX5_setFloor ∈ mm_tb := mm_tbI 805 (by decide +kernel) rfl
abbrev Y_X5_setShift : mm_Y := (yX5_setShift, cX5_setShift, 7, none)
theorem mz_X5_setShift : mm_Z Y_X5_setShift 2 := ⟨mm_tbI 810 (by decide +kernel) rfl, mm_tbI 10 (by decide +kernel) rfl, by decide, by decide, by decide +kernel⟩
theorem im_X5_setShift : Cond.instanceMethod yX5_setShift ∈ mm_tb := mm_tbI 808 (by decide +kernel) rfl
theorem se_X5_setShift : Cond.selects RX5 yX5_setShift yX5_setShift ∈ mm_tb := mm_tbI 809 (by decide +kernel) rfl
abbrev Y_X5_throughPipes : mm_Y := (yX5_throughPipes, cX5_throughPipes, 4, some .int)
theorem mz_X5_throughPipes : mm_Z Y_X5_throughPipes 1 := ⟨mm_tbI 1090 (by decide +kernel) rfl, mm_tbI 10 (by decide +kernel) rfl, by decide, by decide, by decide +kernel⟩
theorem im_X5_throughPipes : Cond.instanceMethod yX5_throughPipes ∈ mm_tb := mm_tbI 1088 (by decide +kernel) rfl
theorem se_X5_throughPipes : Cond.selects RX5 yX5_throughPipes yX5_throughPipes ∈ mm_tb := mm_tbI 1089 (by decide +kernel) rfl
abbrev Y_X5_turnTo : mm_Y := (yX5_turnTo, cX5_turnTo, 4, none)
theorem mz_X5_turnTo : mm_Z Y_X5_turnTo 1 := ⟨mm_tbI 818 (by decide +kernel) rfl, mm_tbI 10 (by decide +kernel) rfl, by decide, by decide, by decide +kernel⟩
theorem im_X5_turnTo : Cond.instanceMethod yX5_turnTo ∈ mm_tb := mm_tbI 816 (by decide +kernel) rfl
theorem se_X5_turnTo : Cond.selects RX5 yX5_turnTo yX5_turnTo ∈ mm_tb := mm_tbI 817 (by decide +kernel) rfl
abbrev Y_X6_findRooms : mm_Y := (yX6_findRooms, cX6_findRooms, 3, some .boolean)
theorem mz_X6_findRooms : mm_Z Y_X6_findRooms 2 := ⟨mm_tbI 984 (by decide +kernel) rfl, mm_tbI 13 (by decide +kernel) rfl, by decide, by decide, by decide +kernel⟩
theorem im_X6_findRooms : Cond.instanceMethod yX6_findRooms ∈ mm_tb := mm_tbI 982 (by decide +kernel) rfl
theorem se_X6_findRooms : Cond.selects RX6 yX6_findRooms yX6_findRooms ∈ mm_tb := mm_tbI 983 (by decide +kernel) rfl
abbrev Y_X6_findRoomsFrom : mm_Y := (yX6_findRoomsFrom, cX6_findRoomsFrom, 6, some .boolean)
theorem mz_X6_findRoomsFrom : mm_Z Y_X6_findRoomsFrom 2 := ⟨mm_tbI 989 (by decide +kernel) rfl, mm_tbI 13 (by decide +kernel) rfl, by decide, by decide, by decide +kernel⟩
theorem im_X6_findRoomsFrom : Cond.instanceMethod yX6_findRoomsFrom ∈ mm_tb := mm_tbI 988 (by decide +kernel) rfl
theorem se_X6_findRoomsFrom : Cond.selects RX6 yX6_findRoomsFrom yX6_findRoomsFrom ∈ mm_tb := mm_tbP 27 (q := (yX6_findRoomsFrom, 9)) (by decide +kernel) rfl
abbrev Y_X6_findShifts : mm_Y := (yX6_findShifts, cX6_findShifts, 3, some .boolean)
theorem mz_X6_findShifts : mm_Z Y_X6_findShifts 2 := ⟨mm_tbI 1013 (by decide +kernel) rfl, mm_tbI 13 (by decide +kernel) rfl, by decide, by decide, by decide +kernel⟩
theorem im_X6_findShifts : Cond.instanceMethod yX6_findShifts ∈ mm_tb := mm_tbI 1011 (by decide +kernel) rfl
theorem se_X6_findShifts : Cond.selects RX6 yX6_findShifts yX6_findShifts ∈ mm_tb := mm_tbI 1012 (by decide +kernel) rfl
abbrev Y_X6_findShiftsFrom : mm_Y := (yX6_findShiftsFrom, cX6_findShiftsFrom, 6, none)
theorem mz_X6_findShiftsFrom : mm_Z Y_X6_findShiftsFrom 2 := ⟨mm_tbI 1017 (by decide +kernel) rfl, mm_tbI 13 (by decide +kernel) rfl, by decide, by decide, by decide +kernel⟩
theorem im_X6_findShiftsFrom : Cond.instanceMethod yX6_findShiftsFrom ∈ mm_tb := mm_tbI 1016 (by decide +kernel) rfl
theorem se_X6_findShiftsFrom : Cond.selects RX6 yX6_findShiftsFrom yX6_findShiftsFrom ∈ mm_tb := mm_tbP 28 (q := (yX6_findShiftsFrom, 9)) (by decide +kernel) rfl
abbrev Y_X6_moveIn : mm_Y := (yX6_moveIn, cX6_moveIn, 3, none)
theorem mz_X6_moveIn : mm_Z Y_X6_moveIn 1 := ⟨mm_tbI 1005 (by decide +kernel) rfl, mm_tbI 13 (by decide +kernel) rfl, by decide, by decide, by decide +kernel⟩
theorem im_X6_moveIn : Cond.instanceMethod yX6_moveIn ∈ mm_tb := mm_tbI 1003 (by decide +kernel) rfl
theorem se_X6_moveIn : Cond.selects RX6 yX6_moveIn yX6_moveIn ∈ mm_tb := mm_tbI 1004 (by decide +kernel) rfl
abbrev Y_X6_shiftAll : mm_Y := (yX6_shiftAll, cX6_shiftAll, 3, none)
theorem mz_X6_shiftAll : mm_Z Y_X6_shiftAll 1 := ⟨mm_tbI 1026 (by decide +kernel) rfl, mm_tbI 13 (by decide +kernel) rfl, by decide, by decide, by decide +kernel⟩
theorem im_X6_shiftAll : Cond.instanceMethod yX6_shiftAll ∈ mm_tb := mm_tbI 1024 (by decide +kernel) rfl
theorem se_X6_shiftAll : Cond.selects RX6 yX6_shiftAll yX6_shiftAll ∈ mm_tb := mm_tbI 1025 (by decide +kernel) rfl
abbrev Y_X7_copyFrom : mm_Y := (yX7_copyFrom, cX7_copyFrom, 2, none)
theorem mz_X7_copyFrom : mm_Z Y_X7_copyFrom 1 := ⟨mm_tbI 1166 (by decide +kernel) rfl, mm_tbI 7 (by decide +kernel) rfl, by decide, by decide, by decide +kernel⟩
theorem im_X7_copyFrom : Cond.instanceMethod yX7_copyFrom ∈ mm_tb := mm_tbI 1164 (by decide +kernel) rfl
theorem se_X7_copyFrom : Cond.selects RX7 yX7_copyFrom yX7_copyFrom ∈ mm_tb := mm_tbI 1165 (by decide +kernel) rfl
abbrev Y_X7_has : mm_Y := (yX7_has, cX7_has, 2, some .boolean)
theorem mz_X7_has : mm_Z Y_X7_has 1 := ⟨mm_tbI 693 (by decide +kernel) rfl, mm_tbI 7 (by decide +kernel) rfl, by decide, by decide, by decide +kernel⟩
theorem im_X7_has : Cond.instanceMethod yX7_has ∈ mm_tb := mm_tbI 691 (by decide +kernel) rfl
theorem se_X7_has : Cond.selects RX7 yX7_has yX7_has ∈ mm_tb := mm_tbI 692 (by decide +kernel) rfl
abbrev Y_X7_holderOf : mm_Y := (yX7_holderOf, cX7_holderOf, 3, some .int)
theorem mz_X7_holderOf : mm_Z Y_X7_holderOf 1 := ⟨mm_tbI 689 (by decide +kernel) rfl, mm_tbI 7 (by decide +kernel) rfl, by decide, by decide, by decide +kernel⟩
theorem im_X7_holderOf : Cond.instanceMethod yX7_holderOf ∈ mm_tb := mm_tbI 687 (by decide +kernel) rfl
theorem se_X7_holderOf : Cond.selects RX7 yX7_holderOf yX7_holderOf ∈ mm_tb := mm_tbI 688 (by decide +kernel) rfl
abbrev Y_X7_pricesOf : mm_Y := (yX7_pricesOf, cX7_pricesOf, 4, some .int)
theorem mz_X7_pricesOf : mm_Z Y_X7_pricesOf 1 := ⟨mm_tbI 942 (by decide +kernel) rfl, mm_tbI 7 (by decide +kernel) rfl, by decide, by decide, by decide +kernel⟩
theorem im_X7_pricesOf : Cond.instanceMethod yX7_pricesOf ∈ mm_tb := mm_tbI 940 (by decide +kernel) rfl
theorem se_X7_pricesOf : Cond.selects RX7 yX7_pricesOf yX7_pricesOf ∈ mm_tb := mm_tbI 941 (by decide +kernel) rfl
abbrev Y_X7_write : mm_Y := (yX7_write, cX7_write, 5, none)
theorem mz_X7_write : mm_Z Y_X7_write 4 := ⟨mm_tbI 698 (by decide +kernel) rfl, mm_tbI 7 (by decide +kernel) rfl, by decide, by decide, by decide +kernel⟩
theorem im_X7_write : Cond.instanceMethod yX7_write ∈ mm_tb := mm_tbI 696 (by decide +kernel) rfl
theorem se_X7_write : Cond.selects RX7 yX7_write yX7_write ∈ mm_tb := mm_tbI 697 (by decide +kernel) rfl
abbrev Y_X8_chooseNext : mm_Y := (yX8_chooseNext, cX8_chooseNext, 6, none)
theorem mz_X8_chooseNext : mm_Z Y_X8_chooseNext 2 := ⟨mm_tbI 1096 (by decide +kernel) rfl, mm_tbI 12 (by decide +kernel) rfl, by decide, by decide, by decide +kernel⟩
theorem im_X8_chooseNext : Cond.instanceMethod yX8_chooseNext ∈ mm_tb := mm_tbI 1095 (by decide +kernel) rfl
theorem se_X8_chooseNext : Cond.selects RX8 yX8_chooseNext yX8_chooseNext ∈ mm_tb := mm_tbP 34 (q := (yX8_chooseNext, 15)) (by decide +kernel) rfl
abbrev Y_X8_droughtStayAt : mm_Y := (yX8_droughtStayAt, cX8_droughtStayAt, 4, some .int)
theorem mz_X8_droughtStayAt : mm_Z Y_X8_droughtStayAt 1 := ⟨mm_tbI 1110 (by decide +kernel) rfl, mm_tbI 12 (by decide +kernel) rfl, by decide, by decide, by decide +kernel⟩
theorem im_X8_droughtStayAt : Cond.instanceMethod yX8_droughtStayAt ∈ mm_tb := mm_tbI 1108 (by decide +kernel) rfl
theorem se_X8_droughtStayAt : Cond.selects RX8 yX8_droughtStayAt yX8_droughtStayAt ∈ mm_tb := mm_tbI 1109 (by decide +kernel) rfl
abbrev Y_X8_giveRain : mm_Y := (yX8_giveRain, cX8_giveRain, 4, some .int)
theorem mz_X8_giveRain : mm_Z Y_X8_giveRain 2 := ⟨mm_tbI 886 (by decide +kernel) rfl, mm_tbI 12 (by decide +kernel) rfl, by decide, by decide, by decide +kernel⟩
theorem im_X8_giveRain : Cond.instanceMethod yX8_giveRain ∈ mm_tb := mm_tbI 885 (by decide +kernel) rfl
theorem se_X8_giveRain : Cond.selects RX8 yX8_giveRain yX8_giveRain ∈ mm_tb := mm_tbP 20 (q := (yX8_giveRain, 15)) (by decide +kernel) rfl
abbrev Y_X8_harmBehind : mm_Y := (yX8_harmBehind, cX8_harmBehind, 6, some .int)
theorem mz_X8_harmBehind : mm_Z Y_X8_harmBehind 1 := ⟨mm_tbI 1101 (by decide +kernel) rfl, mm_tbI 12 (by decide +kernel) rfl, by decide, by decide, by decide +kernel⟩
theorem im_X8_harmBehind : Cond.instanceMethod yX8_harmBehind ∈ mm_tb := mm_tbI 1100 (by decide +kernel) rfl
theorem se_X8_harmBehind : Cond.selects RX8 yX8_harmBehind yX8_harmBehind ∈ mm_tb := mm_tbP 35 (q := (yX8_harmBehind, 15)) (by decide +kernel) rfl
abbrev Y_X8_harmOf : mm_Y := (yX8_harmOf, cX8_harmOf, 4, some .int)
theorem mz_X8_harmOf : mm_Z Y_X8_harmOf 3 := ⟨mm_tbI 891 (by decide +kernel) rfl, mm_tbI 12 (by decide +kernel) rfl, by decide, by decide, by decide +kernel⟩
theorem im_X8_harmOf : Cond.instanceMethod yX8_harmOf ∈ mm_tb := mm_tbI 890 (by decide +kernel) rfl
theorem se_X8_harmOf : Cond.selects RX8 yX8_harmOf yX8_harmOf ∈ mm_tb := mm_tbP 21 (q := (yX8_harmOf, 15)) (by decide +kernel) rfl
abbrev Y_X8_missedOfAll : mm_Y := (yX8_missedOfAll, cX8_missedOfAll, 3, some .int)
theorem mz_X8_missedOfAll : mm_Z Y_X8_missedOfAll 0 := ⟨mm_tbI 899 (by decide +kernel) rfl, mm_tbI 12 (by decide +kernel) rfl, by decide, by decide, by decide +kernel⟩
theorem im_X8_missedOfAll : Cond.instanceMethod yX8_missedOfAll ∈ mm_tb := mm_tbI 897 (by decide +kernel) rfl
theorem se_X8_missedOfAll : Cond.selects RX8 yX8_missedOfAll yX8_missedOfAll ∈ mm_tb := mm_tbI 898 (by decide +kernel) rfl
abbrev Y_X8_orderForDrought : mm_Y := (yX8_orderForDrought, cX8_orderForDrought, 3, none)
theorem mz_X8_orderForDrought : mm_Z Y_X8_orderForDrought 1 := ⟨mm_tbI 1081 (by decide +kernel) rfl, mm_tbI 12 (by decide +kernel) rfl, by decide, by decide, by decide +kernel⟩
theorem im_X8_orderForDrought : Cond.instanceMethod yX8_orderForDrought ∈ mm_tb := mm_tbI 1079 (by decide +kernel) rfl
theorem se_X8_orderForDrought : Cond.selects RX8 yX8_orderForDrought yX8_orderForDrought ∈ mm_tb := mm_tbI 1080 (by decide +kernel) rfl
abbrev Y_X8_orderStays : mm_Y := (yX8_orderStays, cX8_orderStays, 5, some .int)
theorem mz_X8_orderStays : mm_Z Y_X8_orderStays 1 := ⟨mm_tbI 847 (by decide +kernel) rfl, mm_tbI 12 (by decide +kernel) rfl, by decide, by decide, by decide +kernel⟩
theorem im_X8_orderStays : Cond.instanceMethod yX8_orderStays ∈ mm_tb := mm_tbI 846 (by decide +kernel) rfl
theorem se_X8_orderStays : Cond.selects RX8 yX8_orderStays yX8_orderStays ∈ mm_tb := mm_tbP 14 (q := (yX8_orderStays, 15)) (by decide +kernel) rfl
abbrev Y_X8_rainLeft : mm_Y := (yX8_rainLeft, cX8_rainLeft, 3, some .int)
theorem mz_X8_rainLeft : mm_Z Y_X8_rainLeft 2 := ⟨mm_tbI 1105 (by decide +kernel) rfl, mm_tbI 12 (by decide +kernel) rfl, by decide, by decide, by decide +kernel⟩
theorem im_X8_rainLeft : Cond.instanceMethod yX8_rainLeft ∈ mm_tb := mm_tbI 1104 (by decide +kernel) rfl
theorem se_X8_rainLeft : Cond.selects RX8 yX8_rainLeft yX8_rainLeft ∈ mm_tb := mm_tbP 36 (q := (yX8_rainLeft, 15)) (by decide +kernel) rfl
abbrev Y_X8_readRainTops : mm_Y := (yX8_readRainTops, cX8_readRainTops, 4, none)
theorem mz_X8_readRainTops : mm_Z Y_X8_readRainTops 1 := ⟨mm_tbI 1085 (by decide +kernel) rfl, mm_tbI 12 (by decide +kernel) rfl, by decide, by decide, by decide +kernel⟩
theorem im_X8_readRainTops : Cond.instanceMethod yX8_readRainTops ∈ mm_tb := mm_tbI 1084 (by decide +kernel) rfl
theorem se_X8_readRainTops : Cond.selects RX8 yX8_readRainTops yX8_readRainTops ∈ mm_tb := mm_tbP 33 (q := (yX8_readRainTops, 15)) (by decide +kernel) rfl
abbrev Y_X8_serve : mm_Y := (yX8_serve, cX8_serve, 7, none)
theorem mz_X8_serve : mm_Z Y_X8_serve 2 := ⟨mm_tbI 882 (by decide +kernel) rfl, mm_tbI 12 (by decide +kernel) rfl, by decide, by decide, by decide +kernel⟩
theorem im_X8_serve : Cond.instanceMethod yX8_serve ∈ mm_tb := mm_tbI 881 (by decide +kernel) rfl
theorem se_X8_serve : Cond.selects RX8 yX8_serve yX8_serve ∈ mm_tb := mm_tbP 19 (q := (yX8_serve, 15)) (by decide +kernel) rfl
abbrev Y_X8_serveAll : mm_Y := (yX8_serveAll, cX8_serveAll, 2, none)
theorem mz_X8_serveAll : mm_Z Y_X8_serveAll 0 := ⟨mm_tbI 831 (by decide +kernel) rfl, mm_tbI 12 (by decide +kernel) rfl, by decide, by decide, by decide +kernel⟩
theorem im_X8_serveAll : Cond.instanceMethod yX8_serveAll ∈ mm_tb := mm_tbI 829 (by decide +kernel) rfl
theorem se_X8_serveAll : Cond.selects RX8 yX8_serveAll yX8_serveAll ∈ mm_tb := mm_tbI 830 (by decide +kernel) rfl
abbrev Y_X8_serveHour : mm_Y := (yX8_serveHour, cX8_serveHour, 4, none)
theorem mz_X8_serveHour : mm_Z Y_X8_serveHour 1 := ⟨mm_tbI 837 (by decide +kernel) rfl, mm_tbI 12 (by decide +kernel) rfl, by decide, by decide, by decide +kernel⟩
theorem im_X8_serveHour : Cond.instanceMethod yX8_serveHour ∈ mm_tb := mm_tbI 836 (by decide +kernel) rfl
theorem se_X8_serveHour : Cond.selects RX8 yX8_serveHour yX8_serveHour ∈ mm_tb := mm_tbP 13 (q := (yX8_serveHour, 15)) (by decide +kernel) rfl
abbrev Y_X9_append : mm_Y := (yX9_append, cX9_append, 3, none)
theorem mz_X9_append : mm_Z Y_X9_append 1 := ⟨mm_tbI 487 (by decide +kernel) rfl, mm_tbI 2 (by decide +kernel) rfl, by decide, by decide, by decide +kernel⟩
theorem im_X9_append : Cond.instanceMethod yX9_append ∈ mm_tb := mm_tbI 485 (by decide +kernel) rfl
theorem se_X9_append : Cond.selects RX9 yX9_append yX9_append ∈ mm_tb := mm_tbI 486 (by decide +kernel) rfl
abbrev Y_X9_byteAt : mm_Y := (yX9_byteAt, cX9_byteAt, 2, some .int)
theorem mz_X9_byteAt : mm_Z Y_X9_byteAt 1 := ⟨mm_tbI 979 (by decide +kernel) rfl, mm_tbI 2 (by decide +kernel) rfl, by decide, by decide, by decide +kernel⟩
theorem im_X9_byteAt : Cond.instanceMethod yX9_byteAt ∈ mm_tb := mm_tbI 977 (by decide +kernel) rfl
theorem se_X9_byteAt : Cond.selects RX9 yX9_byteAt yX9_byteAt ∈ mm_tb := mm_tbI 978 (by decide +kernel) rfl
abbrev Y_X9_clear : mm_Y := (yX9_clear, cX9_clear, 1, none)
theorem mz_X9_clear : mm_Z Y_X9_clear 0 := ⟨mm_tbI 646 (by decide +kernel) rfl, mm_tbI 2 (by decide +kernel) rfl, by decide, by decide, by decide +kernel⟩
theorem im_X9_clear : Cond.instanceMethod yX9_clear ∈ mm_tb := mm_tbI 644 (by decide +kernel) rfl
theorem se_X9_clear : Cond.selects RX9 yX9_clear yX9_clear ∈ mm_tb := mm_tbI 645 (by decide +kernel) rfl
abbrev Y_X9_numberAt : mm_Y := (yX9_numberAt, cX9_numberAt, 2, some .int)
theorem mz_X9_numberAt : mm_Z Y_X9_numberAt 1 := ⟨mm_tbI 1179 (by decide +kernel) rfl, mm_tbI 2 (by decide +kernel) rfl, by decide, by decide, by decide +kernel⟩
theorem im_X9_numberAt : Cond.instanceMethod yX9_numberAt ∈ mm_tb := mm_tbI 1177 (by decide +kernel) rfl
theorem se_X9_numberAt : Cond.selects RX9 yX9_numberAt yX9_numberAt ∈ mm_tb := mm_tbI 1178 (by decide +kernel) rfl
abbrev Y_X9_pairAt : mm_Y := (yX9_pairAt, cX9_pairAt, 2, some .int)
theorem mz_X9_pairAt : mm_Z Y_X9_pairAt 1 := ⟨mm_tbI 1122 (by decide +kernel) rfl, mm_tbI 2 (by decide +kernel) rfl, by decide, by decide, by decide +kernel⟩
theorem im_X9_pairAt : Cond.instanceMethod yX9_pairAt ∈ mm_tb := mm_tbI 1120 (by decide +kernel) rfl
theorem se_X9_pairAt : Cond.selects RX9 yX9_pairAt yX9_pairAt ∈ mm_tb := mm_tbI 1121 (by decide +kernel) rfl
abbrev Y_X9_size : mm_Y := (yX9_size, cX9_size, 1, some .int)
theorem mz_X9_size : mm_Z Y_X9_size 0 := ⟨mm_tbI 483 (by decide +kernel) rfl, mm_tbI 2 (by decide +kernel) rfl, by decide, by decide, by decide +kernel⟩
theorem im_X9_size : Cond.instanceMethod yX9_size ∈ mm_tb := mm_tbI 481 (by decide +kernel) rfl
theorem se_X9_size : Cond.selects RX9 yX9_size yX9_size ∈ mm_tb := mm_tbI 482 (by decide +kernel) rfl
theorem wd_copy : Cond.native arraycopyName ∈ mm_tb ∧ Cond.static arraycopyName ∈ mm_tb ∧ Cond.initialized "java/lang/System" ∈ mm_tb := ⟨mm_tbI 642 (by decide +kernel) rfl, mm_tbI 641 (by decide +kernel) rfl, mm_tbI 21 (by decide +kernel) rfl⟩
