theorem g_inT1 {w : Cond} {i : Nat} (h : tables_1[i]? = some w) (hg : goodWord w = true) : w ∈ g_T := List.mem_filter.mpr ⟨List.mem_append_right _ (List.mem_of_getElem? h), hg⟩
theorem g_inN1 {w : Cond} {i : Nat} (h : tables_1[i]? = some w) (hg : g_isN w = true) : w ∈ g_N := List.mem_filter.mpr ⟨List.mem_append_right _ (List.mem_of_getElem? h), hg⟩
theorem g_inT0 {w : Cond} {i : Nat} (h : (k2_sels lw_privs)[i]? = some w) (hg : goodWord w = true) : w ∈ g_T := List.mem_filter.mpr ⟨List.mem_append_left _ (List.mem_of_getElem? h), hg⟩
theorem la_X0_0 : u_lay RX0 TX0 0 ∈ g_T := g_inT1 (i := 219) (by decide +kernel) (by decide +kernel)
theorem la_X0_1 : u_lay RX0 TX0 1 ∈ g_T := g_inT1 (i := 221) (by decide +kernel) (by decide +kernel)
theorem la_X0_2 : u_lay RX0 TX0 2 ∈ g_T := g_inT1 (i := 223) (by decide +kernel) (by decide +kernel)
theorem la_X0_3 : u_lay RX0 TX0 3 ∈ g_T := g_inT1 (i := 225) (by decide +kernel) (by decide +kernel)
theorem inT_X0 : ∀ w ∈ u_ws RX0 TX0 4, w ∈ g_T := by
  intro w hw
  obtain ⟨k, hk, rfl⟩ := List.mem_map.mp hw
  have hk := List.mem_range.mp hk
  match k, hk with
  | 0, _ => exact la_X0_0
  | 1, _ => exact la_X0_1
  | 2, _ => exact la_X0_2
  | 3, _ => exact la_X0_3
  | n + 4, h => exact absurd h (by omega)
theorem la_X1_0 : u_lay RX1 TX1 0 ∈ g_T := g_inT1 (i := 172) (by decide +kernel) (by decide +kernel)
theorem la_X1_1 : u_lay RX1 TX1 1 ∈ g_T := g_inT1 (i := 174) (by decide +kernel) (by decide +kernel)
theorem la_X1_2 : u_lay RX1 TX1 2 ∈ g_T := g_inT1 (i := 176) (by decide +kernel) (by decide +kernel)
theorem la_X1_3 : u_lay RX1 TX1 3 ∈ g_T := g_inT1 (i := 178) (by decide +kernel) (by decide +kernel)
theorem la_X1_4 : u_lay RX1 TX1 4 ∈ g_T := g_inT1 (i := 180) (by decide +kernel) (by decide +kernel)
theorem la_X1_5 : u_lay RX1 TX1 5 ∈ g_T := g_inT1 (i := 182) (by decide +kernel) (by decide +kernel)
theorem la_X1_6 : u_lay RX1 TX1 6 ∈ g_T := g_inT1 (i := 184) (by decide +kernel) (by decide +kernel)
theorem la_X1_7 : u_lay RX1 TX1 7 ∈ g_T := g_inT1 (i := 186) (by decide +kernel) (by decide +kernel)
theorem la_X1_8 : u_lay RX1 TX1 8 ∈ g_T := g_inT1 (i := 188) (by decide +kernel) (by decide +kernel)
theorem la_X1_9 : u_lay RX1 TX1 9 ∈ g_T := g_inT1 (i := 190) (by decide +kernel) (by decide +kernel)
theorem la_X1_10 : u_lay RX1 TX1 10 ∈ g_T := g_inT1 (i := 192) (by decide +kernel) (by decide +kernel)
theorem la_X1_11 : u_lay RX1 TX1 11 ∈ g_T := g_inT1 (i := 194) (by decide +kernel) (by decide +kernel)
theorem la_X1_12 : u_lay RX1 TX1 12 ∈ g_T := g_inT1 (i := 196) (by decide +kernel) (by decide +kernel)
theorem la_X1_13 : u_lay RX1 TX1 13 ∈ g_T := g_inT1 (i := 198) (by decide +kernel) (by decide +kernel)
theorem inT_X1 : ∀ w ∈ u_ws RX1 TX1 14, w ∈ g_T := by
  intro w hw
  obtain ⟨k, hk, rfl⟩ := List.mem_map.mp hw
  have hk := List.mem_range.mp hk
  match k, hk with
  | 0, _ => exact la_X1_0
  | 1, _ => exact la_X1_1
  | 2, _ => exact la_X1_2
  | 3, _ => exact la_X1_3
  | 4, _ => exact la_X1_4
  | 5, _ => exact la_X1_5
  | 6, _ => exact la_X1_6
  | 7, _ => exact la_X1_7
  | 8, _ => exact la_X1_8
  | 9, _ => exact la_X1_9
  | 10, _ => exact la_X1_10
  | 11, _ => exact la_X1_11
  | 12, _ => exact la_X1_12
  | 13, _ => exact la_X1_13
  | n + 14, h => exact absurd h (by omega)
theorem la_X2_0 : u_lay RX2 TX2 0 ∈ g_T := g_inT1 (i := 89) (by decide +kernel) (by decide +kernel)
theorem la_X2_1 : u_lay RX2 TX2 1 ∈ g_T := g_inT1 (i := 91) (by decide +kernel) (by decide +kernel)
theorem inT_X2 : ∀ w ∈ u_ws RX2 TX2 2, w ∈ g_T := by
  intro w hw
  obtain ⟨k, hk, rfl⟩ := List.mem_map.mp hw
  have hk := List.mem_range.mp hk
  match k, hk with
  | 0, _ => exact la_X2_0
  | 1, _ => exact la_X2_1
  | n + 2, h => exact absurd h (by omega)
theorem la_X3_0 : u_lay RX3 TX3 0 ∈ g_T := g_inT1 (i := 121) (by decide +kernel) (by decide +kernel)
theorem la_X3_1 : u_lay RX3 TX3 1 ∈ g_T := g_inT1 (i := 123) (by decide +kernel) (by decide +kernel)
theorem la_X3_2 : u_lay RX3 TX3 2 ∈ g_T := g_inT1 (i := 125) (by decide +kernel) (by decide +kernel)
theorem inT_X3 : ∀ w ∈ u_ws RX3 TX3 3, w ∈ g_T := by
  intro w hw
  obtain ⟨k, hk, rfl⟩ := List.mem_map.mp hw
  have hk := List.mem_range.mp hk
  match k, hk with
  | 0, _ => exact la_X3_0
  | 1, _ => exact la_X3_1
  | 2, _ => exact la_X3_2
  | n + 3, h => exact absurd h (by omega)
theorem la_X4_0 : u_lay RX4 TX4 0 ∈ g_T := g_inT1 (i := 84) (by decide +kernel) (by decide +kernel)
theorem inT_X4 : ∀ w ∈ u_ws RX4 TX4 1, w ∈ g_T := by
  intro w hw
  obtain ⟨k, hk, rfl⟩ := List.mem_map.mp hw
  have hk := List.mem_range.mp hk
  match k, hk with
  | 0, _ => exact la_X4_0
  | n + 1, h => exact absurd h (by omega)
theorem la_X5_0 : u_lay RX5 TX5 0 ∈ g_T := g_inT1 (i := 101) (by decide +kernel) (by decide +kernel)
theorem inT_X5 : ∀ w ∈ u_ws RX5 TX5 1, w ∈ g_T := by
  intro w hw
  obtain ⟨k, hk, rfl⟩ := List.mem_map.mp hw
  have hk := List.mem_range.mp hk
  match k, hk with
  | 0, _ => exact la_X5_0
  | n + 1, h => exact absurd h (by omega)
theorem la_X6_0 : u_lay RX6 TX6 0 ∈ g_T := g_inT1 (i := 335) (by decide +kernel) (by decide +kernel)
theorem la_X6_1 : u_lay RX6 TX6 1 ∈ g_T := g_inT1 (i := 337) (by decide +kernel) (by decide +kernel)
theorem la_X6_2 : u_lay RX6 TX6 2 ∈ g_T := g_inT1 (i := 339) (by decide +kernel) (by decide +kernel)
theorem la_X6_3 : u_lay RX6 TX6 3 ∈ g_T := g_inT1 (i := 341) (by decide +kernel) (by decide +kernel)
theorem la_X6_4 : u_lay RX6 TX6 4 ∈ g_T := g_inT1 (i := 343) (by decide +kernel) (by decide +kernel)
theorem inT_X6 : ∀ w ∈ u_ws RX6 TX6 5, w ∈ g_T := by
  intro w hw
  obtain ⟨k, hk, rfl⟩ := List.mem_map.mp hw
  have hk := List.mem_range.mp hk
  match k, hk with
  | 0, _ => exact la_X6_0
  | 1, _ => exact la_X6_1
  | 2, _ => exact la_X6_2
  | 3, _ => exact la_X6_3
  | 4, _ => exact la_X6_4
  | n + 5, h => exact absurd h (by omega)
theorem la_X7_0 : u_lay RX7 TX7 0 ∈ g_T := g_inT1 (i := 256) (by decide +kernel) (by decide +kernel)
theorem la_X7_1 : u_lay RX7 TX7 1 ∈ g_T := g_inT1 (i := 258) (by decide +kernel) (by decide +kernel)
theorem la_X7_2 : u_lay RX7 TX7 2 ∈ g_T := g_inT1 (i := 260) (by decide +kernel) (by decide +kernel)
theorem inT_X7 : ∀ w ∈ u_ws RX7 TX7 3, w ∈ g_T := by
  intro w hw
  obtain ⟨k, hk, rfl⟩ := List.mem_map.mp hw
  have hk := List.mem_range.mp hk
  match k, hk with
  | 0, _ => exact la_X7_0
  | 1, _ => exact la_X7_1
  | 2, _ => exact la_X7_2
  | n + 3, h => exact absurd h (by omega)
theorem la_X8_0 : u_lay RX8 TX8 0 ∈ g_T := g_inT1 (i := 53) (by decide +kernel) (by decide +kernel)
theorem la_X8_1 : u_lay RX8 TX8 1 ∈ g_T := g_inT1 (i := 55) (by decide +kernel) (by decide +kernel)
theorem la_X8_2 : u_lay RX8 TX8 2 ∈ g_T := g_inT1 (i := 57) (by decide +kernel) (by decide +kernel)
theorem la_X8_3 : u_lay RX8 TX8 3 ∈ g_T := g_inT1 (i := 59) (by decide +kernel) (by decide +kernel)
theorem la_X8_4 : u_lay RX8 TX8 4 ∈ g_T := g_inT1 (i := 61) (by decide +kernel) (by decide +kernel)
theorem la_X8_5 : u_lay RX8 TX8 5 ∈ g_T := g_inT1 (i := 63) (by decide +kernel) (by decide +kernel)
theorem la_X8_6 : u_lay RX8 TX8 6 ∈ g_T := g_inT1 (i := 65) (by decide +kernel) (by decide +kernel)
theorem la_X8_7 : u_lay RX8 TX8 7 ∈ g_T := g_inT1 (i := 67) (by decide +kernel) (by decide +kernel)
theorem inT_X8 : ∀ w ∈ u_ws RX8 TX8 8, w ∈ g_T := by
  intro w hw
  obtain ⟨k, hk, rfl⟩ := List.mem_map.mp hw
  have hk := List.mem_range.mp hk
  match k, hk with
  | 0, _ => exact la_X8_0
  | 1, _ => exact la_X8_1
  | 2, _ => exact la_X8_2
  | 3, _ => exact la_X8_3
  | 4, _ => exact la_X8_4
  | 5, _ => exact la_X8_5
  | 6, _ => exact la_X8_6
  | 7, _ => exact la_X8_7
  | n + 8, h => exact absurd h (by omega)
theorem la_X9_0 : u_lay RX9 TX9 0 ∈ g_T := g_inT1 (i := 289) (by decide +kernel) (by decide +kernel)
theorem la_X9_1 : u_lay RX9 TX9 1 ∈ g_T := g_inT1 (i := 291) (by decide +kernel) (by decide +kernel)
theorem la_X9_2 : u_lay RX9 TX9 2 ∈ g_T := g_inT1 (i := 293) (by decide +kernel) (by decide +kernel)
theorem la_X9_3 : u_lay RX9 TX9 3 ∈ g_T := g_inT1 (i := 295) (by decide +kernel) (by decide +kernel)
theorem la_X9_4 : u_lay RX9 TX9 4 ∈ g_T := g_inT1 (i := 297) (by decide +kernel) (by decide +kernel)
theorem la_X9_5 : u_lay RX9 TX9 5 ∈ g_T := g_inT1 (i := 299) (by decide +kernel) (by decide +kernel)
theorem la_X9_6 : u_lay RX9 TX9 6 ∈ g_T := g_inT1 (i := 301) (by decide +kernel) (by decide +kernel)
theorem la_X9_7 : u_lay RX9 TX9 7 ∈ g_T := g_inT1 (i := 303) (by decide +kernel) (by decide +kernel)
theorem la_X9_8 : u_lay RX9 TX9 8 ∈ g_T := g_inT1 (i := 305) (by decide +kernel) (by decide +kernel)
theorem la_X9_9 : u_lay RX9 TX9 9 ∈ g_T := g_inT1 (i := 307) (by decide +kernel) (by decide +kernel)
theorem inT_X9 : ∀ w ∈ u_ws RX9 TX9 10, w ∈ g_T := by
  intro w hw
  obtain ⟨k, hk, rfl⟩ := List.mem_map.mp hw
  have hk := List.mem_range.mp hk
  match k, hk with
  | 0, _ => exact la_X9_0
  | 1, _ => exact la_X9_1
  | 2, _ => exact la_X9_2
  | 3, _ => exact la_X9_3
  | 4, _ => exact la_X9_4
  | 5, _ => exact la_X9_5
  | 6, _ => exact la_X9_6
  | 7, _ => exact la_X9_7
  | 8, _ => exact la_X9_8
  | 9, _ => exact la_X9_9
  | n + 10, h => exact absurd h (by omega)
theorem la_X10_0 : u_lay RX10 TX10 0 ∈ g_T := g_inT1 (i := 241) (by decide +kernel) (by decide +kernel)
theorem la_X10_1 : u_lay RX10 TX10 1 ∈ g_T := g_inT1 (i := 243) (by decide +kernel) (by decide +kernel)
theorem inT_X10 : ∀ w ∈ u_ws RX10 TX10 2, w ∈ g_T := by
  intro w hw
  obtain ⟨k, hk, rfl⟩ := List.mem_map.mp hw
  have hk := List.mem_range.mp hk
  match k, hk with
  | 0, _ => exact la_X10_0
  | 1, _ => exact la_X10_1
  | n + 2, h => exact absurd h (by omega)
theorem la_X11_0 : u_lay RX11 TX11 0 ∈ g_T := g_inT1 (i := 364) (by decide +kernel) (by decide +kernel)
theorem la_X11_1 : u_lay RX11 TX11 1 ∈ g_T := g_inT1 (i := 366) (by decide +kernel) (by decide +kernel)
theorem la_X11_2 : u_lay RX11 TX11 2 ∈ g_T := g_inT1 (i := 368) (by decide +kernel) (by decide +kernel)
theorem la_X11_3 : u_lay RX11 TX11 3 ∈ g_T := g_inT1 (i := 370) (by decide +kernel) (by decide +kernel)
theorem la_X11_4 : u_lay RX11 TX11 4 ∈ g_T := g_inT1 (i := 372) (by decide +kernel) (by decide +kernel)
theorem la_X11_5 : u_lay RX11 TX11 5 ∈ g_T := g_inT1 (i := 374) (by decide +kernel) (by decide +kernel)
theorem la_X11_6 : u_lay RX11 TX11 6 ∈ g_T := g_inT1 (i := 376) (by decide +kernel) (by decide +kernel)
theorem la_X11_7 : u_lay RX11 TX11 7 ∈ g_T := g_inT1 (i := 378) (by decide +kernel) (by decide +kernel)
theorem la_X11_8 : u_lay RX11 TX11 8 ∈ g_T := g_inT1 (i := 380) (by decide +kernel) (by decide +kernel)
theorem la_X11_9 : u_lay RX11 TX11 9 ∈ g_T := g_inT1 (i := 382) (by decide +kernel) (by decide +kernel)
theorem la_X11_10 : u_lay RX11 TX11 10 ∈ g_T := g_inT1 (i := 384) (by decide +kernel) (by decide +kernel)
theorem la_X11_11 : u_lay RX11 TX11 11 ∈ g_T := g_inT1 (i := 386) (by decide +kernel) (by decide +kernel)
theorem la_X11_12 : u_lay RX11 TX11 12 ∈ g_T := g_inT1 (i := 388) (by decide +kernel) (by decide +kernel)
theorem la_X11_13 : u_lay RX11 TX11 13 ∈ g_T := g_inT1 (i := 390) (by decide +kernel) (by decide +kernel)
theorem la_X11_14 : u_lay RX11 TX11 14 ∈ g_T := g_inT1 (i := 392) (by decide +kernel) (by decide +kernel)
theorem la_X11_15 : u_lay RX11 TX11 15 ∈ g_T := g_inT1 (i := 394) (by decide +kernel) (by decide +kernel)
theorem la_X11_16 : u_lay RX11 TX11 16 ∈ g_T := g_inT1 (i := 396) (by decide +kernel) (by decide +kernel)
theorem la_X11_17 : u_lay RX11 TX11 17 ∈ g_T := g_inT1 (i := 398) (by decide +kernel) (by decide +kernel)
theorem inT_X11 : ∀ w ∈ u_ws RX11 TX11 18, w ∈ g_T := by
  intro w hw
  obtain ⟨k, hk, rfl⟩ := List.mem_map.mp hw
  have hk := List.mem_range.mp hk
  match k, hk with
  | 0, _ => exact la_X11_0
  | 1, _ => exact la_X11_1
  | 2, _ => exact la_X11_2
  | 3, _ => exact la_X11_3
  | 4, _ => exact la_X11_4
  | 5, _ => exact la_X11_5
  | 6, _ => exact la_X11_6
  | 7, _ => exact la_X11_7
  | 8, _ => exact la_X11_8
  | 9, _ => exact la_X11_9
  | 10, _ => exact la_X11_10
  | 11, _ => exact la_X11_11
  | 12, _ => exact la_X11_12
  | 13, _ => exact la_X11_13
  | 14, _ => exact la_X11_14
  | 15, _ => exact la_X11_15
  | 16, _ => exact la_X11_16
  | 17, _ => exact la_X11_17
  | n + 18, h => exact absurd h (by omega)
theorem la_X12_0 : u_lay RX12 TX12 0 ∈ g_T := g_inT1 (i := 1264) (by decide +kernel) (by decide +kernel)
theorem la_X12_1 : u_lay RX12 TX12 1 ∈ g_T := g_inT1 (i := 1266) (by decide +kernel) (by decide +kernel)
theorem la_X12_2 : u_lay RX12 TX12 2 ∈ g_T := g_inT1 (i := 1268) (by decide +kernel) (by decide +kernel)
theorem la_X12_3 : u_lay RX12 TX12 3 ∈ g_T := g_inT1 (i := 1270) (by decide +kernel) (by decide +kernel)
theorem la_X12_4 : u_lay RX12 TX12 4 ∈ g_T := g_inT1 (i := 1272) (by decide +kernel) (by decide +kernel)
theorem la_X12_5 : u_lay RX12 TX12 5 ∈ g_T := g_inT1 (i := 1274) (by decide +kernel) (by decide +kernel)
theorem la_X12_6 : u_lay RX12 TX12 6 ∈ g_T := g_inT1 (i := 1276) (by decide +kernel) (by decide +kernel)
theorem la_X12_7 : u_lay RX12 TX12 7 ∈ g_T := g_inT1 (i := 1278) (by decide +kernel) (by decide +kernel)
theorem la_X12_8 : u_lay RX12 TX12 8 ∈ g_T := g_inT1 (i := 1280) (by decide +kernel) (by decide +kernel)
theorem la_X12_9 : u_lay RX12 TX12 9 ∈ g_T := g_inT1 (i := 1282) (by decide +kernel) (by decide +kernel)
theorem la_X12_10 : u_lay RX12 TX12 10 ∈ g_T := g_inT1 (i := 1284) (by decide +kernel) (by decide +kernel)
theorem la_X12_11 : u_lay RX12 TX12 11 ∈ g_T := g_inT1 (i := 1286) (by decide +kernel) (by decide +kernel)
theorem la_X12_12 : u_lay RX12 TX12 12 ∈ g_T := g_inT1 (i := 1288) (by decide +kernel) (by decide +kernel)
theorem la_X12_13 : u_lay RX12 TX12 13 ∈ g_T := g_inT1 (i := 1290) (by decide +kernel) (by decide +kernel)
theorem la_X12_14 : u_lay RX12 TX12 14 ∈ g_T := g_inT1 (i := 1292) (by decide +kernel) (by decide +kernel)
theorem la_X12_15 : u_lay RX12 TX12 15 ∈ g_T := g_inT1 (i := 1294) (by decide +kernel) (by decide +kernel)
theorem la_X12_16 : u_lay RX12 TX12 16 ∈ g_T := g_inT1 (i := 1296) (by decide +kernel) (by decide +kernel)
theorem la_X12_17 : u_lay RX12 TX12 17 ∈ g_T := g_inT1 (i := 1298) (by decide +kernel) (by decide +kernel)
theorem la_X12_18 : u_lay RX12 TX12 18 ∈ g_T := g_inT1 (i := 1300) (by decide +kernel) (by decide +kernel)
theorem la_X12_19 : u_lay RX12 TX12 19 ∈ g_T := g_inT1 (i := 1302) (by decide +kernel) (by decide +kernel)
theorem la_X12_20 : u_lay RX12 TX12 20 ∈ g_T := g_inT1 (i := 1304) (by decide +kernel) (by decide +kernel)
theorem la_X12_21 : u_lay RX12 TX12 21 ∈ g_T := g_inT1 (i := 1306) (by decide +kernel) (by decide +kernel)
theorem la_X12_22 : u_lay RX12 TX12 22 ∈ g_T := g_inT1 (i := 1308) (by decide +kernel) (by decide +kernel)
theorem la_X12_23 : u_lay RX12 TX12 23 ∈ g_T := g_inT1 (i := 1310) (by decide +kernel) (by decide +kernel)
theorem la_X12_24 : u_lay RX12 TX12 24 ∈ g_T := g_inT1 (i := 1312) (by decide +kernel) (by decide +kernel)
theorem la_X12_25 : u_lay RX12 TX12 25 ∈ g_T := g_inT1 (i := 1314) (by decide +kernel) (by decide +kernel)
theorem la_X12_26 : u_lay RX12 TX12 26 ∈ g_T := g_inT1 (i := 1316) (by decide +kernel) (by decide +kernel)
theorem la_X12_27 : u_lay RX12 TX12 27 ∈ g_T := g_inT1 (i := 1318) (by decide +kernel) (by decide +kernel)
theorem la_X12_28 : u_lay RX12 TX12 28 ∈ g_T := g_inT1 (i := 1320) (by decide +kernel) (by decide +kernel)
theorem la_X12_29 : u_lay RX12 TX12 29 ∈ g_T := g_inT1 (i := 1322) (by decide +kernel) (by decide +kernel)
theorem la_X12_30 : u_lay RX12 TX12 30 ∈ g_T := g_inT1 (i := 1324) (by decide +kernel) (by decide +kernel)
theorem la_X12_31 : u_lay RX12 TX12 31 ∈ g_T := g_inT1 (i := 1326) (by decide +kernel) (by decide +kernel)
theorem la_X12_32 : u_lay RX12 TX12 32 ∈ g_T := g_inT1 (i := 1328) (by decide +kernel) (by decide +kernel)
theorem la_X12_33 : u_lay RX12 TX12 33 ∈ g_T := g_inT1 (i := 1330) (by decide +kernel) (by decide +kernel)
theorem la_X12_34 : u_lay RX12 TX12 34 ∈ g_T := g_inT1 (i := 1332) (by decide +kernel) (by decide +kernel)
theorem la_X12_35 : u_lay RX12 TX12 35 ∈ g_T := g_inT1 (i := 1334) (by decide +kernel) (by decide +kernel)
theorem la_X12_36 : u_lay RX12 TX12 36 ∈ g_T := g_inT1 (i := 1336) (by decide +kernel) (by decide +kernel)
theorem la_X12_37 : u_lay RX12 TX12 37 ∈ g_T := g_inT1 (i := 1338) (by decide +kernel) (by decide +kernel)
theorem la_X12_38 : u_lay RX12 TX12 38 ∈ g_T := g_inT1 (i := 1340) (by decide +kernel) (by decide +kernel)
theorem la_X12_39 : u_lay RX12 TX12 39 ∈ g_T := g_inT1 (i := 1342) (by decide +kernel) (by decide +kernel)
theorem la_X12_40 : u_lay RX12 TX12 40 ∈ g_T := g_inT1 (i := 1344) (by decide +kernel) (by decide +kernel)
theorem la_X12_41 : u_lay RX12 TX12 41 ∈ g_T := g_inT1 (i := 1346) (by decide +kernel) (by decide +kernel)
theorem la_X12_42 : u_lay RX12 TX12 42 ∈ g_T := g_inT1 (i := 1348) (by decide +kernel) (by decide +kernel)
theorem la_X12_43 : u_lay RX12 TX12 43 ∈ g_T := g_inT1 (i := 1350) (by decide +kernel) (by decide +kernel)
theorem la_X12_44 : u_lay RX12 TX12 44 ∈ g_T := g_inT1 (i := 1352) (by decide +kernel) (by decide +kernel)
theorem la_X12_45 : u_lay RX12 TX12 45 ∈ g_T := g_inT1 (i := 1354) (by decide +kernel) (by decide +kernel)
theorem la_X12_46 : u_lay RX12 TX12 46 ∈ g_T := g_inT1 (i := 1356) (by decide +kernel) (by decide +kernel)
theorem la_X12_47 : u_lay RX12 TX12 47 ∈ g_T := g_inT1 (i := 1358) (by decide +kernel) (by decide +kernel)
theorem la_X12_48 : u_lay RX12 TX12 48 ∈ g_T := g_inT1 (i := 1360) (by decide +kernel) (by decide +kernel)
theorem la_X12_49 : u_lay RX12 TX12 49 ∈ g_T := g_inT1 (i := 1362) (by decide +kernel) (by decide +kernel)
theorem la_X12_50 : u_lay RX12 TX12 50 ∈ g_T := g_inT1 (i := 1364) (by decide +kernel) (by decide +kernel)
theorem la_X12_51 : u_lay RX12 TX12 51 ∈ g_T := g_inT1 (i := 1366) (by decide +kernel) (by decide +kernel)
theorem la_X12_52 : u_lay RX12 TX12 52 ∈ g_T := g_inT1 (i := 1368) (by decide +kernel) (by decide +kernel)
theorem la_X12_53 : u_lay RX12 TX12 53 ∈ g_T := g_inT1 (i := 1370) (by decide +kernel) (by decide +kernel)
theorem la_X12_54 : u_lay RX12 TX12 54 ∈ g_T := g_inT1 (i := 1372) (by decide +kernel) (by decide +kernel)
theorem la_X12_55 : u_lay RX12 TX12 55 ∈ g_T := g_inT1 (i := 1374) (by decide +kernel) (by decide +kernel)
theorem la_X12_56 : u_lay RX12 TX12 56 ∈ g_T := g_inT1 (i := 1376) (by decide +kernel) (by decide +kernel)
theorem la_X12_57 : u_lay RX12 TX12 57 ∈ g_T := g_inT1 (i := 1378) (by decide +kernel) (by decide +kernel)
theorem la_X12_58 : u_lay RX12 TX12 58 ∈ g_T := g_inT1 (i := 1380) (by decide +kernel) (by decide +kernel)
theorem la_X12_59 : u_lay RX12 TX12 59 ∈ g_T := g_inT1 (i := 1382) (by decide +kernel) (by decide +kernel)
theorem inT_X12 : ∀ w ∈ u_ws RX12 TX12 60, w ∈ g_T := by
  intro w hw
  obtain ⟨k, hk, rfl⟩ := List.mem_map.mp hw
  have hk := List.mem_range.mp hk
  match k, hk with
  | 0, _ => exact la_X12_0
  | 1, _ => exact la_X12_1
  | 2, _ => exact la_X12_2
  | 3, _ => exact la_X12_3
  | 4, _ => exact la_X12_4
  | 5, _ => exact la_X12_5
  | 6, _ => exact la_X12_6
  | 7, _ => exact la_X12_7
  | 8, _ => exact la_X12_8
  | 9, _ => exact la_X12_9
  | 10, _ => exact la_X12_10
  | 11, _ => exact la_X12_11
  | 12, _ => exact la_X12_12
  | 13, _ => exact la_X12_13
  | 14, _ => exact la_X12_14
  | 15, _ => exact la_X12_15
  | 16, _ => exact la_X12_16
  | 17, _ => exact la_X12_17
  | 18, _ => exact la_X12_18
  | 19, _ => exact la_X12_19
  | 20, _ => exact la_X12_20
  | 21, _ => exact la_X12_21
  | 22, _ => exact la_X12_22
  | 23, _ => exact la_X12_23
  | 24, _ => exact la_X12_24
  | 25, _ => exact la_X12_25
  | 26, _ => exact la_X12_26
  | 27, _ => exact la_X12_27
  | 28, _ => exact la_X12_28
  | 29, _ => exact la_X12_29
  | 30, _ => exact la_X12_30
  | 31, _ => exact la_X12_31
  | 32, _ => exact la_X12_32
  | 33, _ => exact la_X12_33
  | 34, _ => exact la_X12_34
  | 35, _ => exact la_X12_35
  | 36, _ => exact la_X12_36
  | 37, _ => exact la_X12_37
  | 38, _ => exact la_X12_38
  | 39, _ => exact la_X12_39
  | 40, _ => exact la_X12_40
  | 41, _ => exact la_X12_41
  | 42, _ => exact la_X12_42
  | 43, _ => exact la_X12_43
  | 44, _ => exact la_X12_44
  | 45, _ => exact la_X12_45
  | 46, _ => exact la_X12_46
  | 47, _ => exact la_X12_47
  | 48, _ => exact la_X12_48
  | 49, _ => exact la_X12_49
  | 50, _ => exact la_X12_50
  | 51, _ => exact la_X12_51
  | 52, _ => exact la_X12_52
  | 53, _ => exact la_X12_53
  | 54, _ => exact la_X12_54
  | 55, _ => exact la_X12_55
  | 56, _ => exact la_X12_56
  | 57, _ => exact la_X12_57
  | 58, _ => exact la_X12_58
  | 59, _ => exact la_X12_59
  | n + 60, h => exact absurd h (by omega)
theorem fl_X8_9 : g_FL RX8 9 8 0 (.array .char) true := ⟨RX8, TX8, 8, tyX8, rfl, inT_X8, by decide, tyX8_ok, nmX8, rfl, rfl, rfl, Or.inl (g_inT1 (i := 40) (by decide +kernel) (by decide +kernel))⟩
theorem fd_X8_9 : Cond.fieldLink RX8 9 RX8 (TX8 0).2.1 (TX8 0).2.2.1 ∈ g_T := g_inT1 (i := 40) (by decide +kernel) (by decide +kernel)
theorem fl_X11_98 : g_FL RX11 98 8 1 (.int) false := ⟨RX8, TX8, 8, tyX8, rfl, inT_X8, by decide, tyX8_ok, nmX8, rfl, rfl, rfl, Or.inr ⟨"StoneReaders", g_inN1 (i := 41) (by decide +kernel) (by decide +kernel)⟩⟩
theorem fl_X8_17 : g_FL RX8 17 8 1 (.int) false := ⟨RX8, TX8, 8, tyX8, rfl, inT_X8, by decide, tyX8_ok, nmX8, rfl, rfl, rfl, Or.inl (g_inT1 (i := 42) (by decide +kernel) (by decide +kernel))⟩
theorem fd_X8_17 : Cond.fieldLink RX8 17 RX8 (TX8 1).2.1 (TX8 1).2.2.1 ∈ g_T := g_inT1 (i := 42) (by decide +kernel) (by decide +kernel)
theorem fl_X8_33 : g_FL RX8 33 8 2 (.int) false := ⟨RX8, TX8, 8, tyX8, rfl, inT_X8, by decide, tyX8_ok, nmX8, rfl, rfl, rfl, Or.inl (g_inT1 (i := 43) (by decide +kernel) (by decide +kernel))⟩
theorem fd_X8_33 : Cond.fieldLink RX8 33 RX8 (TX8 2).2.1 (TX8 2).2.2.1 ∈ g_T := g_inT1 (i := 43) (by decide +kernel) (by decide +kernel)
theorem fl_X8_30 : g_FL RX8 30 8 3 (.int) false := ⟨RX8, TX8, 8, tyX8, rfl, inT_X8, by decide, tyX8_ok, nmX8, rfl, rfl, rfl, Or.inl (g_inT1 (i := 44) (by decide +kernel) (by decide +kernel))⟩
theorem fd_X8_30 : Cond.fieldLink RX8 30 RX8 (TX8 3).2.1 (TX8 3).2.2.1 ∈ g_T := g_inT1 (i := 44) (by decide +kernel) (by decide +kernel)
theorem fl_X8_21 : g_FL RX8 21 8 4 (.int) false := ⟨RX8, TX8, 8, tyX8, rfl, inT_X8, by decide, tyX8_ok, nmX8, rfl, rfl, rfl, Or.inl (g_inT1 (i := 45) (by decide +kernel) (by decide +kernel))⟩
theorem fd_X8_21 : Cond.fieldLink RX8 21 RX8 (TX8 4).2.1 (TX8 4).2.2.1 ∈ g_T := g_inT1 (i := 45) (by decide +kernel) (by decide +kernel)
theorem fl_X2_110 : g_FL RX2 110 8 5 (.long) false := ⟨RX8, TX8, 8, tyX8, rfl, inT_X8, by decide, tyX8_ok, nmX8, rfl, rfl, rfl, Or.inr ⟨"StoneReaders", g_inN1 (i := 46) (by decide +kernel) (by decide +kernel)⟩⟩
theorem fl_X5_92 : g_FL RX5 92 8 5 (.long) false := ⟨RX8, TX8, 8, tyX8, rfl, inT_X8, by decide, tyX8_ok, nmX8, rfl, rfl, rfl, Or.inr ⟨"StoneReaders", g_inN1 (i := 47) (by decide +kernel) (by decide +kernel)⟩⟩
theorem fl_X8_50 : g_FL RX8 50 8 5 (.long) false := ⟨RX8, TX8, 8, tyX8, rfl, inT_X8, by decide, tyX8_ok, nmX8, rfl, rfl, rfl, Or.inl (g_inT1 (i := 48) (by decide +kernel) (by decide +kernel))⟩
theorem fd_X8_50 : Cond.fieldLink RX8 50 RX8 (TX8 5).2.1 (TX8 5).2.2.1 ∈ g_T := g_inT1 (i := 48) (by decide +kernel) (by decide +kernel)
theorem fl_X4_60 : g_FL RX4 60 8 6 (.int) false := ⟨RX8, TX8, 8, tyX8, rfl, inT_X8, by decide, tyX8_ok, nmX8, rfl, rfl, rfl, Or.inr ⟨"StoneReaders", g_inN1 (i := 49) (by decide +kernel) (by decide +kernel)⟩⟩
theorem fl_X8_56 : g_FL RX8 56 8 6 (.int) false := ⟨RX8, TX8, 8, tyX8, rfl, inT_X8, by decide, tyX8_ok, nmX8, rfl, rfl, rfl, Or.inl (g_inT1 (i := 50) (by decide +kernel) (by decide +kernel))⟩
theorem fd_X8_56 : Cond.fieldLink RX8 56 RX8 (TX8 6).2.1 (TX8 6).2.2.1 ∈ g_T := g_inT1 (i := 50) (by decide +kernel) (by decide +kernel)
theorem fl_X2_195 : g_FL RX2 195 8 6 (.int) false := ⟨RX8, TX8, 8, tyX8, rfl, inT_X8, by decide, tyX8_ok, nmX8, rfl, rfl, rfl, Or.inr ⟨"StoneReaders", g_inN1 (i := 51) (by decide +kernel) (by decide +kernel)⟩⟩
theorem fl_X8_24 : g_FL RX8 24 8 7 (.int) false := ⟨RX8, TX8, 8, tyX8, rfl, inT_X8, by decide, tyX8_ok, nmX8, rfl, rfl, rfl, Or.inl (g_inT1 (i := 52) (by decide +kernel) (by decide +kernel))⟩
theorem fd_X8_24 : Cond.fieldLink RX8 24 RX8 (TX8 7).2.1 (TX8 7).2.2.1 ∈ g_T := g_inT1 (i := 52) (by decide +kernel) (by decide +kernel)
theorem fl_X4_9 : g_FL RX4 9 4 0 (.object "StoneReaders$Tape") true := ⟨RX4, TX4, 1, tyX4, rfl, inT_X4, by decide, tyX4_ok, nmX4, rfl, rfl, rfl, Or.inl (g_inT1 (i := 83) (by decide +kernel) (by decide +kernel))⟩
theorem fd_X4_9 : Cond.fieldLink RX4 9 RX4 (TX4 0).2.1 (TX4 0).2.2.1 ∈ g_T := g_inT1 (i := 83) (by decide +kernel) (by decide +kernel)
theorem fl_X2_9 : g_FL RX2 9 2 0 (.object "StoneReaders$Tape") true := ⟨RX2, TX2, 2, tyX2, rfl, inT_X2, by decide, tyX2_ok, nmX2, rfl, rfl, rfl, Or.inl (g_inT1 (i := 87) (by decide +kernel) (by decide +kernel))⟩
theorem fd_X2_9 : Cond.fieldLink RX2 9 RX2 (TX2 0).2.1 (TX2 0).2.2.1 ∈ g_T := g_inT1 (i := 87) (by decide +kernel) (by decide +kernel)
theorem fl_X2_20 : g_FL RX2 20 2 1 (.object "StoneReaders$LawReader") true := ⟨RX2, TX2, 2, tyX2, rfl, inT_X2, by decide, tyX2_ok, nmX2, rfl, rfl, rfl, Or.inl (g_inT1 (i := 88) (by decide +kernel) (by decide +kernel))⟩
theorem fd_X2_20 : Cond.fieldLink RX2 20 RX2 (TX2 1).2.1 (TX2 1).2.2.1 ∈ g_T := g_inT1 (i := 88) (by decide +kernel) (by decide +kernel)
theorem fl_X5_9 : g_FL RX5 9 5 0 (.object "StoneReaders$Tape") true := ⟨RX5, TX5, 1, tyX5, rfl, inT_X5, by decide, tyX5_ok, nmX5, rfl, rfl, rfl, Or.inl (g_inT1 (i := 100) (by decide +kernel) (by decide +kernel))⟩
theorem fd_X5_9 : Cond.fieldLink RX5 9 RX5 (TX5 0).2.1 (TX5 0).2.2.1 ∈ g_T := g_inT1 (i := 100) (by decide +kernel) (by decide +kernel)
theorem fl_X3_9 : g_FL RX3 9 3 0 (.array .int) true := ⟨RX3, TX3, 3, tyX3, rfl, inT_X3, by decide, tyX3_ok, nmX3, rfl, rfl, rfl, Or.inl (g_inT1 (i := 116) (by decide +kernel) (by decide +kernel))⟩
theorem fd_X3_9 : Cond.fieldLink RX3 9 RX3 (TX3 0).2.1 (TX3 0).2.2.1 ∈ g_T := g_inT1 (i := 116) (by decide +kernel) (by decide +kernel)
theorem fl_X3_18 : g_FL RX3 18 3 1 (.int) false := ⟨RX3, TX3, 3, tyX3, rfl, inT_X3, by decide, tyX3_ok, nmX3, rfl, rfl, rfl, Or.inl (g_inT1 (i := 117) (by decide +kernel) (by decide +kernel))⟩
theorem fd_X3_18 : Cond.fieldLink RX3 18 RX3 (TX3 1).2.1 (TX3 1).2.2.1 ∈ g_T := g_inT1 (i := 117) (by decide +kernel) (by decide +kernel)
theorem fl_X1_60 : g_FL RX1 60 3 1 (.int) false := ⟨RX3, TX3, 3, tyX3, rfl, inT_X3, by decide, tyX3_ok, nmX3, rfl, rfl, rfl, Or.inr ⟨"StoneReaders", g_inN1 (i := 118) (by decide +kernel) (by decide +kernel)⟩⟩
theorem fl_X2_87 : g_FL RX2 87 3 1 (.int) false := ⟨RX3, TX3, 3, tyX3, rfl, inT_X3, by decide, tyX3_ok, nmX3, rfl, rfl, rfl, Or.inr ⟨"StoneReaders", g_inN1 (i := 119) (by decide +kernel) (by decide +kernel)⟩⟩
theorem fl_X3_15 : g_FL RX3 15 3 2 (.array .int) true := ⟨RX3, TX3, 3, tyX3, rfl, inT_X3, by decide, tyX3_ok, nmX3, rfl, rfl, rfl, Or.inl (g_inT1 (i := 120) (by decide +kernel) (by decide +kernel))⟩
theorem fd_X3_15 : Cond.fieldLink RX3 15 RX3 (TX3 2).2.1 (TX3 2).2.2.1 ∈ g_T := g_inT1 (i := 120) (by decide +kernel) (by decide +kernel)
theorem fl_X1_50 : g_FL RX1 50 1 0 (.int) false := ⟨RX1, TX1, 14, tyX1, rfl, inT_X1, by decide, tyX1_ok, nmX1, rfl, rfl, rfl, Or.inl (g_inT1 (i := 130) (by decide +kernel) (by decide +kernel))⟩
theorem fd_X1_50 : Cond.fieldLink RX1 50 RX1 (TX1 0).2.1 (TX1 0).2.2.1 ∈ g_T := g_inT1 (i := 130) (by decide +kernel) (by decide +kernel)
theorem fl_X2_100 : g_FL RX2 100 1 0 (.int) false := ⟨RX1, TX1, 14, tyX1, rfl, inT_X1, by decide, tyX1_ok, nmX1, rfl, rfl, rfl, Or.inr ⟨"StoneReaders", g_inN1 (i := 131) (by decide +kernel) (by decide +kernel)⟩⟩
theorem fl_X9_65 : g_FL RX9 65 1 0 (.int) false := ⟨RX1, TX1, 14, tyX1, rfl, inT_X1, by decide, tyX1_ok, nmX1, rfl, rfl, rfl, Or.inr ⟨"StoneReaders", g_inN1 (i := 132) (by decide +kernel) (by decide +kernel)⟩⟩
theorem fl_X11_212 : g_FL RX11 212 1 0 (.int) false := ⟨RX1, TX1, 14, tyX1, rfl, inT_X1, by decide, tyX1_ok, nmX1, rfl, rfl, rfl, Or.inr ⟨"StoneReaders", g_inN1 (i := 133) (by decide +kernel) (by decide +kernel)⟩⟩
theorem fl_X1_9 : g_FL RX1 9 1 1 (.array .long) true := ⟨RX1, TX1, 14, tyX1, rfl, inT_X1, by decide, tyX1_ok, nmX1, rfl, rfl, rfl, Or.inl (g_inT1 (i := 134) (by decide +kernel) (by decide +kernel))⟩
theorem fd_X1_9 : Cond.fieldLink RX1 9 RX1 (TX1 1).2.1 (TX1 1).2.2.1 ∈ g_T := g_inT1 (i := 134) (by decide +kernel) (by decide +kernel)
theorem fl_X2_106 : g_FL RX2 106 1 1 (.array .long) true := ⟨RX1, TX1, 14, tyX1, rfl, inT_X1, by decide, tyX1_ok, nmX1, rfl, rfl, rfl, Or.inr ⟨"StoneReaders", g_inN1 (i := 135) (by decide +kernel) (by decide +kernel)⟩⟩
theorem fl_X1_15 : g_FL RX1 15 1 2 (.array .int) true := ⟨RX1, TX1, 14, tyX1, rfl, inT_X1, by decide, tyX1_ok, nmX1, rfl, rfl, rfl, Or.inl (g_inT1 (i := 136) (by decide +kernel) (by decide +kernel))⟩
theorem fd_X1_15 : Cond.fieldLink RX1 15 RX1 (TX1 2).2.1 (TX1 2).2.2.1 ∈ g_T := g_inT1 (i := 136) (by decide +kernel) (by decide +kernel)
theorem fl_X2_114 : g_FL RX2 114 1 2 (.array .int) true := ⟨RX1, TX1, 14, tyX1, rfl, inT_X1, by decide, tyX1_ok, nmX1, rfl, rfl, rfl, Or.inr ⟨"StoneReaders", g_inN1 (i := 137) (by decide +kernel) (by decide +kernel)⟩⟩
theorem fl_X11_121 : g_FL RX11 121 1 2 (.array .int) true := ⟨RX1, TX1, 14, tyX1, rfl, inT_X1, by decide, tyX1_ok, nmX1, rfl, rfl, rfl, Or.inr ⟨"StoneReaders", g_inN1 (i := 138) (by decide +kernel) (by decide +kernel)⟩⟩
theorem fl_X1_19 : g_FL RX1 19 1 3 (.array .int) true := ⟨RX1, TX1, 14, tyX1, rfl, inT_X1, by decide, tyX1_ok, nmX1, rfl, rfl, rfl, Or.inl (g_inT1 (i := 139) (by decide +kernel) (by decide +kernel))⟩
theorem fd_X1_19 : Cond.fieldLink RX1 19 RX1 (TX1 3).2.1 (TX1 3).2.2.1 ∈ g_T := g_inT1 (i := 139) (by decide +kernel) (by decide +kernel)
theorem fl_X2_121 : g_FL RX2 121 1 3 (.array .int) true := ⟨RX1, TX1, 14, tyX1, rfl, inT_X1, by decide, tyX1_ok, nmX1, rfl, rfl, rfl, Or.inr ⟨"StoneReaders", g_inN1 (i := 140) (by decide +kernel) (by decide +kernel)⟩⟩
theorem fl_X11_124 : g_FL RX11 124 1 3 (.array .int) true := ⟨RX1, TX1, 14, tyX1, rfl, inT_X1, by decide, tyX1_ok, nmX1, rfl, rfl, rfl, Or.inr ⟨"StoneReaders", g_inN1 (i := 141) (by decide +kernel) (by decide +kernel)⟩⟩
theorem fl_X9_102 : g_FL RX9 102 1 3 (.array .int) true := ⟨RX1, TX1, 14, tyX1, rfl, inT_X1, by decide, tyX1_ok, nmX1, rfl, rfl, rfl, Or.inr ⟨"StoneReaders", g_inN1 (i := 142) (by decide +kernel) (by decide +kernel)⟩⟩
theorem fl_X1_22 : g_FL RX1 22 1 4 (.array .int) true := ⟨RX1, TX1, 14, tyX1, rfl, inT_X1, by decide, tyX1_ok, nmX1, rfl, rfl, rfl, Or.inl (g_inT1 (i := 143) (by decide +kernel) (by decide +kernel))⟩
theorem fd_X1_22 : Cond.fieldLink RX1 22 RX1 (TX1 4).2.1 (TX1 4).2.2.1 ∈ g_T := g_inT1 (i := 143) (by decide +kernel) (by decide +kernel)
theorem fl_X2_129 : g_FL RX2 129 1 4 (.array .int) true := ⟨RX1, TX1, 14, tyX1, rfl, inT_X1, by decide, tyX1_ok, nmX1, rfl, rfl, rfl, Or.inr ⟨"StoneReaders", g_inN1 (i := 144) (by decide +kernel) (by decide +kernel)⟩⟩
theorem fl_X11_127 : g_FL RX11 127 1 4 (.array .int) true := ⟨RX1, TX1, 14, tyX1, rfl, inT_X1, by decide, tyX1_ok, nmX1, rfl, rfl, rfl, Or.inr ⟨"StoneReaders", g_inN1 (i := 145) (by decide +kernel) (by decide +kernel)⟩⟩
theorem fl_X9_68 : g_FL RX9 68 1 4 (.array .int) true := ⟨RX1, TX1, 14, tyX1, rfl, inT_X1, by decide, tyX1_ok, nmX1, rfl, rfl, rfl, Or.inr ⟨"StoneReaders", g_inN1 (i := 146) (by decide +kernel) (by decide +kernel)⟩⟩
theorem fl_X1_25 : g_FL RX1 25 1 5 (.array .int) true := ⟨RX1, TX1, 14, tyX1, rfl, inT_X1, by decide, tyX1_ok, nmX1, rfl, rfl, rfl, Or.inl (g_inT1 (i := 147) (by decide +kernel) (by decide +kernel))⟩
theorem fd_X1_25 : Cond.fieldLink RX1 25 RX1 (TX1 5).2.1 (TX1 5).2.2.1 ∈ g_T := g_inT1 (i := 147) (by decide +kernel) (by decide +kernel)
theorem fl_X2_133 : g_FL RX2 133 1 5 (.array .int) true := ⟨RX1, TX1, 14, tyX1, rfl, inT_X1, by decide, tyX1_ok, nmX1, rfl, rfl, rfl, Or.inr ⟨"StoneReaders", g_inN1 (i := 148) (by decide +kernel) (by decide +kernel)⟩⟩
theorem fl_X11_130 : g_FL RX11 130 1 5 (.array .int) true := ⟨RX1, TX1, 14, tyX1, rfl, inT_X1, by decide, tyX1_ok, nmX1, rfl, rfl, rfl, Or.inr ⟨"StoneReaders", g_inN1 (i := 149) (by decide +kernel) (by decide +kernel)⟩⟩
theorem fl_X9_89 : g_FL RX9 89 1 5 (.array .int) true := ⟨RX1, TX1, 14, tyX1, rfl, inT_X1, by decide, tyX1_ok, nmX1, rfl, rfl, rfl, Or.inr ⟨"StoneReaders", g_inN1 (i := 150) (by decide +kernel) (by decide +kernel)⟩⟩
theorem fl_X1_28 : g_FL RX1 28 1 6 (.array .int) true := ⟨RX1, TX1, 14, tyX1, rfl, inT_X1, by decide, tyX1_ok, nmX1, rfl, rfl, rfl, Or.inl (g_inT1 (i := 151) (by decide +kernel) (by decide +kernel))⟩
theorem fd_X1_28 : Cond.fieldLink RX1 28 RX1 (TX1 6).2.1 (TX1 6).2.2.1 ∈ g_T := g_inT1 (i := 151) (by decide +kernel) (by decide +kernel)
theorem fl_X2_137 : g_FL RX2 137 1 6 (.array .int) true := ⟨RX1, TX1, 14, tyX1, rfl, inT_X1, by decide, tyX1_ok, nmX1, rfl, rfl, rfl, Or.inr ⟨"StoneReaders", g_inN1 (i := 152) (by decide +kernel) (by decide +kernel)⟩⟩
theorem fl_X11_133 : g_FL RX11 133 1 6 (.array .int) true := ⟨RX1, TX1, 14, tyX1, rfl, inT_X1, by decide, tyX1_ok, nmX1, rfl, rfl, rfl, Or.inr ⟨"StoneReaders", g_inN1 (i := 153) (by decide +kernel) (by decide +kernel)⟩⟩
theorem fl_X9_92 : g_FL RX9 92 1 6 (.array .int) true := ⟨RX1, TX1, 14, tyX1, rfl, inT_X1, by decide, tyX1_ok, nmX1, rfl, rfl, rfl, Or.inr ⟨"StoneReaders", g_inN1 (i := 154) (by decide +kernel) (by decide +kernel)⟩⟩
theorem fl_X1_31 : g_FL RX1 31 1 7 (.array .int) true := ⟨RX1, TX1, 14, tyX1, rfl, inT_X1, by decide, tyX1_ok, nmX1, rfl, rfl, rfl, Or.inl (g_inT1 (i := 155) (by decide +kernel) (by decide +kernel))⟩
theorem fd_X1_31 : Cond.fieldLink RX1 31 RX1 (TX1 7).2.1 (TX1 7).2.2.1 ∈ g_T := g_inT1 (i := 155) (by decide +kernel) (by decide +kernel)
theorem fl_X9_71 : g_FL RX9 71 1 7 (.array .int) true := ⟨RX1, TX1, 14, tyX1, rfl, inT_X1, by decide, tyX1_ok, nmX1, rfl, rfl, rfl, Or.inr ⟨"StoneReaders", g_inN1 (i := 156) (by decide +kernel) (by decide +kernel)⟩⟩
theorem fl_X1_54 : g_FL RX1 54 1 8 (.int) false := ⟨RX1, TX1, 14, tyX1, rfl, inT_X1, by decide, tyX1_ok, nmX1, rfl, rfl, rfl, Or.inl (g_inT1 (i := 157) (by decide +kernel) (by decide +kernel))⟩
theorem fd_X1_54 : Cond.fieldLink RX1 54 RX1 (TX1 8).2.1 (TX1 8).2.2.1 ∈ g_T := g_inT1 (i := 157) (by decide +kernel) (by decide +kernel)
theorem fl_X2_169 : g_FL RX2 169 1 8 (.int) false := ⟨RX1, TX1, 14, tyX1, rfl, inT_X1, by decide, tyX1_ok, nmX1, rfl, rfl, rfl, Or.inr ⟨"StoneReaders", g_inN1 (i := 158) (by decide +kernel) (by decide +kernel)⟩⟩
theorem fl_X11_250 : g_FL RX11 250 1 8 (.int) false := ⟨RX1, TX1, 14, tyX1, rfl, inT_X1, by decide, tyX1_ok, nmX1, rfl, rfl, rfl, Or.inr ⟨"StoneReaders", g_inN1 (i := 159) (by decide +kernel) (by decide +kernel)⟩⟩
theorem fl_X1_34 : g_FL RX1 34 1 9 (.array .long) true := ⟨RX1, TX1, 14, tyX1, rfl, inT_X1, by decide, tyX1_ok, nmX1, rfl, rfl, rfl, Or.inl (g_inT1 (i := 160) (by decide +kernel) (by decide +kernel))⟩
theorem fd_X1_34 : Cond.fieldLink RX1 34 RX1 (TX1 9).2.1 (TX1 9).2.2.1 ∈ g_T := g_inT1 (i := 160) (by decide +kernel) (by decide +kernel)
theorem fl_X2_172 : g_FL RX2 172 1 9 (.array .long) true := ⟨RX1, TX1, 14, tyX1, rfl, inT_X1, by decide, tyX1_ok, nmX1, rfl, rfl, rfl, Or.inr ⟨"StoneReaders", g_inN1 (i := 161) (by decide +kernel) (by decide +kernel)⟩⟩
theorem fl_X1_37 : g_FL RX1 37 1 10 (.array .int) true := ⟨RX1, TX1, 14, tyX1, rfl, inT_X1, by decide, tyX1_ok, nmX1, rfl, rfl, rfl, Or.inl (g_inT1 (i := 162) (by decide +kernel) (by decide +kernel))⟩
theorem fd_X1_37 : Cond.fieldLink RX1 37 RX1 (TX1 10).2.1 (TX1 10).2.2.1 ∈ g_T := g_inT1 (i := 162) (by decide +kernel) (by decide +kernel)
theorem fl_X11_148 : g_FL RX11 148 1 10 (.array .int) true := ⟨RX1, TX1, 14, tyX1, rfl, inT_X1, by decide, tyX1_ok, nmX1, rfl, rfl, rfl, Or.inr ⟨"StoneReaders", g_inN1 (i := 163) (by decide +kernel) (by decide +kernel)⟩⟩
theorem fl_X2_184 : g_FL RX2 184 1 10 (.array .int) true := ⟨RX1, TX1, 14, tyX1, rfl, inT_X1, by decide, tyX1_ok, nmX1, rfl, rfl, rfl, Or.inr ⟨"StoneReaders", g_inN1 (i := 164) (by decide +kernel) (by decide +kernel)⟩⟩
theorem fl_X1_57 : g_FL RX1 57 1 11 (.int) false := ⟨RX1, TX1, 14, tyX1, rfl, inT_X1, by decide, tyX1_ok, nmX1, rfl, rfl, rfl, Or.inl (g_inT1 (i := 165) (by decide +kernel) (by decide +kernel))⟩
theorem fd_X1_57 : Cond.fieldLink RX1 57 RX1 (TX1 11).2.1 (TX1 11).2.2.1 ∈ g_T := g_inT1 (i := 165) (by decide +kernel) (by decide +kernel)
theorem fl_X2_187 : g_FL RX2 187 1 11 (.int) false := ⟨RX1, TX1, 14, tyX1, rfl, inT_X1, by decide, tyX1_ok, nmX1, rfl, rfl, rfl, Or.inr ⟨"StoneReaders", g_inN1 (i := 166) (by decide +kernel) (by decide +kernel)⟩⟩
theorem fl_X1_40 : g_FL RX1 40 1 12 (.array .int) true := ⟨RX1, TX1, 14, tyX1, rfl, inT_X1, by decide, tyX1_ok, nmX1, rfl, rfl, rfl, Or.inl (g_inT1 (i := 167) (by decide +kernel) (by decide +kernel))⟩
theorem fd_X1_40 : Cond.fieldLink RX1 40 RX1 (TX1 12).2.1 (TX1 12).2.2.1 ∈ g_T := g_inT1 (i := 167) (by decide +kernel) (by decide +kernel)
theorem fl_X2_190 : g_FL RX2 190 1 12 (.array .int) true := ⟨RX1, TX1, 14, tyX1, rfl, inT_X1, by decide, tyX1_ok, nmX1, rfl, rfl, rfl, Or.inr ⟨"StoneReaders", g_inN1 (i := 168) (by decide +kernel) (by decide +kernel)⟩⟩
theorem fl_X1_46 : g_FL RX1 46 1 13 (.object "StoneReaders$Law") true := ⟨RX1, TX1, 14, tyX1, rfl, inT_X1, by decide, tyX1_ok, nmX1, rfl, rfl, rfl, Or.inl (g_inT1 (i := 169) (by decide +kernel) (by decide +kernel))⟩
theorem fd_X1_46 : Cond.fieldLink RX1 46 RX1 (TX1 13).2.1 (TX1 13).2.2.1 ∈ g_T := g_inT1 (i := 169) (by decide +kernel) (by decide +kernel)
theorem fl_X2_83 : g_FL RX2 83 1 13 (.object "StoneReaders$Law") true := ⟨RX1, TX1, 14, tyX1, rfl, inT_X1, by decide, tyX1_ok, nmX1, rfl, rfl, rfl, Or.inr ⟨"StoneReaders", g_inN1 (i := 170) (by decide +kernel) (by decide +kernel)⟩⟩
theorem fl_X9_98 : g_FL RX9 98 1 13 (.object "StoneReaders$Law") true := ⟨RX1, TX1, 14, tyX1, rfl, inT_X1, by decide, tyX1_ok, nmX1, rfl, rfl, rfl, Or.inr ⟨"StoneReaders", g_inN1 (i := 171) (by decide +kernel) (by decide +kernel)⟩⟩
theorem fl_X5_15 : g_FL RX5 15 0 0 (.int) false := ⟨RX0, TX0, 4, tyX0, rfl, inT_X0, by decide, tyX0_ok, nmX0, rfl, rfl, rfl, Or.inr ⟨"StoneReaders", g_inN1 (i := 207) (by decide +kernel) (by decide +kernel)⟩⟩
theorem fl_X0_21 : g_FL RX0 21 0 0 (.int) false := ⟨RX0, TX0, 4, tyX0, rfl, inT_X0, by decide, tyX0_ok, nmX0, rfl, rfl, rfl, Or.inl (g_inT1 (i := 208) (by decide +kernel) (by decide +kernel))⟩
theorem fd_X0_21 : Cond.fieldLink RX0 21 RX0 (TX0 0).2.1 (TX0 0).2.2.1 ∈ g_T := g_inT1 (i := 208) (by decide +kernel) (by decide +kernel)
theorem fl_X11_195 : g_FL RX11 195 0 0 (.int) false := ⟨RX0, TX0, 4, tyX0, rfl, inT_X0, by decide, tyX0_ok, nmX0, rfl, rfl, rfl, Or.inr ⟨"StoneReaders", g_inN1 (i := 209) (by decide +kernel) (by decide +kernel)⟩⟩
theorem fl_X0_9 : g_FL RX0 9 0 1 (.array .int) true := ⟨RX0, TX0, 4, tyX0, rfl, inT_X0, by decide, tyX0_ok, nmX0, rfl, rfl, rfl, Or.inl (g_inT1 (i := 210) (by decide +kernel) (by decide +kernel))⟩
theorem fd_X0_9 : Cond.fieldLink RX0 9 RX0 (TX0 1).2.1 (TX0 1).2.2.1 ∈ g_T := g_inT1 (i := 210) (by decide +kernel) (by decide +kernel)
theorem fl_X5_52 : g_FL RX5 52 0 1 (.array .int) true := ⟨RX0, TX0, 4, tyX0, rfl, inT_X0, by decide, tyX0_ok, nmX0, rfl, rfl, rfl, Or.inr ⟨"StoneReaders", g_inN1 (i := 211) (by decide +kernel) (by decide +kernel)⟩⟩
theorem fl_X11_340 : g_FL RX11 340 0 1 (.array .int) true := ⟨RX0, TX0, 4, tyX0, rfl, inT_X0, by decide, tyX0_ok, nmX0, rfl, rfl, rfl, Or.inr ⟨"StoneReaders", g_inN1 (i := 212) (by decide +kernel) (by decide +kernel)⟩⟩
theorem fl_X0_15 : g_FL RX0 15 0 2 (.array .int) true := ⟨RX0, TX0, 4, tyX0, rfl, inT_X0, by decide, tyX0_ok, nmX0, rfl, rfl, rfl, Or.inl (g_inT1 (i := 213) (by decide +kernel) (by decide +kernel))⟩
theorem fd_X0_15 : Cond.fieldLink RX0 15 RX0 (TX0 2).2.1 (TX0 2).2.2.1 ∈ g_T := g_inT1 (i := 213) (by decide +kernel) (by decide +kernel)
theorem fl_X5_60 : g_FL RX5 60 0 2 (.array .int) true := ⟨RX0, TX0, 4, tyX0, rfl, inT_X0, by decide, tyX0_ok, nmX0, rfl, rfl, rfl, Or.inr ⟨"StoneReaders", g_inN1 (i := 214) (by decide +kernel) (by decide +kernel)⟩⟩
theorem fl_X11_337 : g_FL RX11 337 0 2 (.array .int) true := ⟨RX0, TX0, 4, tyX0, rfl, inT_X0, by decide, tyX0_ok, nmX0, rfl, rfl, rfl, Or.inr ⟨"StoneReaders", g_inN1 (i := 215) (by decide +kernel) (by decide +kernel)⟩⟩
theorem fl_X0_18 : g_FL RX0 18 0 3 (.array .int) true := ⟨RX0, TX0, 4, tyX0, rfl, inT_X0, by decide, tyX0_ok, nmX0, rfl, rfl, rfl, Or.inl (g_inT1 (i := 216) (by decide +kernel) (by decide +kernel))⟩
theorem fd_X0_18 : Cond.fieldLink RX0 18 RX0 (TX0 3).2.1 (TX0 3).2.2.1 ∈ g_T := g_inT1 (i := 216) (by decide +kernel) (by decide +kernel)
theorem fl_X5_63 : g_FL RX5 63 0 3 (.array .int) true := ⟨RX0, TX0, 4, tyX0, rfl, inT_X0, by decide, tyX0_ok, nmX0, rfl, rfl, rfl, Or.inr ⟨"StoneReaders", g_inN1 (i := 217) (by decide +kernel) (by decide +kernel)⟩⟩
theorem fl_X11_343 : g_FL RX11 343 0 3 (.array .int) true := ⟨RX0, TX0, 4, tyX0, rfl, inT_X0, by decide, tyX0_ok, nmX0, rfl, rfl, rfl, Or.inr ⟨"StoneReaders", g_inN1 (i := 218) (by decide +kernel) (by decide +kernel)⟩⟩
theorem fl_X10_15 : g_FL RX10 15 10 0 (.int) false := ⟨RX10, TX10, 2, tyX10, rfl, inT_X10, by decide, tyX10_ok, nmX10, rfl, rfl, rfl, Or.inl (g_inT1 (i := 234) (by decide +kernel) (by decide +kernel))⟩
theorem fd_X10_15 : Cond.fieldLink RX10 15 RX10 (TX10 0).2.1 (TX10 0).2.2.1 ∈ g_T := g_inT1 (i := 234) (by decide +kernel) (by decide +kernel)
theorem fl_X5_82 : g_FL RX5 82 10 0 (.int) false := ⟨RX10, TX10, 2, tyX10, rfl, inT_X10, by decide, tyX10_ok, nmX10, rfl, rfl, rfl, Or.inr ⟨"StoneReaders", g_inN1 (i := 235) (by decide +kernel) (by decide +kernel)⟩⟩
theorem fl_X9_111 : g_FL RX9 111 10 0 (.int) false := ⟨RX10, TX10, 2, tyX10, rfl, inT_X10, by decide, tyX10_ok, nmX10, rfl, rfl, rfl, Or.inr ⟨"StoneReaders", g_inN1 (i := 236) (by decide +kernel) (by decide +kernel)⟩⟩
theorem fl_X11_257 : g_FL RX11 257 10 0 (.int) false := ⟨RX10, TX10, 2, tyX10, rfl, inT_X10, by decide, tyX10_ok, nmX10, rfl, rfl, rfl, Or.inr ⟨"StoneReaders", g_inN1 (i := 237) (by decide +kernel) (by decide +kernel)⟩⟩
theorem fl_X10_9 : g_FL RX10 9 10 1 (.array .int) true := ⟨RX10, TX10, 2, tyX10, rfl, inT_X10, by decide, tyX10_ok, nmX10, rfl, rfl, rfl, Or.inl (g_inT1 (i := 238) (by decide +kernel) (by decide +kernel))⟩
theorem fd_X10_9 : Cond.fieldLink RX10 9 RX10 (TX10 1).2.1 (TX10 1).2.2.1 ∈ g_T := g_inT1 (i := 238) (by decide +kernel) (by decide +kernel)
theorem fl_X5_102 : g_FL RX5 102 10 1 (.array .int) true := ⟨RX10, TX10, 2, tyX10, rfl, inT_X10, by decide, tyX10_ok, nmX10, rfl, rfl, rfl, Or.inr ⟨"StoneReaders", g_inN1 (i := 239) (by decide +kernel) (by decide +kernel)⟩⟩
theorem fl_X9_120 : g_FL RX9 120 10 1 (.array .int) true := ⟨RX10, TX10, 2, tyX10, rfl, inT_X10, by decide, tyX10_ok, nmX10, rfl, rfl, rfl, Or.inr ⟨"StoneReaders", g_inN1 (i := 240) (by decide +kernel) (by decide +kernel)⟩⟩
theorem fl_X7_19 : g_FL RX7 19 7 0 (.int) false := ⟨RX7, TX7, 3, tyX7, rfl, inT_X7, by decide, tyX7_ok, nmX7, rfl, rfl, rfl, Or.inl (g_inT1 (i := 252) (by decide +kernel) (by decide +kernel))⟩
theorem fd_X7_19 : Cond.fieldLink RX7 19 RX7 (TX7 0).2.1 (TX7 0).2.2.1 ∈ g_T := g_inT1 (i := 252) (by decide +kernel) (by decide +kernel)
theorem fl_X11_333 : g_FL RX11 333 7 0 (.int) false := ⟨RX7, TX7, 3, tyX7, rfl, inT_X7, by decide, tyX7_ok, nmX7, rfl, rfl, rfl, Or.inr ⟨"StoneReaders", g_inN1 (i := 253) (by decide +kernel) (by decide +kernel)⟩⟩
theorem fl_X7_9 : g_FL RX7 9 7 1 (.array .int) true := ⟨RX7, TX7, 3, tyX7, rfl, inT_X7, by decide, tyX7_ok, nmX7, rfl, rfl, rfl, Or.inl (g_inT1 (i := 254) (by decide +kernel) (by decide +kernel))⟩
theorem fd_X7_9 : Cond.fieldLink RX7 9 RX7 (TX7 1).2.1 (TX7 1).2.2.1 ∈ g_T := g_inT1 (i := 254) (by decide +kernel) (by decide +kernel)
theorem fl_X7_15 : g_FL RX7 15 7 2 (.array .boolean) true := ⟨RX7, TX7, 3, tyX7, rfl, inT_X7, by decide, tyX7_ok, nmX7, rfl, rfl, rfl, Or.inl (g_inT1 (i := 255) (by decide +kernel) (by decide +kernel))⟩
theorem fd_X7_15 : Cond.fieldLink RX7 15 RX7 (TX7 2).2.1 (TX7 2).2.2.1 ∈ g_T := g_inT1 (i := 255) (by decide +kernel) (by decide +kernel)
theorem fl_X9_25 : g_FL RX9 25 9 0 (.int) false := ⟨RX9, TX9, 10, tyX9, rfl, inT_X9, by decide, tyX9_ok, nmX9, rfl, rfl, rfl, Or.inl (g_inT1 (i := 270) (by decide +kernel) (by decide +kernel))⟩
theorem fd_X9_25 : Cond.fieldLink RX9 25 RX9 (TX9 0).2.1 (TX9 0).2.2.1 ∈ g_T := g_inT1 (i := 270) (by decide +kernel) (by decide +kernel)
theorem fl_X11_160 : g_FL RX11 160 9 0 (.int) false := ⟨RX9, TX9, 10, tyX9, rfl, inT_X9, by decide, tyX9_ok, nmX9, rfl, rfl, rfl, Or.inr ⟨"StoneReaders", g_inN1 (i := 271) (by decide +kernel) (by decide +kernel)⟩⟩
theorem fl_X9_34 : g_FL RX9 34 9 1 (.int) false := ⟨RX9, TX9, 10, tyX9, rfl, inT_X9, by decide, tyX9_ok, nmX9, rfl, rfl, rfl, Or.inl (g_inT1 (i := 272) (by decide +kernel) (by decide +kernel))⟩
theorem fd_X9_34 : Cond.fieldLink RX9 34 RX9 (TX9 1).2.1 (TX9 1).2.2.1 ∈ g_T := g_inT1 (i := 272) (by decide +kernel) (by decide +kernel)
theorem fl_X11_330 : g_FL RX11 330 9 1 (.int) false := ⟨RX9, TX9, 10, tyX9, rfl, inT_X9, by decide, tyX9_ok, nmX9, rfl, rfl, rfl, Or.inr ⟨"StoneReaders", g_inN1 (i := 273) (by decide +kernel) (by decide +kernel)⟩⟩
theorem fl_X9_9 : g_FL RX9 9 9 2 (.array .int) true := ⟨RX9, TX9, 10, tyX9, rfl, inT_X9, by decide, tyX9_ok, nmX9, rfl, rfl, rfl, Or.inl (g_inT1 (i := 274) (by decide +kernel) (by decide +kernel))⟩
theorem fd_X9_9 : Cond.fieldLink RX9 9 RX9 (TX9 2).2.1 (TX9 2).2.2.1 ∈ g_T := g_inT1 (i := 274) (by decide +kernel) (by decide +kernel)
theorem fl_X11_136 : g_FL RX11 136 9 2 (.array .int) true := ⟨RX9, TX9, 10, tyX9, rfl, inT_X9, by decide, tyX9_ok, nmX9, rfl, rfl, rfl, Or.inr ⟨"StoneReaders", g_inN1 (i := 275) (by decide +kernel) (by decide +kernel)⟩⟩
theorem fl_X9_15 : g_FL RX9 15 9 3 (.array .int) true := ⟨RX9, TX9, 10, tyX9, rfl, inT_X9, by decide, tyX9_ok, nmX9, rfl, rfl, rfl, Or.inl (g_inT1 (i := 276) (by decide +kernel) (by decide +kernel))⟩
theorem fd_X9_15 : Cond.fieldLink RX9 15 RX9 (TX9 3).2.1 (TX9 3).2.2.1 ∈ g_T := g_inT1 (i := 276) (by decide +kernel) (by decide +kernel)
theorem fl_X11_142 : g_FL RX11 142 9 3 (.array .int) true := ⟨RX9, TX9, 10, tyX9, rfl, inT_X9, by decide, tyX9_ok, nmX9, rfl, rfl, rfl, Or.inr ⟨"StoneReaders", g_inN1 (i := 277) (by decide +kernel) (by decide +kernel)⟩⟩
theorem fl_X9_37 : g_FL RX9 37 9 4 (.int) false := ⟨RX9, TX9, 10, tyX9, rfl, inT_X9, by decide, tyX9_ok, nmX9, rfl, rfl, rfl, Or.inl (g_inT1 (i := 278) (by decide +kernel) (by decide +kernel))⟩
theorem fd_X9_37 : Cond.fieldLink RX9 37 RX9 (TX9 4).2.1 (TX9 4).2.2.1 ∈ g_T := g_inT1 (i := 278) (by decide +kernel) (by decide +kernel)
theorem fl_X11_247 : g_FL RX11 247 9 4 (.int) false := ⟨RX9, TX9, 10, tyX9, rfl, inT_X9, by decide, tyX9_ok, nmX9, rfl, rfl, rfl, Or.inr ⟨"StoneReaders", g_inN1 (i := 279) (by decide +kernel) (by decide +kernel)⟩⟩
theorem fl_X9_21 : g_FL RX9 21 9 5 (.int) false := ⟨RX9, TX9, 10, tyX9, rfl, inT_X9, by decide, tyX9_ok, nmX9, rfl, rfl, rfl, Or.inl (g_inT1 (i := 280) (by decide +kernel) (by decide +kernel))⟩
theorem fd_X9_21 : Cond.fieldLink RX9 21 RX9 (TX9 5).2.1 (TX9 5).2.2.1 ∈ g_T := g_inT1 (i := 280) (by decide +kernel) (by decide +kernel)
theorem fl_X11_209 : g_FL RX11 209 9 5 (.int) false := ⟨RX9, TX9, 10, tyX9, rfl, inT_X9, by decide, tyX9_ok, nmX9, rfl, rfl, rfl, Or.inr ⟨"StoneReaders", g_inN1 (i := 281) (by decide +kernel) (by decide +kernel)⟩⟩
theorem fl_X9_49 : g_FL RX9 49 9 6 (.int) false := ⟨RX9, TX9, 10, tyX9, rfl, inT_X9, by decide, tyX9_ok, nmX9, rfl, rfl, rfl, Or.inl (g_inT1 (i := 282) (by decide +kernel) (by decide +kernel))⟩
theorem fd_X9_49 : Cond.fieldLink RX9 49 RX9 (TX9 6).2.1 (TX9 6).2.2.1 ∈ g_T := g_inT1 (i := 282) (by decide +kernel) (by decide +kernel)
theorem fl_X9_62 : g_FL RX9 62 9 7 (.int) false := ⟨RX9, TX9, 10, tyX9, rfl, inT_X9, by decide, tyX9_ok, nmX9, rfl, rfl, rfl, Or.inl (g_inT1 (i := 283) (by decide +kernel) (by decide +kernel))⟩
theorem fd_X9_62 : Cond.fieldLink RX9 62 RX9 (TX9 7).2.1 (TX9 7).2.2.1 ∈ g_T := g_inT1 (i := 283) (by decide +kernel) (by decide +kernel)
theorem fl_X11_218 : g_FL RX11 218 9 7 (.int) false := ⟨RX9, TX9, 10, tyX9, rfl, inT_X9, by decide, tyX9_ok, nmX9, rfl, rfl, rfl, Or.inr ⟨"StoneReaders", g_inN1 (i := 284) (by decide +kernel) (by decide +kernel)⟩⟩
theorem fl_X9_18 : g_FL RX9 18 9 8 (.array .int) true := ⟨RX9, TX9, 10, tyX9, rfl, inT_X9, by decide, tyX9_ok, nmX9, rfl, rfl, rfl, Or.inl (g_inT1 (i := 285) (by decide +kernel) (by decide +kernel))⟩
theorem fd_X9_18 : Cond.fieldLink RX9 18 RX9 (TX9 8).2.1 (TX9 8).2.2.1 ∈ g_T := g_inT1 (i := 285) (by decide +kernel) (by decide +kernel)
theorem fl_X11_154 : g_FL RX11 154 9 8 (.array .int) true := ⟨RX9, TX9, 10, tyX9, rfl, inT_X9, by decide, tyX9_ok, nmX9, rfl, rfl, rfl, Or.inr ⟨"StoneReaders", g_inN1 (i := 286) (by decide +kernel) (by decide +kernel)⟩⟩
theorem fl_X9_40 : g_FL RX9 40 9 9 (.int) false := ⟨RX9, TX9, 10, tyX9, rfl, inT_X9, by decide, tyX9_ok, nmX9, rfl, rfl, rfl, Or.inl (g_inT1 (i := 287) (by decide +kernel) (by decide +kernel))⟩
theorem fd_X9_40 : Cond.fieldLink RX9 40 RX9 (TX9 9).2.1 (TX9 9).2.2.1 ∈ g_T := g_inT1 (i := 287) (by decide +kernel) (by decide +kernel)
theorem fl_X11_151 : g_FL RX11 151 9 9 (.int) false := ⟨RX9, TX9, 10, tyX9, rfl, inT_X9, by decide, tyX9_ok, nmX9, rfl, rfl, rfl, Or.inr ⟨"StoneReaders", g_inN1 (i := 288) (by decide +kernel) (by decide +kernel)⟩⟩
theorem fl_X11_307 : g_FL RX11 307 6 0 (.boolean) false := ⟨RX6, TX6, 5, tyX6, rfl, inT_X6, by decide, tyX6_ok, nmX6, rfl, rfl, rfl, Or.inr ⟨"StoneReaders", g_inN1 (i := 326) (by decide +kernel) (by decide +kernel)⟩⟩
theorem fl_X6_10 : g_FL RX6 10 6 1 (.object "StoneReaders$Wall") true := ⟨RX6, TX6, 5, tyX6, rfl, inT_X6, by decide, tyX6_ok, nmX6, rfl, rfl, rfl, Or.inl (g_inT1 (i := 327) (by decide +kernel) (by decide +kernel))⟩
theorem fd_X6_10 : Cond.fieldLink RX6 10 RX6 (TX6 1).2.1 (TX6 1).2.2.1 ∈ g_T := g_inT1 (i := 327) (by decide +kernel) (by decide +kernel)
theorem fl_X11_311 : g_FL RX11 311 6 1 (.object "StoneReaders$Wall") true := ⟨RX6, TX6, 5, tyX6, rfl, inT_X6, by decide, tyX6_ok, nmX6, rfl, rfl, rfl, Or.inr ⟨"StoneReaders", g_inN1 (i := 328) (by decide +kernel) (by decide +kernel)⟩⟩
theorem fl_X6_19 : g_FL RX6 19 6 2 (.object "StoneReaders$Day") true := ⟨RX6, TX6, 5, tyX6, rfl, inT_X6, by decide, tyX6_ok, nmX6, rfl, rfl, rfl, Or.inl (g_inT1 (i := 329) (by decide +kernel) (by decide +kernel))⟩
theorem fd_X6_19 : Cond.fieldLink RX6 19 RX6 (TX6 2).2.1 (TX6 2).2.2.1 ∈ g_T := g_inT1 (i := 329) (by decide +kernel) (by decide +kernel)
theorem fl_X11_314 : g_FL RX11 314 6 2 (.object "StoneReaders$Day") true := ⟨RX6, TX6, 5, tyX6, rfl, inT_X6, by decide, tyX6_ok, nmX6, rfl, rfl, rfl, Or.inr ⟨"StoneReaders", g_inN1 (i := 330) (by decide +kernel) (by decide +kernel)⟩⟩
theorem fl_X6_26 : g_FL RX6 26 6 3 (.object "StoneReaders$Word") true := ⟨RX6, TX6, 5, tyX6, rfl, inT_X6, by decide, tyX6_ok, nmX6, rfl, rfl, rfl, Or.inl (g_inT1 (i := 331) (by decide +kernel) (by decide +kernel))⟩
theorem fd_X6_26 : Cond.fieldLink RX6 26 RX6 (TX6 3).2.1 (TX6 3).2.2.1 ∈ g_T := g_inT1 (i := 331) (by decide +kernel) (by decide +kernel)
theorem fl_X11_320 : g_FL RX11 320 6 3 (.object "StoneReaders$Word") true := ⟨RX6, TX6, 5, tyX6, rfl, inT_X6, by decide, tyX6_ok, nmX6, rfl, rfl, rfl, Or.inr ⟨"StoneReaders", g_inN1 (i := 332) (by decide +kernel) (by decide +kernel)⟩⟩
theorem fl_X6_33 : g_FL RX6 33 6 4 (.object "StoneReaders$Seen") true := ⟨RX6, TX6, 5, tyX6, rfl, inT_X6, by decide, tyX6_ok, nmX6, rfl, rfl, rfl, Or.inl (g_inT1 (i := 333) (by decide +kernel) (by decide +kernel))⟩
theorem fd_X6_33 : Cond.fieldLink RX6 33 RX6 (TX6 4).2.1 (TX6 4).2.2.1 ∈ g_T := g_inT1 (i := 333) (by decide +kernel) (by decide +kernel)
theorem fl_X11_326 : g_FL RX11 326 6 4 (.object "StoneReaders$Seen") true := ⟨RX6, TX6, 5, tyX6, rfl, inT_X6, by decide, tyX6_ok, nmX6, rfl, rfl, rfl, Or.inr ⟨"StoneReaders", g_inN1 (i := 334) (by decide +kernel) (by decide +kernel)⟩⟩
theorem fl_X11_10 : g_FL RX11 10 11 0 (.object "StoneReaders$Tape") true := ⟨RX11, TX11, 18, tyX11, rfl, inT_X11, by decide, tyX11_ok, nmX11, rfl, rfl, rfl, Or.inl (g_inT1 (i := 346) (by decide +kernel) (by decide +kernel))⟩
theorem fd_X11_10 : Cond.fieldLink RX11 10 RX11 (TX11 0).2.1 (TX11 0).2.2.1 ∈ g_T := g_inT1 (i := 346) (by decide +kernel) (by decide +kernel)
theorem fl_X11_21 : g_FL RX11 21 11 1 (.object "StoneReaders$FrontReader") true := ⟨RX11, TX11, 18, tyX11, rfl, inT_X11, by decide, tyX11_ok, nmX11, rfl, rfl, rfl, Or.inl (g_inT1 (i := 347) (by decide +kernel) (by decide +kernel))⟩
theorem fd_X11_21 : Cond.fieldLink RX11 21 RX11 (TX11 1).2.1 (TX11 1).2.2.1 ∈ g_T := g_inT1 (i := 347) (by decide +kernel) (by decide +kernel)
theorem fl_X11_28 : g_FL RX11 28 11 2 (.object "StoneReaders$ListReader") true := ⟨RX11, TX11, 18, tyX11, rfl, inT_X11, by decide, tyX11_ok, nmX11, rfl, rfl, rfl, Or.inl (g_inT1 (i := 348) (by decide +kernel) (by decide +kernel))⟩
theorem fd_X11_28 : Cond.fieldLink RX11 28 RX11 (TX11 2).2.1 (TX11 2).2.2.1 ∈ g_T := g_inT1 (i := 348) (by decide +kernel) (by decide +kernel)
theorem fl_X11_35 : g_FL RX11 35 11 3 (.object "StoneReaders$Front") false := ⟨RX11, TX11, 18, tyX11, rfl, inT_X11, by decide, tyX11_ok, nmX11, rfl, rfl, rfl, Or.inl (g_inT1 (i := 349) (by decide +kernel) (by decide +kernel))⟩
theorem fd_X11_35 : Cond.fieldLink RX11 35 RX11 (TX11 3).2.1 (TX11 3).2.2.1 ∈ g_T := g_inT1 (i := 349) (by decide +kernel) (by decide +kernel)
theorem fl_X11_39 : g_FL RX11 39 11 4 (.object "StoneReaders$Front") false := ⟨RX11, TX11, 18, tyX11, rfl, inT_X11, by decide, tyX11_ok, nmX11, rfl, rfl, rfl, Or.inl (g_inT1 (i := 350) (by decide +kernel) (by decide +kernel))⟩
theorem fd_X11_39 : Cond.fieldLink RX11 39 RX11 (TX11 4).2.1 (TX11 4).2.2.1 ∈ g_T := g_inT1 (i := 350) (by decide +kernel) (by decide +kernel)
theorem fl_X11_45 : g_FL RX11 45 11 5 (.object "StoneReaders$Day") false := ⟨RX11, TX11, 18, tyX11, rfl, inT_X11, by decide, tyX11_ok, nmX11, rfl, rfl, rfl, Or.inl (g_inT1 (i := 351) (by decide +kernel) (by decide +kernel))⟩
theorem fd_X11_45 : Cond.fieldLink RX11 45 RX11 (TX11 5).2.1 (TX11 5).2.2.1 ∈ g_T := g_inT1 (i := 351) (by decide +kernel) (by decide +kernel)
theorem fl_X11_49 : g_FL RX11 49 11 6 (.object "StoneReaders$Day") false := ⟨RX11, TX11, 18, tyX11, rfl, inT_X11, by decide, tyX11_ok, nmX11, rfl, rfl, rfl, Or.inl (g_inT1 (i := 352) (by decide +kernel) (by decide +kernel))⟩
theorem fd_X11_49 : Cond.fieldLink RX11 49 RX11 (TX11 6).2.1 (TX11 6).2.2.1 ∈ g_T := g_inT1 (i := 352) (by decide +kernel) (by decide +kernel)
theorem fl_X11_55 : g_FL RX11 55 11 7 (.object "StoneReaders$Word") false := ⟨RX11, TX11, 18, tyX11, rfl, inT_X11, by decide, tyX11_ok, nmX11, rfl, rfl, rfl, Or.inl (g_inT1 (i := 353) (by decide +kernel) (by decide +kernel))⟩
theorem fd_X11_55 : Cond.fieldLink RX11 55 RX11 (TX11 7).2.1 (TX11 7).2.2.1 ∈ g_T := g_inT1 (i := 353) (by decide +kernel) (by decide +kernel)
theorem fl_X11_59 : g_FL RX11 59 11 8 (.object "StoneReaders$Word") false := ⟨RX11, TX11, 18, tyX11, rfl, inT_X11, by decide, tyX11_ok, nmX11, rfl, rfl, rfl, Or.inl (g_inT1 (i := 354) (by decide +kernel) (by decide +kernel))⟩
theorem fd_X11_59 : Cond.fieldLink RX11 59 RX11 (TX11 8).2.1 (TX11 8).2.2.1 ∈ g_T := g_inT1 (i := 354) (by decide +kernel) (by decide +kernel)
theorem fl_X11_65 : g_FL RX11 65 11 9 (.object "StoneReaders$Seen") true := ⟨RX11, TX11, 18, tyX11, rfl, inT_X11, by decide, tyX11_ok, nmX11, rfl, rfl, rfl, Or.inl (g_inT1 (i := 355) (by decide +kernel) (by decide +kernel))⟩
theorem fd_X11_65 : Cond.fieldLink RX11 65 RX11 (TX11 9).2.1 (TX11 9).2.2.1 ∈ g_T := g_inT1 (i := 355) (by decide +kernel) (by decide +kernel)
theorem fl_X11_72 : g_FL RX11 72 11 10 (.object "StoneReaders$Wall") true := ⟨RX11, TX11, 18, tyX11, rfl, inT_X11, by decide, tyX11_ok, nmX11, rfl, rfl, rfl, Or.inl (g_inT1 (i := 356) (by decide +kernel) (by decide +kernel))⟩
theorem fd_X11_72 : Cond.fieldLink RX11 72 RX11 (TX11 10).2.1 (TX11 10).2.2.1 ∈ g_T := g_inT1 (i := 356) (by decide +kernel) (by decide +kernel)
theorem fl_X11_76 : g_FL RX11 76 11 11 (.object "StoneReaders$Wall") true := ⟨RX11, TX11, 18, tyX11, rfl, inT_X11, by decide, tyX11_ok, nmX11, rfl, rfl, rfl, Or.inl (g_inT1 (i := 357) (by decide +kernel) (by decide +kernel))⟩
theorem fd_X11_76 : Cond.fieldLink RX11 76 RX11 (TX11 11).2.1 (TX11 11).2.2.1 ∈ g_T := g_inT1 (i := 357) (by decide +kernel) (by decide +kernel)
theorem fl_X11_79 : g_FL RX11 79 11 12 (.array (.object "StoneReaders$Wall")) true := ⟨RX11, TX11, 18, tyX11, rfl, inT_X11, by decide, tyX11_ok, nmX11, rfl, rfl, rfl, Or.inl (g_inT1 (i := 358) (by decide +kernel) (by decide +kernel))⟩
theorem fd_X11_79 : Cond.fieldLink RX11 79 RX11 (TX11 12).2.1 (TX11 12).2.2.1 ∈ g_T := g_inT1 (i := 358) (by decide +kernel) (by decide +kernel)
theorem fl_X11_184 : g_FL RX11 184 11 13 (.int) false := ⟨RX11, TX11, 18, tyX11, rfl, inT_X11, by decide, tyX11_ok, nmX11, rfl, rfl, rfl, Or.inl (g_inT1 (i := 359) (by decide +kernel) (by decide +kernel))⟩
theorem fd_X11_184 : Cond.fieldLink RX11 184 RX11 (TX11 13).2.1 (TX11 13).2.2.1 ∈ g_T := g_inT1 (i := 359) (by decide +kernel) (by decide +kernel)
theorem fl_X11_181 : g_FL RX11 181 11 14 (.int) false := ⟨RX11, TX11, 18, tyX11, rfl, inT_X11, by decide, tyX11_ok, nmX11, rfl, rfl, rfl, Or.inl (g_inT1 (i := 360) (by decide +kernel) (by decide +kernel))⟩
theorem fd_X11_181 : Cond.fieldLink RX11 181 RX11 (TX11 14).2.1 (TX11 14).2.2.1 ∈ g_T := g_inT1 (i := 360) (by decide +kernel) (by decide +kernel)
theorem fl_X11_85 : g_FL RX11 85 11 15 (.array (.object "StoneReaders$Mark")) true := ⟨RX11, TX11, 18, tyX11, rfl, inT_X11, by decide, tyX11_ok, nmX11, rfl, rfl, rfl, Or.inl (g_inT1 (i := 361) (by decide +kernel) (by decide +kernel))⟩
theorem fd_X11_85 : Cond.fieldLink RX11 85 RX11 (TX11 15).2.1 (TX11 15).2.2.1 ∈ g_T := g_inT1 (i := 361) (by decide +kernel) (by decide +kernel)
theorem fl_X11_90 : g_FL RX11 90 11 16 (.array .int) true := ⟨RX11, TX11, 18, tyX11, rfl, inT_X11, by decide, tyX11_ok, nmX11, rfl, rfl, rfl, Or.inl (g_inT1 (i := 362) (by decide +kernel) (by decide +kernel))⟩
theorem fd_X11_90 : Cond.fieldLink RX11 90 RX11 (TX11 16).2.1 (TX11 16).2.2.1 ∈ g_T := g_inT1 (i := 362) (by decide +kernel) (by decide +kernel)
theorem fl_X11_300 : g_FL RX11 300 11 17 (.long) false := ⟨RX11, TX11, 18, tyX11, rfl, inT_X11, by decide, tyX11_ok, nmX11, rfl, rfl, rfl, Or.inl (g_inT1 (i := 363) (by decide +kernel) (by decide +kernel))⟩
theorem fd_X11_300 : Cond.fieldLink RX11 300 RX11 (TX11 17).2.1 (TX11 17).2.2.1 ∈ g_T := g_inT1 (i := 363) (by decide +kernel) (by decide +kernel)
theorem fl_X12_147 : g_FL RX12 147 12 0 (.int) false := ⟨RX12, TX12, 60, tyX12, rfl, inT_X12, by decide, tyX12_ok, nmX12, rfl, rfl, rfl, Or.inl (g_inT1 (i := 1204) (by decide +kernel) (by decide +kernel))⟩
theorem fd_X12_147 : Cond.fieldLink RX12 147 RX12 (TX12 0).2.1 (TX12 0).2.2.1 ∈ g_T := g_inT1 (i := 1204) (by decide +kernel) (by decide +kernel)
theorem fl_X12_153 : g_FL RX12 153 12 1 (.int) false := ⟨RX12, TX12, 60, tyX12, rfl, inT_X12, by decide, tyX12_ok, nmX12, rfl, rfl, rfl, Or.inl (g_inT1 (i := 1205) (by decide +kernel) (by decide +kernel))⟩
theorem fd_X12_153 : Cond.fieldLink RX12 153 RX12 (TX12 1).2.1 (TX12 1).2.2.1 ∈ g_T := g_inT1 (i := 1205) (by decide +kernel) (by decide +kernel)
theorem fl_X12_7 : g_FL RX12 7 12 2 (.array .int) true := ⟨RX12, TX12, 60, tyX12, rfl, inT_X12, by decide, tyX12_ok, nmX12, rfl, rfl, rfl, Or.inl (g_inT1 (i := 1206) (by decide +kernel) (by decide +kernel))⟩
theorem fd_X12_7 : Cond.fieldLink RX12 7 RX12 (TX12 2).2.1 (TX12 2).2.2.1 ∈ g_T := g_inT1 (i := 1206) (by decide +kernel) (by decide +kernel)
theorem fl_X12_156 : g_FL RX12 156 12 3 (.int) false := ⟨RX12, TX12, 60, tyX12, rfl, inT_X12, by decide, tyX12_ok, nmX12, rfl, rfl, rfl, Or.inl (g_inT1 (i := 1207) (by decide +kernel) (by decide +kernel))⟩
theorem fd_X12_156 : Cond.fieldLink RX12 156 RX12 (TX12 3).2.1 (TX12 3).2.2.1 ∈ g_T := g_inT1 (i := 1207) (by decide +kernel) (by decide +kernel)
theorem fl_X12_159 : g_FL RX12 159 12 4 (.int) false := ⟨RX12, TX12, 60, tyX12, rfl, inT_X12, by decide, tyX12_ok, nmX12, rfl, rfl, rfl, Or.inl (g_inT1 (i := 1208) (by decide +kernel) (by decide +kernel))⟩
theorem fd_X12_159 : Cond.fieldLink RX12 159 RX12 (TX12 4).2.1 (TX12 4).2.2.1 ∈ g_T := g_inT1 (i := 1208) (by decide +kernel) (by decide +kernel)
theorem fl_X12_162 : g_FL RX12 162 12 5 (.int) false := ⟨RX12, TX12, 60, tyX12, rfl, inT_X12, by decide, tyX12_ok, nmX12, rfl, rfl, rfl, Or.inl (g_inT1 (i := 1209) (by decide +kernel) (by decide +kernel))⟩
theorem fd_X12_162 : Cond.fieldLink RX12 162 RX12 (TX12 5).2.1 (TX12 5).2.2.1 ∈ g_T := g_inT1 (i := 1209) (by decide +kernel) (by decide +kernel)
theorem fl_X12_172 : g_FL RX12 172 12 6 (.int) false := ⟨RX12, TX12, 60, tyX12, rfl, inT_X12, by decide, tyX12_ok, nmX12, rfl, rfl, rfl, Or.inl (g_inT1 (i := 1210) (by decide +kernel) (by decide +kernel))⟩
theorem fd_X12_172 : Cond.fieldLink RX12 172 RX12 (TX12 6).2.1 (TX12 6).2.2.1 ∈ g_T := g_inT1 (i := 1210) (by decide +kernel) (by decide +kernel)
theorem fl_X12_165 : g_FL RX12 165 12 7 (.long) false := ⟨RX12, TX12, 60, tyX12, rfl, inT_X12, by decide, tyX12_ok, nmX12, rfl, rfl, rfl, Or.inl (g_inT1 (i := 1211) (by decide +kernel) (by decide +kernel))⟩
theorem fd_X12_165 : Cond.fieldLink RX12 165 RX12 (TX12 7).2.1 (TX12 7).2.2.1 ∈ g_T := g_inT1 (i := 1211) (by decide +kernel) (by decide +kernel)
theorem fl_X12_169 : g_FL RX12 169 12 8 (.int) false := ⟨RX12, TX12, 60, tyX12, rfl, inT_X12, by decide, tyX12_ok, nmX12, rfl, rfl, rfl, Or.inl (g_inT1 (i := 1212) (by decide +kernel) (by decide +kernel))⟩
theorem fd_X12_169 : Cond.fieldLink RX12 169 RX12 (TX12 8).2.1 (TX12 8).2.2.1 ∈ g_T := g_inT1 (i := 1212) (by decide +kernel) (by decide +kernel)
theorem fl_X12_183 : g_FL RX12 183 12 9 (.int) false := ⟨RX12, TX12, 60, tyX12, rfl, inT_X12, by decide, tyX12_ok, nmX12, rfl, rfl, rfl, Or.inl (g_inT1 (i := 1213) (by decide +kernel) (by decide +kernel))⟩
theorem fd_X12_183 : Cond.fieldLink RX12 183 RX12 (TX12 9).2.1 (TX12 9).2.2.1 ∈ g_T := g_inT1 (i := 1213) (by decide +kernel) (by decide +kernel)
theorem fl_X12_13 : g_FL RX12 13 12 10 (.array .int) true := ⟨RX12, TX12, 60, tyX12, rfl, inT_X12, by decide, tyX12_ok, nmX12, rfl, rfl, rfl, Or.inl (g_inT1 (i := 1214) (by decide +kernel) (by decide +kernel))⟩
theorem fd_X12_13 : Cond.fieldLink RX12 13 RX12 (TX12 10).2.1 (TX12 10).2.2.1 ∈ g_T := g_inT1 (i := 1214) (by decide +kernel) (by decide +kernel)
theorem fl_X12_16 : g_FL RX12 16 12 11 (.array .long) true := ⟨RX12, TX12, 60, tyX12, rfl, inT_X12, by decide, tyX12_ok, nmX12, rfl, rfl, rfl, Or.inl (g_inT1 (i := 1215) (by decide +kernel) (by decide +kernel))⟩
theorem fd_X12_16 : Cond.fieldLink RX12 16 RX12 (TX12 11).2.1 (TX12 11).2.2.1 ∈ g_T := g_inT1 (i := 1215) (by decide +kernel) (by decide +kernel)
theorem fl_X12_20 : g_FL RX12 20 12 12 (.array .long) true := ⟨RX12, TX12, 60, tyX12, rfl, inT_X12, by decide, tyX12_ok, nmX12, rfl, rfl, rfl, Or.inl (g_inT1 (i := 1216) (by decide +kernel) (by decide +kernel))⟩
theorem fd_X12_20 : Cond.fieldLink RX12 20 RX12 (TX12 12).2.1 (TX12 12).2.2.1 ∈ g_T := g_inT1 (i := 1216) (by decide +kernel) (by decide +kernel)
theorem fl_X12_23 : g_FL RX12 23 12 13 (.array .int) true := ⟨RX12, TX12, 60, tyX12, rfl, inT_X12, by decide, tyX12_ok, nmX12, rfl, rfl, rfl, Or.inl (g_inT1 (i := 1217) (by decide +kernel) (by decide +kernel))⟩
theorem fd_X12_23 : Cond.fieldLink RX12 23 RX12 (TX12 13).2.1 (TX12 13).2.2.1 ∈ g_T := g_inT1 (i := 1217) (by decide +kernel) (by decide +kernel)
theorem fl_X12_26 : g_FL RX12 26 12 14 (.array .int) true := ⟨RX12, TX12, 60, tyX12, rfl, inT_X12, by decide, tyX12_ok, nmX12, rfl, rfl, rfl, Or.inl (g_inT1 (i := 1218) (by decide +kernel) (by decide +kernel))⟩
theorem fd_X12_26 : Cond.fieldLink RX12 26 RX12 (TX12 14).2.1 (TX12 14).2.2.1 ∈ g_T := g_inT1 (i := 1218) (by decide +kernel) (by decide +kernel)
theorem fl_X12_29 : g_FL RX12 29 12 15 (.array .int) true := ⟨RX12, TX12, 60, tyX12, rfl, inT_X12, by decide, tyX12_ok, nmX12, rfl, rfl, rfl, Or.inl (g_inT1 (i := 1219) (by decide +kernel) (by decide +kernel))⟩
theorem fd_X12_29 : Cond.fieldLink RX12 29 RX12 (TX12 15).2.1 (TX12 15).2.2.1 ∈ g_T := g_inT1 (i := 1219) (by decide +kernel) (by decide +kernel)
theorem fl_X12_32 : g_FL RX12 32 12 16 (.array .int) true := ⟨RX12, TX12, 60, tyX12, rfl, inT_X12, by decide, tyX12_ok, nmX12, rfl, rfl, rfl, Or.inl (g_inT1 (i := 1220) (by decide +kernel) (by decide +kernel))⟩
theorem fd_X12_32 : Cond.fieldLink RX12 32 RX12 (TX12 16).2.1 (TX12 16).2.2.1 ∈ g_T := g_inT1 (i := 1220) (by decide +kernel) (by decide +kernel)
theorem fl_X12_35 : g_FL RX12 35 12 17 (.array .int) true := ⟨RX12, TX12, 60, tyX12, rfl, inT_X12, by decide, tyX12_ok, nmX12, rfl, rfl, rfl, Or.inl (g_inT1 (i := 1221) (by decide +kernel) (by decide +kernel))⟩
theorem fd_X12_35 : Cond.fieldLink RX12 35 RX12 (TX12 17).2.1 (TX12 17).2.2.1 ∈ g_T := g_inT1 (i := 1221) (by decide +kernel) (by decide +kernel)
theorem fl_X12_38 : g_FL RX12 38 12 18 (.array .int) true := ⟨RX12, TX12, 60, tyX12, rfl, inT_X12, by decide, tyX12_ok, nmX12, rfl, rfl, rfl, Or.inl (g_inT1 (i := 1222) (by decide +kernel) (by decide +kernel))⟩
theorem fd_X12_38 : Cond.fieldLink RX12 38 RX12 (TX12 18).2.1 (TX12 18).2.2.1 ∈ g_T := g_inT1 (i := 1222) (by decide +kernel) (by decide +kernel)
theorem fl_X12_41 : g_FL RX12 41 12 19 (.array .int) true := ⟨RX12, TX12, 60, tyX12, rfl, inT_X12, by decide, tyX12_ok, nmX12, rfl, rfl, rfl, Or.inl (g_inT1 (i := 1223) (by decide +kernel) (by decide +kernel))⟩
theorem fd_X12_41 : Cond.fieldLink RX12 41 RX12 (TX12 19).2.1 (TX12 19).2.2.1 ∈ g_T := g_inT1 (i := 1223) (by decide +kernel) (by decide +kernel)
theorem fl_X12_44 : g_FL RX12 44 12 20 (.array .int) true := ⟨RX12, TX12, 60, tyX12, rfl, inT_X12, by decide, tyX12_ok, nmX12, rfl, rfl, rfl, Or.inl (g_inT1 (i := 1224) (by decide +kernel) (by decide +kernel))⟩
theorem fd_X12_44 : Cond.fieldLink RX12 44 RX12 (TX12 20).2.1 (TX12 20).2.2.1 ∈ g_T := g_inT1 (i := 1224) (by decide +kernel) (by decide +kernel)
theorem fl_X12_47 : g_FL RX12 47 12 21 (.array .int) true := ⟨RX12, TX12, 60, tyX12, rfl, inT_X12, by decide, tyX12_ok, nmX12, rfl, rfl, rfl, Or.inl (g_inT1 (i := 1225) (by decide +kernel) (by decide +kernel))⟩
theorem fd_X12_47 : Cond.fieldLink RX12 47 RX12 (TX12 21).2.1 (TX12 21).2.2.1 ∈ g_T := g_inT1 (i := 1225) (by decide +kernel) (by decide +kernel)
theorem fl_X12_50 : g_FL RX12 50 12 22 (.array .int) true := ⟨RX12, TX12, 60, tyX12, rfl, inT_X12, by decide, tyX12_ok, nmX12, rfl, rfl, rfl, Or.inl (g_inT1 (i := 1226) (by decide +kernel) (by decide +kernel))⟩
theorem fd_X12_50 : Cond.fieldLink RX12 50 RX12 (TX12 22).2.1 (TX12 22).2.2.1 ∈ g_T := g_inT1 (i := 1226) (by decide +kernel) (by decide +kernel)
theorem fl_X12_186 : g_FL RX12 186 12 23 (.int) false := ⟨RX12, TX12, 60, tyX12, rfl, inT_X12, by decide, tyX12_ok, nmX12, rfl, rfl, rfl, Or.inl (g_inT1 (i := 1227) (by decide +kernel) (by decide +kernel))⟩
theorem fd_X12_186 : Cond.fieldLink RX12 186 RX12 (TX12 23).2.1 (TX12 23).2.2.1 ∈ g_T := g_inT1 (i := 1227) (by decide +kernel) (by decide +kernel)
theorem fl_X12_53 : g_FL RX12 53 12 24 (.array .int) true := ⟨RX12, TX12, 60, tyX12, rfl, inT_X12, by decide, tyX12_ok, nmX12, rfl, rfl, rfl, Or.inl (g_inT1 (i := 1228) (by decide +kernel) (by decide +kernel))⟩
theorem fd_X12_53 : Cond.fieldLink RX12 53 RX12 (TX12 24).2.1 (TX12 24).2.2.1 ∈ g_T := g_inT1 (i := 1228) (by decide +kernel) (by decide +kernel)
theorem fl_X12_56 : g_FL RX12 56 12 25 (.array .boolean) true := ⟨RX12, TX12, 60, tyX12, rfl, inT_X12, by decide, tyX12_ok, nmX12, rfl, rfl, rfl, Or.inl (g_inT1 (i := 1229) (by decide +kernel) (by decide +kernel))⟩
theorem fd_X12_56 : Cond.fieldLink RX12 56 RX12 (TX12 25).2.1 (TX12 25).2.2.1 ∈ g_T := g_inT1 (i := 1229) (by decide +kernel) (by decide +kernel)
theorem fl_X12_60 : g_FL RX12 60 12 26 (.array .int) true := ⟨RX12, TX12, 60, tyX12, rfl, inT_X12, by decide, tyX12_ok, nmX12, rfl, rfl, rfl, Or.inl (g_inT1 (i := 1230) (by decide +kernel) (by decide +kernel))⟩
theorem fd_X12_60 : Cond.fieldLink RX12 60 RX12 (TX12 26).2.1 (TX12 26).2.2.1 ∈ g_T := g_inT1 (i := 1230) (by decide +kernel) (by decide +kernel)
theorem fl_X12_63 : g_FL RX12 63 12 27 (.array .int) true := ⟨RX12, TX12, 60, tyX12, rfl, inT_X12, by decide, tyX12_ok, nmX12, rfl, rfl, rfl, Or.inl (g_inT1 (i := 1231) (by decide +kernel) (by decide +kernel))⟩
theorem fd_X12_63 : Cond.fieldLink RX12 63 RX12 (TX12 27).2.1 (TX12 27).2.2.1 ∈ g_T := g_inT1 (i := 1231) (by decide +kernel) (by decide +kernel)
theorem fl_X12_66 : g_FL RX12 66 12 28 (.array .int) true := ⟨RX12, TX12, 60, tyX12, rfl, inT_X12, by decide, tyX12_ok, nmX12, rfl, rfl, rfl, Or.inl (g_inT1 (i := 1232) (by decide +kernel) (by decide +kernel))⟩
theorem fd_X12_66 : Cond.fieldLink RX12 66 RX12 (TX12 28).2.1 (TX12 28).2.2.1 ∈ g_T := g_inT1 (i := 1232) (by decide +kernel) (by decide +kernel)
theorem fl_X12_69 : g_FL RX12 69 12 29 (.array .int) true := ⟨RX12, TX12, 60, tyX12, rfl, inT_X12, by decide, tyX12_ok, nmX12, rfl, rfl, rfl, Or.inl (g_inT1 (i := 1233) (by decide +kernel) (by decide +kernel))⟩
theorem fd_X12_69 : Cond.fieldLink RX12 69 RX12 (TX12 29).2.1 (TX12 29).2.2.1 ∈ g_T := g_inT1 (i := 1233) (by decide +kernel) (by decide +kernel)
theorem fl_X12_72 : g_FL RX12 72 12 30 (.array .int) true := ⟨RX12, TX12, 60, tyX12, rfl, inT_X12, by decide, tyX12_ok, nmX12, rfl, rfl, rfl, Or.inl (g_inT1 (i := 1234) (by decide +kernel) (by decide +kernel))⟩
theorem fd_X12_72 : Cond.fieldLink RX12 72 RX12 (TX12 30).2.1 (TX12 30).2.2.1 ∈ g_T := g_inT1 (i := 1234) (by decide +kernel) (by decide +kernel)
theorem fl_X12_75 : g_FL RX12 75 12 31 (.array .int) true := ⟨RX12, TX12, 60, tyX12, rfl, inT_X12, by decide, tyX12_ok, nmX12, rfl, rfl, rfl, Or.inl (g_inT1 (i := 1235) (by decide +kernel) (by decide +kernel))⟩
theorem fd_X12_75 : Cond.fieldLink RX12 75 RX12 (TX12 31).2.1 (TX12 31).2.2.1 ∈ g_T := g_inT1 (i := 1235) (by decide +kernel) (by decide +kernel)
theorem fl_X12_78 : g_FL RX12 78 12 32 (.array .int) true := ⟨RX12, TX12, 60, tyX12, rfl, inT_X12, by decide, tyX12_ok, nmX12, rfl, rfl, rfl, Or.inl (g_inT1 (i := 1236) (by decide +kernel) (by decide +kernel))⟩
theorem fd_X12_78 : Cond.fieldLink RX12 78 RX12 (TX12 32).2.1 (TX12 32).2.2.1 ∈ g_T := g_inT1 (i := 1236) (by decide +kernel) (by decide +kernel)
theorem fl_X12_81 : g_FL RX12 81 12 33 (.array .int) true := ⟨RX12, TX12, 60, tyX12, rfl, inT_X12, by decide, tyX12_ok, nmX12, rfl, rfl, rfl, Or.inl (g_inT1 (i := 1237) (by decide +kernel) (by decide +kernel))⟩
theorem fd_X12_81 : Cond.fieldLink RX12 81 RX12 (TX12 33).2.1 (TX12 33).2.2.1 ∈ g_T := g_inT1 (i := 1237) (by decide +kernel) (by decide +kernel)
theorem fl_X12_84 : g_FL RX12 84 12 34 (.array .int) true := ⟨RX12, TX12, 60, tyX12, rfl, inT_X12, by decide, tyX12_ok, nmX12, rfl, rfl, rfl, Or.inl (g_inT1 (i := 1238) (by decide +kernel) (by decide +kernel))⟩
theorem fd_X12_84 : Cond.fieldLink RX12 84 RX12 (TX12 34).2.1 (TX12 34).2.2.1 ∈ g_T := g_inT1 (i := 1238) (by decide +kernel) (by decide +kernel)
theorem fl_X12_87 : g_FL RX12 87 12 35 (.array .int) true := ⟨RX12, TX12, 60, tyX12, rfl, inT_X12, by decide, tyX12_ok, nmX12, rfl, rfl, rfl, Or.inl (g_inT1 (i := 1239) (by decide +kernel) (by decide +kernel))⟩
theorem fd_X12_87 : Cond.fieldLink RX12 87 RX12 (TX12 35).2.1 (TX12 35).2.2.1 ∈ g_T := g_inT1 (i := 1239) (by decide +kernel) (by decide +kernel)
theorem fl_X12_272 : g_FL RX12 272 12 36 (.int) false := ⟨RX12, TX12, 60, tyX12, rfl, inT_X12, by decide, tyX12_ok, nmX12, rfl, rfl, rfl, Or.inl (g_inT1 (i := 1240) (by decide +kernel) (by decide +kernel))⟩
theorem fd_X12_272 : Cond.fieldLink RX12 272 RX12 (TX12 36).2.1 (TX12 36).2.2.1 ∈ g_T := g_inT1 (i := 1240) (by decide +kernel) (by decide +kernel)
theorem fl_X12_289 : g_FL RX12 289 12 37 (.long) false := ⟨RX12, TX12, 60, tyX12, rfl, inT_X12, by decide, tyX12_ok, nmX12, rfl, rfl, rfl, Or.inl (g_inT1 (i := 1241) (by decide +kernel) (by decide +kernel))⟩
theorem fd_X12_289 : Cond.fieldLink RX12 289 RX12 (TX12 37).2.1 (TX12 37).2.2.1 ∈ g_T := g_inT1 (i := 1241) (by decide +kernel) (by decide +kernel)
theorem fl_X12_90 : g_FL RX12 90 12 38 (.array .int) true := ⟨RX12, TX12, 60, tyX12, rfl, inT_X12, by decide, tyX12_ok, nmX12, rfl, rfl, rfl, Or.inl (g_inT1 (i := 1242) (by decide +kernel) (by decide +kernel))⟩
theorem fd_X12_90 : Cond.fieldLink RX12 90 RX12 (TX12 38).2.1 (TX12 38).2.2.1 ∈ g_T := g_inT1 (i := 1242) (by decide +kernel) (by decide +kernel)
theorem fl_X12_93 : g_FL RX12 93 12 39 (.array .int) true := ⟨RX12, TX12, 60, tyX12, rfl, inT_X12, by decide, tyX12_ok, nmX12, rfl, rfl, rfl, Or.inl (g_inT1 (i := 1243) (by decide +kernel) (by decide +kernel))⟩
theorem fd_X12_93 : Cond.fieldLink RX12 93 RX12 (TX12 39).2.1 (TX12 39).2.2.1 ∈ g_T := g_inT1 (i := 1243) (by decide +kernel) (by decide +kernel)
theorem fl_X12_96 : g_FL RX12 96 12 40 (.array .int) true := ⟨RX12, TX12, 60, tyX12, rfl, inT_X12, by decide, tyX12_ok, nmX12, rfl, rfl, rfl, Or.inl (g_inT1 (i := 1244) (by decide +kernel) (by decide +kernel))⟩
theorem fd_X12_96 : Cond.fieldLink RX12 96 RX12 (TX12 40).2.1 (TX12 40).2.2.1 ∈ g_T := g_inT1 (i := 1244) (by decide +kernel) (by decide +kernel)
theorem fl_X12_99 : g_FL RX12 99 12 41 (.array .int) true := ⟨RX12, TX12, 60, tyX12, rfl, inT_X12, by decide, tyX12_ok, nmX12, rfl, rfl, rfl, Or.inl (g_inT1 (i := 1245) (by decide +kernel) (by decide +kernel))⟩
theorem fd_X12_99 : Cond.fieldLink RX12 99 RX12 (TX12 41).2.1 (TX12 41).2.2.1 ∈ g_T := g_inT1 (i := 1245) (by decide +kernel) (by decide +kernel)
theorem fl_X12_102 : g_FL RX12 102 12 42 (.array .int) true := ⟨RX12, TX12, 60, tyX12, rfl, inT_X12, by decide, tyX12_ok, nmX12, rfl, rfl, rfl, Or.inl (g_inT1 (i := 1246) (by decide +kernel) (by decide +kernel))⟩
theorem fd_X12_102 : Cond.fieldLink RX12 102 RX12 (TX12 42).2.1 (TX12 42).2.2.1 ∈ g_T := g_inT1 (i := 1246) (by decide +kernel) (by decide +kernel)
theorem fl_X12_105 : g_FL RX12 105 12 43 (.array .int) true := ⟨RX12, TX12, 60, tyX12, rfl, inT_X12, by decide, tyX12_ok, nmX12, rfl, rfl, rfl, Or.inl (g_inT1 (i := 1247) (by decide +kernel) (by decide +kernel))⟩
theorem fd_X12_105 : Cond.fieldLink RX12 105 RX12 (TX12 43).2.1 (TX12 43).2.2.1 ∈ g_T := g_inT1 (i := 1247) (by decide +kernel) (by decide +kernel)
theorem fl_X12_108 : g_FL RX12 108 12 44 (.array .int) true := ⟨RX12, TX12, 60, tyX12, rfl, inT_X12, by decide, tyX12_ok, nmX12, rfl, rfl, rfl, Or.inl (g_inT1 (i := 1248) (by decide +kernel) (by decide +kernel))⟩
theorem fd_X12_108 : Cond.fieldLink RX12 108 RX12 (TX12 44).2.1 (TX12 44).2.2.1 ∈ g_T := g_inT1 (i := 1248) (by decide +kernel) (by decide +kernel)
theorem fl_X12_111 : g_FL RX12 111 12 45 (.array .int) true := ⟨RX12, TX12, 60, tyX12, rfl, inT_X12, by decide, tyX12_ok, nmX12, rfl, rfl, rfl, Or.inl (g_inT1 (i := 1249) (by decide +kernel) (by decide +kernel))⟩
theorem fd_X12_111 : Cond.fieldLink RX12 111 RX12 (TX12 45).2.1 (TX12 45).2.2.1 ∈ g_T := g_inT1 (i := 1249) (by decide +kernel) (by decide +kernel)
theorem fl_X12_114 : g_FL RX12 114 12 46 (.array .boolean) true := ⟨RX12, TX12, 60, tyX12, rfl, inT_X12, by decide, tyX12_ok, nmX12, rfl, rfl, rfl, Or.inl (g_inT1 (i := 1250) (by decide +kernel) (by decide +kernel))⟩
theorem fd_X12_114 : Cond.fieldLink RX12 114 RX12 (TX12 46).2.1 (TX12 46).2.2.1 ∈ g_T := g_inT1 (i := 1250) (by decide +kernel) (by decide +kernel)
theorem fl_X12_117 : g_FL RX12 117 12 47 (.array .int) true := ⟨RX12, TX12, 60, tyX12, rfl, inT_X12, by decide, tyX12_ok, nmX12, rfl, rfl, rfl, Or.inl (g_inT1 (i := 1251) (by decide +kernel) (by decide +kernel))⟩
theorem fd_X12_117 : Cond.fieldLink RX12 117 RX12 (TX12 47).2.1 (TX12 47).2.2.1 ∈ g_T := g_inT1 (i := 1251) (by decide +kernel) (by decide +kernel)
theorem fl_X12_120 : g_FL RX12 120 12 48 (.array .int) true := ⟨RX12, TX12, 60, tyX12, rfl, inT_X12, by decide, tyX12_ok, nmX12, rfl, rfl, rfl, Or.inl (g_inT1 (i := 1252) (by decide +kernel) (by decide +kernel))⟩
theorem fd_X12_120 : Cond.fieldLink RX12 120 RX12 (TX12 48).2.1 (TX12 48).2.2.1 ∈ g_T := g_inT1 (i := 1252) (by decide +kernel) (by decide +kernel)
theorem fl_X12_123 : g_FL RX12 123 12 49 (.array .int) true := ⟨RX12, TX12, 60, tyX12, rfl, inT_X12, by decide, tyX12_ok, nmX12, rfl, rfl, rfl, Or.inl (g_inT1 (i := 1253) (by decide +kernel) (by decide +kernel))⟩
theorem fd_X12_123 : Cond.fieldLink RX12 123 RX12 (TX12 49).2.1 (TX12 49).2.2.1 ∈ g_T := g_inT1 (i := 1253) (by decide +kernel) (by decide +kernel)
theorem fl_X12_126 : g_FL RX12 126 12 50 (.array .int) true := ⟨RX12, TX12, 60, tyX12, rfl, inT_X12, by decide, tyX12_ok, nmX12, rfl, rfl, rfl, Or.inl (g_inT1 (i := 1254) (by decide +kernel) (by decide +kernel))⟩
theorem fd_X12_126 : Cond.fieldLink RX12 126 RX12 (TX12 50).2.1 (TX12 50).2.2.1 ∈ g_T := g_inT1 (i := 1254) (by decide +kernel) (by decide +kernel)
theorem fl_X12_129 : g_FL RX12 129 12 51 (.array .int) true := ⟨RX12, TX12, 60, tyX12, rfl, inT_X12, by decide, tyX12_ok, nmX12, rfl, rfl, rfl, Or.inl (g_inT1 (i := 1255) (by decide +kernel) (by decide +kernel))⟩
theorem fd_X12_129 : Cond.fieldLink RX12 129 RX12 (TX12 51).2.1 (TX12 51).2.2.1 ∈ g_T := g_inT1 (i := 1255) (by decide +kernel) (by decide +kernel)
theorem fl_X12_132 : g_FL RX12 132 12 52 (.array .boolean) true := ⟨RX12, TX12, 60, tyX12, rfl, inT_X12, by decide, tyX12_ok, nmX12, rfl, rfl, rfl, Or.inl (g_inT1 (i := 1256) (by decide +kernel) (by decide +kernel))⟩
theorem fd_X12_132 : Cond.fieldLink RX12 132 RX12 (TX12 52).2.1 (TX12 52).2.2.1 ∈ g_T := g_inT1 (i := 1256) (by decide +kernel) (by decide +kernel)
theorem fl_X12_343 : g_FL RX12 343 12 53 (.int) false := ⟨RX12, TX12, 60, tyX12, rfl, inT_X12, by decide, tyX12_ok, nmX12, rfl, rfl, rfl, Or.inl (g_inT1 (i := 1257) (by decide +kernel) (by decide +kernel))⟩
theorem fd_X12_343 : Cond.fieldLink RX12 343 RX12 (TX12 53).2.1 (TX12 53).2.2.1 ∈ g_T := g_inT1 (i := 1257) (by decide +kernel) (by decide +kernel)
theorem fl_X12_135 : g_FL RX12 135 12 54 (.array .int) true := ⟨RX12, TX12, 60, tyX12, rfl, inT_X12, by decide, tyX12_ok, nmX12, rfl, rfl, rfl, Or.inl (g_inT1 (i := 1258) (by decide +kernel) (by decide +kernel))⟩
theorem fd_X12_135 : Cond.fieldLink RX12 135 RX12 (TX12 54).2.1 (TX12 54).2.2.1 ∈ g_T := g_inT1 (i := 1258) (by decide +kernel) (by decide +kernel)
theorem fl_X12_374 : g_FL RX12 374 12 55 (.int) false := ⟨RX12, TX12, 60, tyX12, rfl, inT_X12, by decide, tyX12_ok, nmX12, rfl, rfl, rfl, Or.inl (g_inT1 (i := 1259) (by decide +kernel) (by decide +kernel))⟩
theorem fd_X12_374 : Cond.fieldLink RX12 374 RX12 (TX12 55).2.1 (TX12 55).2.2.1 ∈ g_T := g_inT1 (i := 1259) (by decide +kernel) (by decide +kernel)
theorem fl_X12_371 : g_FL RX12 371 12 56 (.int) false := ⟨RX12, TX12, 60, tyX12, rfl, inT_X12, by decide, tyX12_ok, nmX12, rfl, rfl, rfl, Or.inl (g_inT1 (i := 1260) (by decide +kernel) (by decide +kernel))⟩
theorem fd_X12_371 : Cond.fieldLink RX12 371 RX12 (TX12 56).2.1 (TX12 56).2.2.1 ∈ g_T := g_inT1 (i := 1260) (by decide +kernel) (by decide +kernel)
theorem fl_X12_138 : g_FL RX12 138 12 57 (.array .int) true := ⟨RX12, TX12, 60, tyX12, rfl, inT_X12, by decide, tyX12_ok, nmX12, rfl, rfl, rfl, Or.inl (g_inT1 (i := 1261) (by decide +kernel) (by decide +kernel))⟩
theorem fd_X12_138 : Cond.fieldLink RX12 138 RX12 (TX12 57).2.1 (TX12 57).2.2.1 ∈ g_T := g_inT1 (i := 1261) (by decide +kernel) (by decide +kernel)
theorem fl_X12_141 : g_FL RX12 141 12 58 (.array .int) true := ⟨RX12, TX12, 60, tyX12, rfl, inT_X12, by decide, tyX12_ok, nmX12, rfl, rfl, rfl, Or.inl (g_inT1 (i := 1262) (by decide +kernel) (by decide +kernel))⟩
theorem fd_X12_141 : Cond.fieldLink RX12 141 RX12 (TX12 58).2.1 (TX12 58).2.2.1 ∈ g_T := g_inT1 (i := 1262) (by decide +kernel) (by decide +kernel)
theorem fl_X12_465 : g_FL RX12 465 12 59 (.long) false := ⟨RX12, TX12, 60, tyX12, rfl, inT_X12, by decide, tyX12_ok, nmX12, rfl, rfl, rfl, Or.inl (g_inT1 (i := 1263) (by decide +kernel) (by decide +kernel))⟩
theorem fd_X12_465 : Cond.fieldLink RX12 465 RX12 (TX12 59).2.1 (TX12 59).2.2.1 ∈ g_T := g_inT1 (i := 1263) (by decide +kernel) (by decide +kernel)
