theorem kd_0 : kd 0 = (11, 10) := rfl
theorem kd_1 : kd 1 = (9, 2) := rfl
theorem kd_2 : kd 2 = (21, 700) := rfl
theorem kd_3 : kd 3 = (2, 17) := rfl
theorem kd_4 : kd 4 = (20, 8) := rfl
theorem kd_5 : kd 5 = (20, 8) := rfl
theorem kd_6 : kd 6 = (20, 8) := rfl
theorem kd_7 : kd 7 = (20, 9) := rfl
theorem kd_8 : kd 8 = (20, 9) := rfl
theorem kd_9 : kd 9 = (20, 9) := rfl
theorem kd_10 : kd 10 = (20, 10) := rfl
theorem kd_11 : kd 11 = (6, 3) := rfl
theorem kd_12 : kd 12 = (20, 700) := rfl
theorem kd_13 : kd 13 = (20, 40) := rfl
theorem kd_14 : kd 14 = (6, 3) := rfl
theorem kd_15 : kd 15 = (20, 700) := rfl
theorem kd_16 : kd 16 = (20, 40) := rfl
theorem kd_17 : kd 17 = (5, 8) := rfl
theorem kd_18 : kd 18 = (10, 7) := rfl
theorem kd_19 : kd 19 = (20, 700) := rfl
theorem kd_20 : kd 20 = (20, 700) := rfl
theorem kd_21 : kd 21 = (20, 700) := rfl
theorem kd_22 : kd 22 = (3, 2) := rfl
theorem kd_23 : kd 23 = (20, 7) := rfl
theorem kd_24 : kd 24 = (2, 17) := rfl
theorem kd_25 : kd 25 = (20, 8) := rfl
theorem kd_26 : kd 26 = (20, 8) := rfl
theorem kd_27 : kd 27 = (20, 8) := rfl
theorem kd_28 : kd 28 = (20, 9) := rfl
theorem kd_29 : kd 29 = (20, 9) := rfl
theorem kd_30 : kd 30 = (20, 9) := rfl
theorem kd_31 : kd 31 = (20, 10) := rfl
theorem kd_32 : kd 32 = (6, 3) := rfl
theorem kd_33 : kd 33 = (20, 700) := rfl
theorem kd_34 : kd 34 = (20, 40) := rfl
theorem kd_35 : kd 35 = (6, 3) := rfl
theorem kd_36 : kd 36 = (20, 700) := rfl
theorem kd_37 : kd 37 = (20, 40) := rfl
theorem kd_38 : kd 38 = (0, 4) := rfl
theorem kd_39 : kd 39 = (8, 10) := rfl
theorem kd_40 : kd 40 = (20, 8) := rfl
theorem kd_41 : kd 41 = (20, 8) := rfl
theorem kd_42 : kd 42 = (20, 8) := rfl
theorem kd_43 : kd 43 = (1, 3) := rfl
theorem kd_44 : kd 44 = (20, 1240) := rfl
theorem kd_45 : kd 45 = (7, 4) := rfl
theorem kd_46 : kd 46 = (20, 8) := rfl
theorem kd_47 : kd 47 = (20, 8) := rfl
theorem kd_48 : kd 48 = (20, 8) := rfl
theorem kd_49 : kd 49 = (20, 3) := rfl
theorem kd_50 : kd 50 = (0, 4) := rfl
theorem kd_51 : kd 51 = (8, 10) := rfl
theorem kd_52 : kd 52 = (20, 8) := rfl
theorem kd_53 : kd 53 = (20, 8) := rfl
theorem kd_54 : kd 54 = (20, 8) := rfl
theorem kd_55 : kd 55 = (1, 3) := rfl
theorem kd_56 : kd 56 = (20, 1240) := rfl
theorem kd_57 : kd 57 = (7, 4) := rfl
theorem kd_58 : kd 58 = (20, 8) := rfl
theorem kd_59 : kd 59 = (20, 8) := rfl
theorem kd_60 : kd 60 = (20, 8) := rfl
theorem kd_61 : kd 61 = (20, 3) := rfl
theorem kd_62 : kd 62 = (8, 10) := rfl
theorem kd_63 : kd 63 = (20, 8) := rfl
theorem kd_64 : kd 64 = (20, 8) := rfl
theorem kd_65 : kd 65 = (20, 8) := rfl
theorem kd_66 : kd 66 = (4, 4) := rfl
theorem kd_67 : kd 67 = (23, 8) := rfl
theorem kd_68 : kd 68 = (20, 9) := rfl
theorem kd_69 : kd 69 = (20, 9) := rfl
theorem kd_70 : kd 70 = (20, 9) := rfl
theorem kd_71 : kd 71 = (20, 9) := rfl
theorem kd_72 : kd 72 = (20, 9) := rfl
theorem kd_73 : kd 73 = (20, 9) := rfl
theorem kd_74 : kd 74 = (20, 9) := rfl
theorem kd_75 : kd 75 = (20, 9) := rfl
theorem kd_76 : kd 76 = (24, 9) := rfl
theorem kd_77 : kd 77 = (22, 512) := rfl
theorem kd_78 : kd 78 = (22, 512) := rfl
theorem kd_79 : kd 79 = (22, 512) := rfl
theorem kd_80 : kd 80 = (22, 512) := rfl
theorem kd_81 : kd 81 = (22, 512) := rfl
theorem kd_82 : kd 82 = (22, 512) := rfl
theorem kd_83 : kd 83 = (22, 512) := rfl
theorem kd_84 : kd 84 = (22, 512) := rfl
theorem kd_85 : kd 85 = (22, 512) := rfl
theorem kd_86 : kd 86 = (20, 8) := rfl
theorem kd_87 : kd 87 = (12, 60) := rfl
theorem kd_88 : kd 88 = (25, 5) := rfl
theorem kd_89 : kd 89 = (25, 7) := rfl
theorem kd_90 : kd 90 = (20, 16) := rfl
theorem kd_91 : kd 91 = (20, 16) := rfl
theorem kd_92 : kd 92 = (20, 16) := rfl
theorem kd_93 : kd 93 = (20, 16) := rfl
theorem kd_94 : kd 94 = (20, 18) := rfl
theorem kd_95 : kd 95 = (20, 18) := rfl
theorem kd_96 : kd 96 = (20, 18) := rfl
theorem kd_97 : kd 97 = (20, 20) := rfl
theorem kd_98 : kd 98 = (20, 1400) := rfl
theorem kd_99 : kd 99 = (20, 1400) := rfl
theorem kd_100 : kd 100 = (20, 3) := rfl
theorem kd_101 : kd 101 = (20, 700) := rfl
theorem kd_102 : kd 102 = (20, 8) := rfl
theorem kd_103 : kd 103 = (20, 8) := rfl
theorem kd_104 : kd 104 = (20, 8) := rfl
theorem kd_105 : kd 105 = (20, 1240) := rfl
theorem kd_106 : kd 106 = (20, 7) := rfl
theorem kd_107 : kd 107 = (20, 64) := rfl
theorem kd_108 : kd 108 = (22, 4608) := rfl
theorem kd_109 : kd 109 = (20, 72) := rfl
theorem kd_110 : kd 110 = (20, 3) := rfl
theorem kd_111 : kd 111 = (20, 31) := rfl
theorem kd_112 : kd 112 = (20, 8) := rfl
theorem kd_113 : kd 113 = (20, 8) := rfl
theorem kd_114 : kd 114 = (20, 8) := rfl
theorem kd_115 : kd 115 = (20, 31) := rfl
theorem kd_116 : kd 116 = (20, 1240) := rfl
theorem kd_117 : kd 117 = (20, 8) := rfl
theorem kd_118 : kd 118 = (20, 8) := rfl
theorem kd_119 : kd 119 = (20, 8) := rfl
theorem kd_120 : kd 120 = (20, 3) := rfl
theorem kd_121 : kd 121 = (22, 1) := rfl
theorem kv_d3_24_0 : ∀ a, a ∈ [3, 24] → kd (a) = (2, 17) := by decide
theorem kv_d3_24_1 : ∀ a, a ∈ [3, 24] → kd (a + 1) = (20, 8) := by decide
theorem ku_d3_24_1 : ∀ a, a ∈ [3, 24] → a + 1 ∈ [4, 25] := by decide
theorem kv_d3_24_2 : ∀ a, a ∈ [3, 24] → kd (a + 2) = (20, 8) := by decide
theorem ku_d3_24_2 : ∀ a, a ∈ [3, 24] → a + 2 ∈ [5, 26] := by decide
theorem kv_d3_24_3 : ∀ a, a ∈ [3, 24] → kd (a + 3) = (20, 8) := by decide
theorem ku_d3_24_3 : ∀ a, a ∈ [3, 24] → a + 3 ∈ [6, 27] := by decide
theorem kv_d3_24_4 : ∀ a, a ∈ [3, 24] → kd (a + 4) = (20, 9) := by decide
theorem ku_d3_24_4 : ∀ a, a ∈ [3, 24] → a + 4 ∈ [7, 28] := by decide
theorem kv_d3_24_5 : ∀ a, a ∈ [3, 24] → kd (a + 5) = (20, 9) := by decide
theorem ku_d3_24_5 : ∀ a, a ∈ [3, 24] → a + 5 ∈ [8, 29] := by decide
theorem kv_d3_24_6 : ∀ a, a ∈ [3, 24] → kd (a + 6) = (20, 9) := by decide
theorem ku_d3_24_6 : ∀ a, a ∈ [3, 24] → a + 6 ∈ [9, 30] := by decide
theorem kv_d3_24_7 : ∀ a, a ∈ [3, 24] → kd (a + 7) = (20, 10) := by decide
theorem ku_d3_24_7 : ∀ a, a ∈ [3, 24] → a + 7 ∈ [10, 31] := by decide
theorem kv_d3_24_8 : ∀ a, a ∈ [3, 24] → kd (a + 8) = (6, 3) := by decide
theorem ku_d3_24_8 : ∀ a, a ∈ [3, 24] → a + 8 ∈ [11, 32] := by decide
theorem kv_d3_24_11 : ∀ a, a ∈ [3, 24] → kd (a + 11) = (6, 3) := by decide
theorem ku_d3_24_11 : ∀ a, a ∈ [3, 24] → a + 11 ∈ [14, 35] := by decide
theorem kv_d11_14_32_35_0 : ∀ a, a ∈ [11, 14, 32, 35] → kd (a) = (6, 3) := by decide
theorem kv_d11_14_32_35_1 : ∀ a, a ∈ [11, 14, 32, 35] → kd (a + 1) = (20, 700) := by decide
theorem ku_d11_14_32_35_1 : ∀ a, a ∈ [11, 14, 32, 35] → a + 1 ∈ [12, 15, 33, 36] := by decide
theorem kv_d11_14_32_35_2 : ∀ a, a ∈ [11, 14, 32, 35] → kd (a + 2) = (20, 40) := by decide
theorem ku_d11_14_32_35_2 : ∀ a, a ∈ [11, 14, 32, 35] → a + 2 ∈ [13, 16, 34, 37] := by decide
theorem kv_d38_50_0 : ∀ a, a ∈ [38, 50] → kd (a) = (0, 4) := by decide
theorem kv_d38_50_1 : ∀ a, a ∈ [38, 50] → kd (a + 1) = (8, 10) := by decide
theorem ku_d38_50_1 : ∀ a, a ∈ [38, 50] → a + 1 ∈ [39, 51] := by decide
theorem kv_d38_50_5 : ∀ a, a ∈ [38, 50] → kd (a + 5) = (1, 3) := by decide
theorem ku_d38_50_5 : ∀ a, a ∈ [38, 50] → a + 5 ∈ [43, 55] := by decide
theorem kv_d38_50_7 : ∀ a, a ∈ [38, 50] → kd (a + 7) = (7, 4) := by decide
theorem ku_d38_50_7 : ∀ a, a ∈ [38, 50] → a + 7 ∈ [45, 57] := by decide
theorem kv_d38_50_11 : ∀ a, a ∈ [38, 50] → kd (a + 11) = (20, 3) := by decide
theorem ku_d38_50_11 : ∀ a, a ∈ [38, 50] → a + 11 ∈ [49, 61] := by decide
theorem kv_d39_51_0 : ∀ a, a ∈ [39, 51] → kd (a) = (8, 10) := by decide
theorem kv_d39_51_1 : ∀ a, a ∈ [39, 51] → kd (a + 1) = (20, 8) := by decide
theorem ku_d39_51_1 : ∀ a, a ∈ [39, 51] → a + 1 ∈ [40, 52] := by decide
theorem kv_d39_51_2 : ∀ a, a ∈ [39, 51] → kd (a + 2) = (20, 8) := by decide
theorem ku_d39_51_2 : ∀ a, a ∈ [39, 51] → a + 2 ∈ [41, 53] := by decide
theorem kv_d39_51_3 : ∀ a, a ∈ [39, 51] → kd (a + 3) = (20, 8) := by decide
theorem ku_d39_51_3 : ∀ a, a ∈ [39, 51] → a + 3 ∈ [42, 54] := by decide
theorem kv_d39_51_62_0 : ∀ a, a ∈ [39, 51, 62] → kd (a) = (8, 10) := by decide
theorem kv_d39_51_62_1 : ∀ a, a ∈ [39, 51, 62] → kd (a + 1) = (20, 8) := by decide
theorem ku_d39_51_62_1 : ∀ a, a ∈ [39, 51, 62] → a + 1 ∈ [40, 52, 63] := by decide
theorem kv_d39_51_62_2 : ∀ a, a ∈ [39, 51, 62] → kd (a + 2) = (20, 8) := by decide
theorem ku_d39_51_62_2 : ∀ a, a ∈ [39, 51, 62] → a + 2 ∈ [41, 53, 64] := by decide
theorem kv_d39_51_62_3 : ∀ a, a ∈ [39, 51, 62] → kd (a + 3) = (20, 8) := by decide
theorem ku_d39_51_62_3 : ∀ a, a ∈ [39, 51, 62] → a + 3 ∈ [42, 54, 65] := by decide
theorem kv_d39_62_0 : ∀ a, a ∈ [39, 62] → kd (a) = (8, 10) := by decide
theorem kv_d39_62_1 : ∀ a, a ∈ [39, 62] → kd (a + 1) = (20, 8) := by decide
theorem ku_d39_62_1 : ∀ a, a ∈ [39, 62] → a + 1 ∈ [40, 63] := by decide
theorem kv_d39_62_2 : ∀ a, a ∈ [39, 62] → kd (a + 2) = (20, 8) := by decide
theorem ku_d39_62_2 : ∀ a, a ∈ [39, 62] → a + 2 ∈ [41, 64] := by decide
theorem kv_d39_62_3 : ∀ a, a ∈ [39, 62] → kd (a + 3) = (20, 8) := by decide
theorem ku_d39_62_3 : ∀ a, a ∈ [39, 62] → a + 3 ∈ [42, 65] := by decide
theorem kv_d43_55_0 : ∀ a, a ∈ [43, 55] → kd (a) = (1, 3) := by decide
theorem kv_d43_55_1 : ∀ a, a ∈ [43, 55] → kd (a + 1) = (20, 1240) := by decide
theorem ku_d43_55_1 : ∀ a, a ∈ [43, 55] → a + 1 ∈ [44, 56] := by decide
theorem kv_d45_57_0 : ∀ a, a ∈ [45, 57] → kd (a) = (7, 4) := by decide
theorem kv_d45_57_1 : ∀ a, a ∈ [45, 57] → kd (a + 1) = (20, 8) := by decide
theorem ku_d45_57_1 : ∀ a, a ∈ [45, 57] → a + 1 ∈ [46, 58] := by decide
theorem kv_d45_57_2 : ∀ a, a ∈ [45, 57] → kd (a + 2) = (20, 8) := by decide
theorem ku_d45_57_2 : ∀ a, a ∈ [45, 57] → a + 2 ∈ [47, 59] := by decide
theorem kv_d45_57_3 : ∀ a, a ∈ [45, 57] → kd (a + 3) = (20, 8) := by decide
theorem ku_d45_57_3 : ∀ a, a ∈ [45, 57] → a + 3 ∈ [48, 60] := by decide
theorem kv_d88_89_0 : ∀ a, a ∈ [88, 89] → kd (a) = (25, (kd (a)).2) := by decide
theorem kv_d90_91_92_93_94_95_96_97_98_99_0 : ∀ a, a ∈ [90, 91, 92, 93, 94, 95, 96, 97, 98, 99] → kd (a) = (20, (kd (a)).2) := by decide
theorem kv_d98_99_0 : ∀ a, a ∈ [98, 99] → kd (a) = (20, 1400) := by decide
theorem kv_d100_105_112_113_114_116_117_118_119_120_0 : ∀ a, a ∈ [100, 105, 112, 113, 114, 116, 117, 118, 119, 120] → kd (a) = (20, (kd (a)).2) := by decide
theorem kv_d105_111_115_0 : ∀ a, a ∈ [105, 111, 115] → kd (a) = (20, (kd (a)).2) := by decide
theorem sub_d11_32_d11_14_32_35 : ∀ a, a ∈ [11, 32] → a ∈ [11, 14, 32, 35] := by decide
theorem sub_d14_35_d11_14_32_35 : ∀ a, a ∈ [14, 35] → a ∈ [11, 14, 32, 35] := by decide
theorem sub_d39_51_d39_51_62 : ∀ a, a ∈ [39, 51] → a ∈ [39, 51, 62] := by decide
theorem clX0 : Cls 0 RX0 TX0 4 := ⟨⟨rfl, by decide, rfl⟩, fun w hw => List.mem_filter.mpr ⟨(by decide +kernel : ∀ w ∈ u_ws RX0 TX0 4, w ∈ lw_tbl) w hw, (by decide +kernel : ∀ w ∈ u_ws RX0 TX0 4, goodWord w = true) w hw⟩, nmX0, ⟨tyX0, tyX0_ok⟩⟩
theorem clX1 : Cls 1 RX1 TX1 3 := ⟨⟨rfl, by decide, rfl⟩, fun w hw => List.mem_filter.mpr ⟨(by decide +kernel : ∀ w ∈ u_ws RX1 TX1 3, w ∈ lw_tbl) w hw, (by decide +kernel : ∀ w ∈ u_ws RX1 TX1 3, goodWord w = true) w hw⟩, nmX1, ⟨tyX1, tyX1_ok⟩⟩
theorem clX2 : Cls 2 RX2 TX2 17 := ⟨⟨rfl, by decide, rfl⟩, fun w hw => List.mem_filter.mpr ⟨(by decide +kernel : ∀ w ∈ u_ws RX2 TX2 17, w ∈ lw_tbl) w hw, (by decide +kernel : ∀ w ∈ u_ws RX2 TX2 17, goodWord w = true) w hw⟩, nmX2, ⟨tyX2, tyX2_ok⟩⟩
theorem clX3 : Cls 3 RX3 TX3 2 := ⟨⟨rfl, by decide, rfl⟩, fun w hw => List.mem_filter.mpr ⟨(by decide +kernel : ∀ w ∈ u_ws RX3 TX3 2, w ∈ lw_tbl) w hw, (by decide +kernel : ∀ w ∈ u_ws RX3 TX3 2, goodWord w = true) w hw⟩, nmX3, ⟨tyX3, tyX3_ok⟩⟩
theorem clX4 : Cls 4 RX4 TX4 4 := ⟨⟨rfl, by decide, rfl⟩, fun w hw => List.mem_filter.mpr ⟨(by decide +kernel : ∀ w ∈ u_ws RX4 TX4 4, w ∈ lw_tbl) w hw, (by decide +kernel : ∀ w ∈ u_ws RX4 TX4 4, goodWord w = true) w hw⟩, nmX4, ⟨tyX4, tyX4_ok⟩⟩
theorem clX5 : Cls 5 RX5 TX5 8 := ⟨⟨rfl, by decide, rfl⟩, fun w hw => List.mem_filter.mpr ⟨(by decide +kernel : ∀ w ∈ u_ws RX5 TX5 8, w ∈ lw_tbl) w hw, (by decide +kernel : ∀ w ∈ u_ws RX5 TX5 8, goodWord w = true) w hw⟩, nmX5, ⟨tyX5, tyX5_ok⟩⟩
theorem clX6 : Cls 6 RX6 TX6 3 := ⟨⟨rfl, by decide, rfl⟩, fun w hw => List.mem_filter.mpr ⟨(by decide +kernel : ∀ w ∈ u_ws RX6 TX6 3, w ∈ lw_tbl) w hw, (by decide +kernel : ∀ w ∈ u_ws RX6 TX6 3, goodWord w = true) w hw⟩, nmX6, ⟨tyX6, tyX6_ok⟩⟩
theorem clX7 : Cls 7 RX7 TX7 4 := ⟨⟨rfl, by decide, rfl⟩, fun w hw => List.mem_filter.mpr ⟨(by decide +kernel : ∀ w ∈ u_ws RX7 TX7 4, w ∈ lw_tbl) w hw, (by decide +kernel : ∀ w ∈ u_ws RX7 TX7 4, goodWord w = true) w hw⟩, nmX7, ⟨tyX7, tyX7_ok⟩⟩
theorem clX8 : Cls 8 RX8 TX8 10 := ⟨⟨rfl, by decide, rfl⟩, fun w hw => List.mem_filter.mpr ⟨(by decide +kernel : ∀ w ∈ u_ws RX8 TX8 10, w ∈ lw_tbl) w hw, (by decide +kernel : ∀ w ∈ u_ws RX8 TX8 10, goodWord w = true) w hw⟩, nmX8, ⟨tyX8, tyX8_ok⟩⟩
theorem clX9 : Cls 9 RX9 TX9 2 := ⟨⟨rfl, by decide, rfl⟩, fun w hw => List.mem_filter.mpr ⟨(by decide +kernel : ∀ w ∈ u_ws RX9 TX9 2, w ∈ lw_tbl) w hw, (by decide +kernel : ∀ w ∈ u_ws RX9 TX9 2, goodWord w = true) w hw⟩, nmX9, ⟨tyX9, tyX9_ok⟩⟩
theorem clX10 : Cls 10 RX10 TX10 7 := ⟨⟨rfl, by decide, rfl⟩, fun w hw => List.mem_filter.mpr ⟨(by decide +kernel : ∀ w ∈ u_ws RX10 TX10 7, w ∈ lw_tbl) w hw, (by decide +kernel : ∀ w ∈ u_ws RX10 TX10 7, goodWord w = true) w hw⟩, nmX10, ⟨tyX10, tyX10_ok⟩⟩
theorem clX11 : Cls 11 RX11 TX11 10 := ⟨⟨rfl, by decide, rfl⟩, fun w hw => List.mem_filter.mpr ⟨(by decide +kernel : ∀ w ∈ u_ws RX11 TX11 10, w ∈ lw_tbl) w hw, (by decide +kernel : ∀ w ∈ u_ws RX11 TX11 10, goodWord w = true) w hw⟩, nmX11, ⟨tyX11, tyX11_ok⟩⟩
theorem clX12 : Cls 12 RX12 TX12 60 := ⟨⟨rfl, by decide, rfl⟩, fun w hw => List.mem_filter.mpr ⟨(by decide +kernel : ∀ w ∈ u_ws RX12 TX12 60, w ∈ lw_tbl) w hw, (by decide +kernel : ∀ w ∈ u_ws RX12 TX12 60, goodWord w = true) w hw⟩, nmX12, ⟨tyX12, tyX12_ok⟩⟩
theorem flX11_10 : Cond.fieldLink RX11 10 (TX11 0).1 (TX11 0).2.1 (TX11 0).2.2.1 ∈ TB := tbm (k := 492) (by decide +kernel) (by decide +kernel)
theorem flX11_19 : Cond.fieldLink RX11 19 (TX11 8).1 (TX11 8).2.1 (TX11 8).2.2.1 ∈ TB := tbm (k := 500) (by decide +kernel) (by decide +kernel)
theorem flX11_28 : Cond.fieldLink RX11 28 (TX11 1).1 (TX11 1).2.1 (TX11 1).2.2.1 ∈ TB := tbm (k := 493) (by decide +kernel) (by decide +kernel)
theorem flX11_35 : Cond.fieldLink RX11 35 (TX11 2).1 (TX11 2).2.1 (TX11 2).2.2.1 ∈ TB := tbm (k := 494) (by decide +kernel) (by decide +kernel)
theorem flX11_42 : Cond.fieldLink RX11 42 (TX11 3).1 (TX11 3).2.1 (TX11 3).2.2.1 ∈ TB := tbm (k := 495) (by decide +kernel) (by decide +kernel)
theorem flX11_46 : Cond.fieldLink RX11 46 (TX11 4).1 (TX11 4).2.1 (TX11 4).2.2.1 ∈ TB := tbm (k := 496) (by decide +kernel) (by decide +kernel)
theorem flX11_52 : Cond.fieldLink RX11 52 (TX11 5).1 (TX11 5).2.1 (TX11 5).2.2.1 ∈ TB := tbm (k := 497) (by decide +kernel) (by decide +kernel)
theorem flX11_59 : Cond.fieldLink RX11 59 (TX11 6).1 (TX11 6).2.1 (TX11 6).2.2.1 ∈ TB := tbm (k := 498) (by decide +kernel) (by decide +kernel)
theorem flX11_63 : Cond.fieldLink RX11 63 (TX11 7).1 (TX11 7).2.1 (TX11 7).2.2.1 ∈ TB := tbm (k := 499) (by decide +kernel) (by decide +kernel)
theorem flX11_67 : Cond.fieldLink RX11 67 (TX11 9).1 (TX11 9).2.1 (TX11 9).2.2.1 ∈ TB := tbm (k := 501) (by decide +kernel) (by decide +kernel)
theorem flX11_71 : Cond.fieldLink RX11 71 (TX9 1).1 (TX9 1).2.1 (TX9 1).2.2.1 ∈ TB := tbm (k := 157) (by decide +kernel) (by decide +kernel)
theorem flX11_86 : Cond.fieldLink RX11 86 (TX0 3).1 (TX0 3).2.1 (TX0 3).2.2.1 ∈ TB := tbm (k := 456) (by decide +kernel) (by decide +kernel)
theorem flX11_89 : Cond.fieldLink RX11 89 (TX3 1).1 (TX3 1).2.1 (TX3 1).2.2.1 ∈ TB := tbm (k := 344) (by decide +kernel) (by decide +kernel)
theorem flX11_96 : Cond.fieldLink RX11 96 (TX0 0).1 (TX0 0).2.1 (TX0 0).2.2.1 ∈ TB := tbm (k := 450) (by decide +kernel) (by decide +kernel)
theorem flX11_103 : Cond.fieldLink RX11 103 (TX5 7).1 (TX5 7).2.1 (TX5 7).2.2.1 ∈ TB := tbm (k := 315) (by decide +kernel) (by decide +kernel)
theorem flX11_106 : Cond.fieldLink RX11 106 (TX2 9).1 (TX2 9).2.1 (TX2 9).2.2.1 ∈ TB := tbm (k := 215) (by decide +kernel) (by decide +kernel)
theorem flX11_109 : Cond.fieldLink RX11 109 (TX2 10).1 (TX2 10).2.1 (TX2 10).2.2.1 ∈ TB := tbm (k := 219) (by decide +kernel) (by decide +kernel)
theorem flX11_116 : Cond.fieldLink RX11 116 (TX2 14).1 (TX2 14).2.1 (TX2 14).2.2.1 ∈ TB := tbm (k := 231) (by decide +kernel) (by decide +kernel)
theorem flX11_119 : Cond.fieldLink RX11 119 (TX8 4).1 (TX8 4).2.1 (TX8 4).2.2.1 ∈ TB := tbm (k := 374) (by decide +kernel) (by decide +kernel)
theorem flX11_126 : Cond.fieldLink RX11 126 (TX8 1).1 (TX8 1).2.1 (TX8 1).2.2.1 ∈ TB := tbm (k := 366) (by decide +kernel) (by decide +kernel)
theorem flX11_129 : Cond.fieldLink RX11 129 (TX8 5).1 (TX8 5).2.1 (TX8 5).2.2.1 ∈ TB := tbm (k := 377) (by decide +kernel) (by decide +kernel)
theorem flX11_132 : Cond.fieldLink RX11 132 (TX8 6).1 (TX8 6).2.1 (TX8 6).2.2.1 ∈ TB := tbm (k := 379) (by decide +kernel) (by decide +kernel)
theorem flX11_135 : Cond.fieldLink RX11 135 (TX8 0).1 (TX8 0).2.1 (TX8 0).2.2.1 ∈ TB := tbm (k := 363) (by decide +kernel) (by decide +kernel)
theorem flX11_138 : Cond.fieldLink RX11 138 (TX0 1).1 (TX0 1).2.1 (TX0 1).2.2.1 ∈ TB := tbm (k := 452) (by decide +kernel) (by decide +kernel)
theorem flX11_142 : Cond.fieldLink RX11 142 (TX1 2).1 (TX1 2).2.1 (TX1 2).2.2.1 ∈ TB := tbm (k := 417) (by decide +kernel) (by decide +kernel)
theorem flX11_147 : Cond.fieldLink RX11 147 (TX0 2).1 (TX0 2).2.1 (TX0 2).2.2.1 ∈ TB := tbm (k := 454) (by decide +kernel) (by decide +kernel)
theorem flX11_151 : Cond.fieldLink RX11 151 (TX7 3).1 (TX7 3).2.1 (TX7 3).2.2.1 ∈ TB := tbm (k := 439) (by decide +kernel) (by decide +kernel)
theorem flX11_160 : Cond.fieldLink RX11 160 (TX2 0).1 (TX2 0).2.1 (TX2 0).2.2.1 ∈ TB := tbm (k := 189) (by decide +kernel) (by decide +kernel)
theorem flX11_163 : Cond.fieldLink RX11 163 (TX2 1).1 (TX2 1).2.1 (TX2 1).2.2.1 ∈ TB := tbm (k := 192) (by decide +kernel) (by decide +kernel)
theorem flX11_166 : Cond.fieldLink RX11 166 (TX2 2).1 (TX2 2).2.1 (TX2 2).2.2.1 ∈ TB := tbm (k := 194) (by decide +kernel) (by decide +kernel)
theorem flX11_172 : Cond.fieldLink RX11 172 (TX8 8).1 (TX8 8).2.1 (TX8 8).2.2.1 ∈ TB := tbm (k := 384) (by decide +kernel) (by decide +kernel)
theorem flX11_175 : Cond.fieldLink RX11 175 (TX8 9).1 (TX8 9).2.1 (TX8 9).2.2.1 ∈ TB := tbm (k := 386) (by decide +kernel) (by decide +kernel)
theorem flX11_178 : Cond.fieldLink RX11 178 (TX8 7).1 (TX8 7).2.1 (TX8 7).2.2.1 ∈ TB := tbm (k := 381) (by decide +kernel) (by decide +kernel)
theorem flX11_187 : Cond.fieldLink RX11 187 (TX2 3).1 (TX2 3).2.1 (TX2 3).2.2.1 ∈ TB := tbm (k := 198) (by decide +kernel) (by decide +kernel)
theorem flX11_190 : Cond.fieldLink RX11 190 (TX2 4).1 (TX2 4).2.1 (TX2 4).2.2.1 ∈ TB := tbm (k := 201) (by decide +kernel) (by decide +kernel)
theorem flX11_193 : Cond.fieldLink RX11 193 (TX2 5).1 (TX2 5).2.1 (TX2 5).2.2.1 ∈ TB := tbm (k := 203) (by decide +kernel) (by decide +kernel)
theorem flX11_218 : Cond.fieldLink RX11 218 (TX8 3).1 (TX8 3).2.1 (TX8 3).2.2.1 ∈ TB := tbm (k := 372) (by decide +kernel) (by decide +kernel)
theorem flX11_221 : Cond.fieldLink RX11 221 (TX8 2).1 (TX8 2).2.1 (TX8 2).2.2.1 ∈ TB := tbm (k := 369) (by decide +kernel) (by decide +kernel)
theorem flX11_341 : Cond.fieldLink RX11 341 (TX7 0).1 (TX7 0).2.1 (TX7 0).2.2.1 ∈ TB := tbm (k := 432) (by decide +kernel) (by decide +kernel)
theorem flX11_344 : Cond.fieldLink RX11 344 (TX7 1).1 (TX7 1).2.1 (TX7 1).2.2.1 ∈ TB := tbm (k := 434) (by decide +kernel) (by decide +kernel)
theorem flX11_350 : Cond.fieldLink RX11 350 (TX7 2).1 (TX7 2).2.1 (TX7 2).2.2.1 ∈ TB := tbm (k := 436) (by decide +kernel) (by decide +kernel)
theorem flX0_10 : Cond.fieldLink RX0 10 (TX0 0).1 (TX0 0).2.1 (TX0 0).2.2.1 ∈ TB := tbm (k := 449) (by decide +kernel) (by decide +kernel)
theorem flX0_19 : Cond.fieldLink RX0 19 (TX0 1).1 (TX0 1).2.1 (TX0 1).2.2.1 ∈ TB := tbm (k := 451) (by decide +kernel) (by decide +kernel)
theorem flX0_26 : Cond.fieldLink RX0 26 (TX0 2).1 (TX0 2).2.1 (TX0 2).2.2.1 ∈ TB := tbm (k := 453) (by decide +kernel) (by decide +kernel)
theorem flX0_30 : Cond.fieldLink RX0 30 (TX0 3).1 (TX0 3).2.1 (TX0 3).2.2.1 ∈ TB := tbm (k := 455) (by decide +kernel) (by decide +kernel)
theorem flX0_41 : Cond.fieldLink RX0 41 (TX7 3).1 (TX7 3).2.1 (TX7 3).2.2.1 ∈ TB := tbm (k := 438) (by decide +kernel) (by decide +kernel)
theorem flX1_11 : Cond.fieldLink RX1 11 (TX1 0).1 (TX1 0).2.1 (TX1 0).2.2.1 ∈ TB := tbm (k := 414) (by decide +kernel) (by decide +kernel)
theorem flX1_17 : Cond.fieldLink RX1 17 (TX1 1).1 (TX1 1).2.1 (TX1 1).2.2.1 ∈ TB := tbm (k := 415) (by decide +kernel) (by decide +kernel)
theorem flX1_21 : Cond.fieldLink RX1 21 (TX1 2).1 (TX1 2).2.1 (TX1 2).2.2.1 ∈ TB := tbm (k := 416) (by decide +kernel) (by decide +kernel)
theorem flX2_9 : Cond.fieldLink RX2 9 (TX2 0).1 (TX2 0).2.1 (TX2 0).2.2.1 ∈ TB := tbm (k := 187) (by decide +kernel) (by decide +kernel)
theorem flX2_15 : Cond.fieldLink RX2 15 (TX2 1).1 (TX2 1).2.1 (TX2 1).2.2.1 ∈ TB := tbm (k := 190) (by decide +kernel) (by decide +kernel)
theorem flX2_18 : Cond.fieldLink RX2 18 (TX2 2).1 (TX2 2).2.1 (TX2 2).2.2.1 ∈ TB := tbm (k := 193) (by decide +kernel) (by decide +kernel)
theorem flX2_21 : Cond.fieldLink RX2 21 (TX2 3).1 (TX2 3).2.1 (TX2 3).2.2.1 ∈ TB := tbm (k := 196) (by decide +kernel) (by decide +kernel)
theorem flX2_24 : Cond.fieldLink RX2 24 (TX2 4).1 (TX2 4).2.1 (TX2 4).2.2.1 ∈ TB := tbm (k := 199) (by decide +kernel) (by decide +kernel)
theorem flX2_27 : Cond.fieldLink RX2 27 (TX2 5).1 (TX2 5).2.1 (TX2 5).2.2.1 ∈ TB := tbm (k := 202) (by decide +kernel) (by decide +kernel)
theorem flX2_30 : Cond.fieldLink RX2 30 (TX2 6).1 (TX2 6).2.1 (TX2 6).2.2.1 ∈ TB := tbm (k := 205) (by decide +kernel) (by decide +kernel)
theorem flX2_36 : Cond.fieldLink RX2 36 (TX2 7).1 (TX2 7).2.1 (TX2 7).2.2.1 ∈ TB := tbm (k := 207) (by decide +kernel) (by decide +kernel)
theorem flX2_40 : Cond.fieldLink RX2 40 (TX2 8).1 (TX2 8).2.1 (TX2 8).2.2.1 ∈ TB := tbm (k := 209) (by decide +kernel) (by decide +kernel)
theorem flX2_43 : Cond.fieldLink RX2 43 (TX2 9).1 (TX2 9).2.1 (TX2 9).2.2.1 ∈ TB := tbm (k := 212) (by decide +kernel) (by decide +kernel)
theorem flX2_47 : Cond.fieldLink RX2 47 (TX2 10).1 (TX2 10).2.1 (TX2 10).2.2.1 ∈ TB := tbm (k := 217) (by decide +kernel) (by decide +kernel)
theorem flX2_50 : Cond.fieldLink RX2 50 (TX2 11).1 (TX2 11).2.1 (TX2 11).2.2.1 ∈ TB := tbm (k := 222) (by decide +kernel) (by decide +kernel)
theorem flX2_53 : Cond.fieldLink RX2 53 (TX2 12).1 (TX2 12).2.1 (TX2 12).2.2.1 ∈ TB := tbm (k := 224) (by decide +kernel) (by decide +kernel)
theorem flX2_56 : Cond.fieldLink RX2 56 (TX2 13).1 (TX2 13).2.1 (TX2 13).2.2.1 ∈ TB := tbm (k := 227) (by decide +kernel) (by decide +kernel)
theorem flX2_59 : Cond.fieldLink RX2 59 (TX2 14).1 (TX2 14).2.1 (TX2 14).2.2.1 ∈ TB := tbm (k := 230) (by decide +kernel) (by decide +kernel)
theorem flX2_62 : Cond.fieldLink RX2 62 (TX2 15).1 (TX2 15).2.1 (TX2 15).2.2.1 ∈ TB := tbm (k := 234) (by decide +kernel) (by decide +kernel)
theorem flX2_66 : Cond.fieldLink RX2 66 (TX2 16).1 (TX2 16).2.1 (TX2 16).2.2.1 ∈ TB := tbm (k := 236) (by decide +kernel) (by decide +kernel)
theorem flX3_11 : Cond.fieldLink RX3 11 (TX3 0).1 (TX3 0).2.1 (TX3 0).2.2.1 ∈ TB := tbm (k := 341) (by decide +kernel) (by decide +kernel)
theorem flX3_18 : Cond.fieldLink RX3 18 (TX3 1).1 (TX3 1).2.1 (TX3 1).2.2.1 ∈ TB := tbm (k := 342) (by decide +kernel) (by decide +kernel)
theorem flX3_32 : Cond.fieldLink RX3 32 (TX2 0).1 (TX2 0).2.1 (TX2 0).2.2.1 ∈ TB := tbm (k := 188) (by decide +kernel) (by decide +kernel)
theorem flX3_35 : Cond.fieldLink RX3 35 (TX2 1).1 (TX2 1).2.1 (TX2 1).2.2.1 ∈ TB := tbm (k := 191) (by decide +kernel) (by decide +kernel)
theorem flX3_38 : Cond.fieldLink RX3 38 (TX2 9).1 (TX2 9).2.1 (TX2 9).2.2.1 ∈ TB := tbm (k := 214) (by decide +kernel) (by decide +kernel)
theorem flX3_49 : Cond.fieldLink RX3 49 (TX2 3).1 (TX2 3).2.1 (TX2 3).2.2.1 ∈ TB := tbm (k := 197) (by decide +kernel) (by decide +kernel)
theorem flX3_52 : Cond.fieldLink RX3 52 (TX2 4).1 (TX2 4).2.1 (TX2 4).2.2.1 ∈ TB := tbm (k := 200) (by decide +kernel) (by decide +kernel)
theorem flX3_55 : Cond.fieldLink RX3 55 (TX8 2).1 (TX8 2).2.1 (TX8 2).2.2.1 ∈ TB := tbm (k := 368) (by decide +kernel) (by decide +kernel)
theorem flX3_58 : Cond.fieldLink RX3 58 (TX8 3).1 (TX8 3).2.1 (TX8 3).2.2.1 ∈ TB := tbm (k := 371) (by decide +kernel) (by decide +kernel)
theorem flX3_65 : Cond.fieldLink RX3 65 (TX8 8).1 (TX8 8).2.1 (TX8 8).2.2.1 ∈ TB := tbm (k := 383) (by decide +kernel) (by decide +kernel)
theorem flX3_73 : Cond.fieldLink RX3 73 (TX2 2).1 (TX2 2).2.1 (TX2 2).2.2.1 ∈ TB := tbm (k := 195) (by decide +kernel) (by decide +kernel)
theorem flX3_76 : Cond.fieldLink RX3 76 (TX2 5).1 (TX2 5).2.1 (TX2 5).2.2.1 ∈ TB := tbm (k := 204) (by decide +kernel) (by decide +kernel)
theorem flX3_83 : Cond.fieldLink RX3 83 (TX2 7).1 (TX2 7).2.1 (TX2 7).2.2.1 ∈ TB := tbm (k := 208) (by decide +kernel) (by decide +kernel)
theorem flX3_104 : Cond.fieldLink RX3 104 (TX2 8).1 (TX2 8).2.1 (TX2 8).2.2.1 ∈ TB := tbm (k := 211) (by decide +kernel) (by decide +kernel)
theorem flX3_114 : Cond.fieldLink RX3 114 (TX8 4).1 (TX8 4).2.1 (TX8 4).2.2.1 ∈ TB := tbm (k := 375) (by decide +kernel) (by decide +kernel)
theorem flX3_131 : Cond.fieldLink RX3 131 (TX2 10).1 (TX2 10).2.1 (TX2 10).2.2.1 ∈ TB := tbm (k := 221) (by decide +kernel) (by decide +kernel)
theorem flX3_143 : Cond.fieldLink RX3 143 (TX8 0).1 (TX8 0).2.1 (TX8 0).2.2.1 ∈ TB := tbm (k := 364) (by decide +kernel) (by decide +kernel)
theorem flX3_152 : Cond.fieldLink RX3 152 (TX2 14).1 (TX2 14).2.1 (TX2 14).2.2.1 ∈ TB := tbm (k := 233) (by decide +kernel) (by decide +kernel)
theorem flX4_13 : Cond.fieldLink RX4 13 (TX4 0).1 (TX4 0).2.1 (TX4 0).2.2.1 ∈ TB := tbm (k := 478) (by decide +kernel) (by decide +kernel)
theorem flX4_20 : Cond.fieldLink RX4 20 (TX4 1).1 (TX4 1).2.1 (TX4 1).2.2.1 ∈ TB := tbm (k := 479) (by decide +kernel) (by decide +kernel)
theorem flX4_23 : Cond.fieldLink RX4 23 (TX3 1).1 (TX3 1).2.1 (TX3 1).2.2.1 ∈ TB := tbm (k := 343) (by decide +kernel) (by decide +kernel)
theorem flX4_29 : Cond.fieldLink RX4 29 (TX2 9).1 (TX2 9).2.1 (TX2 9).2.2.1 ∈ TB := tbm (k := 213) (by decide +kernel) (by decide +kernel)
theorem flX4_41 : Cond.fieldLink RX4 41 (TX4 2).1 (TX4 2).2.1 (TX4 2).2.2.1 ∈ TB := tbm (k := 480) (by decide +kernel) (by decide +kernel)
theorem flX4_42 : Cond.fieldLink RX4 42 (TX2 10).1 (TX2 10).2.1 (TX2 10).2.2.1 ∈ TB := tbm (k := 218) (by decide +kernel) (by decide +kernel)
theorem flX4_45 : Cond.fieldLink RX4 45 (TX4 3).1 (TX4 3).2.1 (TX4 3).2.2.1 ∈ TB := tbm (k := 481) (by decide +kernel) (by decide +kernel)
theorem flX5_9 : Cond.fieldLink RX5 9 (TX5 7).1 (TX5 7).2.1 (TX5 7).2.2.1 ∈ TB := tbm (k := 314) (by decide +kernel) (by decide +kernel)
theorem flX5_20 : Cond.fieldLink RX5 20 (TX5 0).1 (TX5 0).2.1 (TX5 0).2.2.1 ∈ TB := tbm (k := 307) (by decide +kernel) (by decide +kernel)
theorem flX5_24 : Cond.fieldLink RX5 24 (TX5 1).1 (TX5 1).2.1 (TX5 1).2.2.1 ∈ TB := tbm (k := 308) (by decide +kernel) (by decide +kernel)
theorem flX5_28 : Cond.fieldLink RX5 28 (TX2 7).1 (TX2 7).2.1 (TX2 7).2.2.1 ∈ TB := tbm (k := 206) (by decide +kernel) (by decide +kernel)
theorem flX5_34 : Cond.fieldLink RX5 34 (TX5 2).1 (TX5 2).2.1 (TX5 2).2.2.1 ∈ TB := tbm (k := 309) (by decide +kernel) (by decide +kernel)
theorem flX5_40 : Cond.fieldLink RX5 40 (TX5 6).1 (TX5 6).2.1 (TX5 6).2.2.1 ∈ TB := tbm (k := 313) (by decide +kernel) (by decide +kernel)
theorem flX5_47 : Cond.fieldLink RX5 47 (TX5 4).1 (TX5 4).2.1 (TX5 4).2.2.1 ∈ TB := tbm (k := 311) (by decide +kernel) (by decide +kernel)
theorem flX5_54 : Cond.fieldLink RX5 54 (TX5 5).1 (TX5 5).2.1 (TX5 5).2.2.1 ∈ TB := tbm (k := 312) (by decide +kernel) (by decide +kernel)
theorem flX5_84 : Cond.fieldLink RX5 84 (TX2 8).1 (TX2 8).2.1 (TX2 8).2.2.1 ∈ TB := tbm (k := 210) (by decide +kernel) (by decide +kernel)
theorem flX5_93 : Cond.fieldLink RX5 93 (TX2 9).1 (TX2 9).2.1 (TX2 9).2.2.1 ∈ TB := tbm (k := 216) (by decide +kernel) (by decide +kernel)
theorem flX5_106 : Cond.fieldLink RX5 106 (TX2 10).1 (TX2 10).2.1 (TX2 10).2.2.1 ∈ TB := tbm (k := 220) (by decide +kernel) (by decide +kernel)
theorem flX5_119 : Cond.fieldLink RX5 119 (TX2 15).1 (TX2 15).2.1 (TX2 15).2.2.1 ∈ TB := tbm (k := 235) (by decide +kernel) (by decide +kernel)
theorem flX5_123 : Cond.fieldLink RX5 123 (TX2 12).1 (TX2 12).2.1 (TX2 12).2.2.1 ∈ TB := tbm (k := 226) (by decide +kernel) (by decide +kernel)
theorem flX5_126 : Cond.fieldLink RX5 126 (TX2 13).1 (TX2 13).2.1 (TX2 13).2.2.1 ∈ TB := tbm (k := 229) (by decide +kernel) (by decide +kernel)
theorem flX5_129 : Cond.fieldLink RX5 129 (TX2 11).1 (TX2 11).2.1 (TX2 11).2.2.1 ∈ TB := tbm (k := 223) (by decide +kernel) (by decide +kernel)
theorem flX5_139 : Cond.fieldLink RX5 139 (TX2 16).1 (TX2 16).2.1 (TX2 16).2.2.1 ∈ TB := tbm (k := 237) (by decide +kernel) (by decide +kernel)
theorem flX5_142 : Cond.fieldLink RX5 142 (TX2 14).1 (TX2 14).2.1 (TX2 14).2.2.1 ∈ TB := tbm (k := 232) (by decide +kernel) (by decide +kernel)
theorem flX5_150 : Cond.fieldLink RX5 150 (TX5 3).1 (TX5 3).2.1 (TX5 3).2.2.1 ∈ TB := tbm (k := 310) (by decide +kernel) (by decide +kernel)
theorem flX6_9 : Cond.fieldLink RX6 9 (TX6 0).1 (TX6 0).2.1 (TX6 0).2.2.1 ∈ TB := tbm (k := 176) (by decide +kernel) (by decide +kernel)
theorem flX6_15 : Cond.fieldLink RX6 15 (TX6 1).1 (TX6 1).2.1 (TX6 1).2.2.1 ∈ TB := tbm (k := 177) (by decide +kernel) (by decide +kernel)
theorem flX6_18 : Cond.fieldLink RX6 18 (TX6 2).1 (TX6 2).2.1 (TX6 2).2.2.1 ∈ TB := tbm (k := 178) (by decide +kernel) (by decide +kernel)
theorem flX7_9 : Cond.fieldLink RX7 9 (TX7 0).1 (TX7 0).2.1 (TX7 0).2.2.1 ∈ TB := tbm (k := 431) (by decide +kernel) (by decide +kernel)
theorem flX7_15 : Cond.fieldLink RX7 15 (TX7 1).1 (TX7 1).2.1 (TX7 1).2.2.1 ∈ TB := tbm (k := 433) (by decide +kernel) (by decide +kernel)
theorem flX7_18 : Cond.fieldLink RX7 18 (TX7 2).1 (TX7 2).2.1 (TX7 2).2.2.1 ∈ TB := tbm (k := 435) (by decide +kernel) (by decide +kernel)
theorem flX7_21 : Cond.fieldLink RX7 21 (TX7 3).1 (TX7 3).2.1 (TX7 3).2.2.1 ∈ TB := tbm (k := 437) (by decide +kernel) (by decide +kernel)
theorem flX8_9 : Cond.fieldLink RX8 9 (TX8 2).1 (TX8 2).2.1 (TX8 2).2.2.1 ∈ TB := tbm (k := 367) (by decide +kernel) (by decide +kernel)
theorem flX8_15 : Cond.fieldLink RX8 15 (TX8 3).1 (TX8 3).2.1 (TX8 3).2.2.1 ∈ TB := tbm (k := 370) (by decide +kernel) (by decide +kernel)
theorem flX8_18 : Cond.fieldLink RX8 18 (TX8 7).1 (TX8 7).2.1 (TX8 7).2.2.1 ∈ TB := tbm (k := 380) (by decide +kernel) (by decide +kernel)
theorem flX8_22 : Cond.fieldLink RX8 22 (TX8 8).1 (TX8 8).2.1 (TX8 8).2.2.1 ∈ TB := tbm (k := 382) (by decide +kernel) (by decide +kernel)
theorem flX8_25 : Cond.fieldLink RX8 25 (TX8 9).1 (TX8 9).2.1 (TX8 9).2.2.1 ∈ TB := tbm (k := 385) (by decide +kernel) (by decide +kernel)
theorem flX8_28 : Cond.fieldLink RX8 28 (TX8 0).1 (TX8 0).2.1 (TX8 0).2.2.1 ∈ TB := tbm (k := 362) (by decide +kernel) (by decide +kernel)
theorem flX8_31 : Cond.fieldLink RX8 31 (TX2 12).1 (TX2 12).2.1 (TX2 12).2.2.1 ∈ TB := tbm (k := 225) (by decide +kernel) (by decide +kernel)
theorem flX8_34 : Cond.fieldLink RX8 34 (TX2 13).1 (TX2 13).2.1 (TX2 13).2.2.1 ∈ TB := tbm (k := 228) (by decide +kernel) (by decide +kernel)
theorem flX8_35 : Cond.fieldLink RX8 35 (TX8 5).1 (TX8 5).2.1 (TX8 5).2.2.1 ∈ TB := tbm (k := 376) (by decide +kernel) (by decide +kernel)
theorem flX8_38 : Cond.fieldLink RX8 38 (TX8 6).1 (TX8 6).2.1 (TX8 6).2.2.1 ∈ TB := tbm (k := 378) (by decide +kernel) (by decide +kernel)
theorem flX8_44 : Cond.fieldLink RX8 44 (TX8 4).1 (TX8 4).2.1 (TX8 4).2.2.1 ∈ TB := tbm (k := 373) (by decide +kernel) (by decide +kernel)
theorem flX8_47 : Cond.fieldLink RX8 47 (TX8 1).1 (TX8 1).2.1 (TX8 1).2.2.1 ∈ TB := tbm (k := 365) (by decide +kernel) (by decide +kernel)
theorem flX9_9 : Cond.fieldLink RX9 9 (TX9 0).1 (TX9 0).2.1 (TX9 0).2.2.1 ∈ TB := tbm (k := 154) (by decide +kernel) (by decide +kernel)
theorem flX9_15 : Cond.fieldLink RX9 15 (TX9 1).1 (TX9 1).2.1 (TX9 1).2.2.1 ∈ TB := tbm (k := 156) (by decide +kernel) (by decide +kernel)
theorem flX10_13 : Cond.fieldLink RX10 13 (TX10 1).1 (TX10 1).2.1 (TX10 1).2.2.1 ∈ TB := tbm (k := 286) (by decide +kernel) (by decide +kernel)
theorem flX10_17 : Cond.fieldLink RX10 17 (TX10 2).1 (TX10 2).2.1 (TX10 2).2.2.1 ∈ TB := tbm (k := 287) (by decide +kernel) (by decide +kernel)
theorem flX10_20 : Cond.fieldLink RX10 20 (TX10 3).1 (TX10 3).2.1 (TX10 3).2.2.1 ∈ TB := tbm (k := 288) (by decide +kernel) (by decide +kernel)
theorem flX10_29 : Cond.fieldLink RX10 29 (TX10 0).1 (TX10 0).2.1 (TX10 0).2.2.1 ∈ TB := tbm (k := 285) (by decide +kernel) (by decide +kernel)
theorem flX10_36 : Cond.fieldLink RX10 36 (TX10 4).1 (TX10 4).2.1 (TX10 4).2.2.1 ∈ TB := tbm (k := 289) (by decide +kernel) (by decide +kernel)
theorem flX10_40 : Cond.fieldLink RX10 40 (TX10 5).1 (TX10 5).2.1 (TX10 5).2.2.1 ∈ TB := tbm (k := 290) (by decide +kernel) (by decide +kernel)
theorem flX10_43 : Cond.fieldLink RX10 43 (TX10 6).1 (TX10 6).2.1 (TX10 6).2.2.1 ∈ TB := tbm (k := 291) (by decide +kernel) (by decide +kernel)
theorem flX12_21 : Cond.fieldLink RX12 21 (TX12 0).1 (TX12 0).2.1 (TX12 0).2.2.1 ∈ TB := tbm (k := 1435) (by decide +kernel) (by decide +kernel)
theorem flX12_29 : Cond.fieldLink RX12 29 (TX12 1).1 (TX12 1).2.1 (TX12 1).2.2.1 ∈ TB := tbm (k := 1436) (by decide +kernel) (by decide +kernel)
theorem flX12_32 : Cond.fieldLink RX12 32 (TX12 2).1 (TX12 2).2.1 (TX12 2).2.2.1 ∈ TB := tbm (k := 1437) (by decide +kernel) (by decide +kernel)
theorem flX12_35 : Cond.fieldLink RX12 35 (TX12 4).1 (TX12 4).2.1 (TX12 4).2.2.1 ∈ TB := tbm (k := 1439) (by decide +kernel) (by decide +kernel)
theorem flX12_39 : Cond.fieldLink RX12 39 (TX12 5).1 (TX12 5).2.1 (TX12 5).2.2.1 ∈ TB := tbm (k := 1440) (by decide +kernel) (by decide +kernel)
theorem flX12_42 : Cond.fieldLink RX12 42 (TX12 6).1 (TX12 6).2.1 (TX12 6).2.2.1 ∈ TB := tbm (k := 1441) (by decide +kernel) (by decide +kernel)
theorem flX12_44 : Cond.fieldLink RX12 44 (TX12 7).1 (TX12 7).2.1 (TX12 7).2.2.1 ∈ TB := tbm (k := 1442) (by decide +kernel) (by decide +kernel)
theorem flX12_46 : Cond.fieldLink RX12 46 (TX12 8).1 (TX12 8).2.1 (TX12 8).2.2.1 ∈ TB := tbm (k := 1443) (by decide +kernel) (by decide +kernel)
theorem flX12_49 : Cond.fieldLink RX12 49 (TX12 9).1 (TX12 9).2.1 (TX12 9).2.2.1 ∈ TB := tbm (k := 1444) (by decide +kernel) (by decide +kernel)
theorem flX12_52 : Cond.fieldLink RX12 52 (TX12 10).1 (TX12 10).2.1 (TX12 10).2.2.1 ∈ TB := tbm (k := 1445) (by decide +kernel) (by decide +kernel)
theorem flX12_55 : Cond.fieldLink RX12 55 (TX12 11).1 (TX12 11).2.1 (TX12 11).2.2.1 ∈ TB := tbm (k := 1446) (by decide +kernel) (by decide +kernel)
theorem flX12_57 : Cond.fieldLink RX12 57 (TX12 12).1 (TX12 12).2.1 (TX12 12).2.2.1 ∈ TB := tbm (k := 1447) (by decide +kernel) (by decide +kernel)
theorem flX12_60 : Cond.fieldLink RX12 60 (TX12 13).1 (TX12 13).2.1 (TX12 13).2.2.1 ∈ TB := tbm (k := 1448) (by decide +kernel) (by decide +kernel)
theorem flX12_63 : Cond.fieldLink RX12 63 (TX12 14).1 (TX12 14).2.1 (TX12 14).2.2.1 ∈ TB := tbm (k := 1449) (by decide +kernel) (by decide +kernel)
theorem flX12_66 : Cond.fieldLink RX12 66 (TX12 15).1 (TX12 15).2.1 (TX12 15).2.2.1 ∈ TB := tbm (k := 1450) (by decide +kernel) (by decide +kernel)
theorem flX12_69 : Cond.fieldLink RX12 69 (TX12 25).1 (TX12 25).2.1 (TX12 25).2.2.1 ∈ TB := tbm (k := 1460) (by decide +kernel) (by decide +kernel)
theorem flX12_73 : Cond.fieldLink RX12 73 (TX12 27).1 (TX12 27).2.1 (TX12 27).2.2.1 ∈ TB := tbm (k := 1462) (by decide +kernel) (by decide +kernel)
theorem flX12_76 : Cond.fieldLink RX12 76 (TX12 28).1 (TX12 28).2.1 (TX12 28).2.2.1 ∈ TB := tbm (k := 1463) (by decide +kernel) (by decide +kernel)
theorem flX12_79 : Cond.fieldLink RX12 79 (TX12 29).1 (TX12 29).2.1 (TX12 29).2.2.1 ∈ TB := tbm (k := 1464) (by decide +kernel) (by decide +kernel)
theorem flX12_82 : Cond.fieldLink RX12 82 (TX12 30).1 (TX12 30).2.1 (TX12 30).2.2.1 ∈ TB := tbm (k := 1465) (by decide +kernel) (by decide +kernel)
theorem flX12_85 : Cond.fieldLink RX12 85 (TX12 40).1 (TX12 40).2.1 (TX12 40).2.2.1 ∈ TB := tbm (k := 1475) (by decide +kernel) (by decide +kernel)
theorem flX12_88 : Cond.fieldLink RX12 88 (TX12 41).1 (TX12 41).2.1 (TX12 41).2.2.1 ∈ TB := tbm (k := 1476) (by decide +kernel) (by decide +kernel)
theorem flX12_91 : Cond.fieldLink RX12 91 (TX12 42).1 (TX12 42).2.1 (TX12 42).2.2.1 ∈ TB := tbm (k := 1477) (by decide +kernel) (by decide +kernel)
theorem flX12_94 : Cond.fieldLink RX12 94 (TX12 44).1 (TX12 44).2.1 (TX12 44).2.2.1 ∈ TB := tbm (k := 1479) (by decide +kernel) (by decide +kernel)
theorem flX12_98 : Cond.fieldLink RX12 98 (TX12 45).1 (TX12 45).2.1 (TX12 45).2.2.1 ∈ TB := tbm (k := 1480) (by decide +kernel) (by decide +kernel)
theorem flX12_101 : Cond.fieldLink RX12 101 (TX12 46).1 (TX12 46).2.1 (TX12 46).2.2.1 ∈ TB := tbm (k := 1481) (by decide +kernel) (by decide +kernel)
theorem flX12_104 : Cond.fieldLink RX12 104 (TX12 47).1 (TX12 47).2.1 (TX12 47).2.2.1 ∈ TB := tbm (k := 1482) (by decide +kernel) (by decide +kernel)
theorem flX12_107 : Cond.fieldLink RX12 107 (TX12 48).1 (TX12 48).2.1 (TX12 48).2.2.1 ∈ TB := tbm (k := 1483) (by decide +kernel) (by decide +kernel)
theorem flX12_110 : Cond.fieldLink RX12 110 (TX12 49).1 (TX12 49).2.1 (TX12 49).2.2.1 ∈ TB := tbm (k := 1484) (by decide +kernel) (by decide +kernel)
theorem flX12_113 : Cond.fieldLink RX12 113 (TX12 50).1 (TX12 50).2.1 (TX12 50).2.2.1 ∈ TB := tbm (k := 1485) (by decide +kernel) (by decide +kernel)
theorem flX12_116 : Cond.fieldLink RX12 116 (TX12 54).1 (TX12 54).2.1 (TX12 54).2.2.1 ∈ TB := tbm (k := 1489) (by decide +kernel) (by decide +kernel)
theorem flX12_119 : Cond.fieldLink RX12 119 (TX12 55).1 (TX12 55).2.1 (TX12 55).2.2.1 ∈ TB := tbm (k := 1490) (by decide +kernel) (by decide +kernel)
theorem flX12_122 : Cond.fieldLink RX12 122 (TX12 56).1 (TX12 56).2.1 (TX12 56).2.2.1 ∈ TB := tbm (k := 1491) (by decide +kernel) (by decide +kernel)
theorem flX12_125 : Cond.fieldLink RX12 125 (TX12 57).1 (TX12 57).2.1 (TX12 57).2.2.1 ∈ TB := tbm (k := 1492) (by decide +kernel) (by decide +kernel)
theorem flX12_128 : Cond.fieldLink RX12 128 (TX12 58).1 (TX12 58).2.1 (TX12 58).2.2.1 ∈ TB := tbm (k := 1493) (by decide +kernel) (by decide +kernel)
theorem flX12_131 : Cond.fieldLink RX12 131 (TX12 59).1 (TX12 59).2.1 (TX12 59).2.2.1 ∈ TB := tbm (k := 1494) (by decide +kernel) (by decide +kernel)
theorem flX12_134 : Cond.fieldLink RX12 134 (TX12 36).1 (TX12 36).2.1 (TX12 36).2.2.1 ∈ TB := tbm (k := 1471) (by decide +kernel) (by decide +kernel)
theorem flX12_137 : Cond.fieldLink RX12 137 (TX12 37).1 (TX12 37).2.1 (TX12 37).2.2.1 ∈ TB := tbm (k := 1472) (by decide +kernel) (by decide +kernel)
theorem flX12_140 : Cond.fieldLink RX12 140 (TX12 3).1 (TX12 3).2.1 (TX12 3).2.2.1 ∈ TB := tbm (k := 1438) (by decide +kernel) (by decide +kernel)
theorem flX12_147 : Cond.fieldLink RX12 147 (TX12 16).1 (TX12 16).2.1 (TX12 16).2.2.1 ∈ TB := tbm (k := 1451) (by decide +kernel) (by decide +kernel)
theorem flX12_150 : Cond.fieldLink RX12 150 (TX12 18).1 (TX12 18).2.1 (TX12 18).2.2.1 ∈ TB := tbm (k := 1453) (by decide +kernel) (by decide +kernel)
theorem flX12_153 : Cond.fieldLink RX12 153 (TX12 17).1 (TX12 17).2.1 (TX12 17).2.2.1 ∈ TB := tbm (k := 1452) (by decide +kernel) (by decide +kernel)
theorem flX12_160 : Cond.fieldLink RX12 160 (TX12 21).1 (TX12 21).2.1 (TX12 21).2.2.1 ∈ TB := tbm (k := 1456) (by decide +kernel) (by decide +kernel)
theorem flX12_163 : Cond.fieldLink RX12 163 (TX12 19).1 (TX12 19).2.1 (TX12 19).2.2.1 ∈ TB := tbm (k := 1454) (by decide +kernel) (by decide +kernel)
theorem flX12_173 : Cond.fieldLink RX12 173 (TX12 20).1 (TX12 20).2.1 (TX12 20).2.2.1 ∈ TB := tbm (k := 1455) (by decide +kernel) (by decide +kernel)
theorem flX12_186 : Cond.fieldLink RX12 186 (TX12 22).1 (TX12 22).2.1 (TX12 22).2.2.1 ∈ TB := tbm (k := 1457) (by decide +kernel) (by decide +kernel)
theorem flX12_189 : Cond.fieldLink RX12 189 (TX12 23).1 (TX12 23).2.1 (TX12 23).2.2.1 ∈ TB := tbm (k := 1458) (by decide +kernel) (by decide +kernel)
theorem flX12_192 : Cond.fieldLink RX12 192 (TX12 24).1 (TX12 24).2.1 (TX12 24).2.2.1 ∈ TB := tbm (k := 1459) (by decide +kernel) (by decide +kernel)
theorem flX12_220 : Cond.fieldLink RX12 220 (TX12 26).1 (TX12 26).2.1 (TX12 26).2.2.1 ∈ TB := tbm (k := 1461) (by decide +kernel) (by decide +kernel)
theorem flX12_303 : Cond.fieldLink RX12 303 (TX12 31).1 (TX12 31).2.1 (TX12 31).2.2.1 ∈ TB := tbm (k := 1466) (by decide +kernel) (by decide +kernel)
theorem flX12_305 : Cond.fieldLink RX12 305 (TX12 32).1 (TX12 32).2.1 (TX12 32).2.2.1 ∈ TB := tbm (k := 1467) (by decide +kernel) (by decide +kernel)
theorem flX12_308 : Cond.fieldLink RX12 308 (TX12 33).1 (TX12 33).2.1 (TX12 33).2.2.1 ∈ TB := tbm (k := 1468) (by decide +kernel) (by decide +kernel)
theorem flX12_311 : Cond.fieldLink RX12 311 (TX12 34).1 (TX12 34).2.1 (TX12 34).2.2.1 ∈ TB := tbm (k := 1469) (by decide +kernel) (by decide +kernel)
theorem flX12_314 : Cond.fieldLink RX12 314 (TX12 35).1 (TX12 35).2.1 (TX12 35).2.2.1 ∈ TB := tbm (k := 1470) (by decide +kernel) (by decide +kernel)
theorem flX12_320 : Cond.fieldLink RX12 320 (TX12 38).1 (TX12 38).2.1 (TX12 38).2.2.1 ∈ TB := tbm (k := 1473) (by decide +kernel) (by decide +kernel)
theorem flX12_323 : Cond.fieldLink RX12 323 (TX12 39).1 (TX12 39).2.1 (TX12 39).2.2.1 ∈ TB := tbm (k := 1474) (by decide +kernel) (by decide +kernel)
theorem flX12_326 : Cond.fieldLink RX12 326 (TX12 51).1 (TX12 51).2.1 (TX12 51).2.2.1 ∈ TB := tbm (k := 1486) (by decide +kernel) (by decide +kernel)
theorem flX12_391 : Cond.fieldLink RX12 391 (TX12 43).1 (TX12 43).2.1 (TX12 43).2.2.1 ∈ TB := tbm (k := 1478) (by decide +kernel) (by decide +kernel)
theorem flX12_484 : Cond.fieldLink RX12 484 (TX12 52).1 (TX12 52).2.1 (TX12 52).2.2.1 ∈ TB := tbm (k := 1487) (by decide +kernel) (by decide +kernel)
theorem flX12_487 : Cond.fieldLink RX12 487 (TX12 53).1 (TX12 53).2.1 (TX12 53).2.2.1 ∈ TB := tbm (k := 1488) (by decide +kernel) (by decide +kernel)
theorem mlX11_75 : Cond.methodLink RX11 75 yX9_append ∈ TB := tbm (k := 527) (by decide +kernel) (by decide +kernel)
theorem mlX11_82 : Cond.methodLink RX11 82 yX5_read ∈ TB := tbm (k := 846) (by decide +kernel) (by decide +kernel)
theorem mlX11_92 : Cond.methodLink RX11 92 yX0_begin ∈ TB := tbm (k := 1087) (by decide +kernel) (by decide +kernel)
theorem mlX11_99 : Cond.methodLink RX11 99 yX3_takeShares ∈ TB := tbm (k := 568) (by decide +kernel) (by decide +kernel)
theorem mlX11_112 : Cond.methodLink RX11 112 yX11_marketPlace ∈ TB := tbm (k := 628) (by decide +kernel) (by decide +kernel)
theorem mlX11_122 : Cond.methodLink RX11 122 yX2_rainIn ∈ TB := tbm (k := 1111) (by decide +kernel) (by decide +kernel)
theorem mlX11_157 : Cond.methodLink RX11 157 yX11_needHouse ∈ TB := tbm (k := 1134) (by decide +kernel) (by decide +kernel)
theorem mlX11_169 : Cond.methodLink RX11 169 yX8_lotOf ∈ TB := tbm (k := 738) (by decide +kernel) (by decide +kernel)
theorem mlX11_180 : Cond.methodLink RX11 180 yX3_enviedBy ∈ TB := tbm (k := 690) (by decide +kernel) (by decide +kernel)
theorem mlX11_184 : Cond.methodLink RX11 184 yX11_needPlot ∈ TB := tbm (k := 1146) (by decide +kernel) (by decide +kernel)
theorem mlX11_196 : Cond.methodLink RX11 196 yX3_walkToMarket ∈ TB := tbm (k := 1151) (by decide +kernel) (by decide +kernel)
theorem mlX11_199 : Cond.methodLink RX11 199 yX3_ownerOf ∈ TB := tbm (k := 1155) (by decide +kernel) (by decide +kernel)
theorem mlX11_202 : Cond.methodLink RX11 202 yX3_worthOf ∈ TB := tbm (k := 1166) (by decide +kernel) (by decide +kernel)
theorem mlX11_206 : Cond.methodLink RX11 206 yX11_needWithin ∈ TB := tbm (k := 1174) (by decide +kernel) (by decide +kernel)
theorem mlX11_210 : Cond.methodLink RX11 210 yX3_cropOf ∈ TB := tbm (k := 747) (by decide +kernel) (by decide +kernel)
theorem mlX11_214 : Cond.methodLink RX11 214 yX3_plotsLeft ∈ TB := tbm (k := 539) (by decide +kernel) (by decide +kernel)
theorem mlX11_224 : Cond.methodLink RX11 224 yX11_keepAct ∈ TB := tbm (k := 551) (by decide +kernel) (by decide +kernel)
theorem mlX11_227 : Cond.methodLink RX11 227 yX3_drawLots ∈ TB := tbm (k := 563) (by decide +kernel) (by decide +kernel)
theorem mlX11_230 : Cond.methodLink RX11 230 yX8_turnLot ∈ TB := tbm (k := 1185) (by decide +kernel) (by decide +kernel)
theorem mlX11_233 : Cond.methodLink RX11 233 yX11_refuse ∈ TB := tbm (k := 624) (by decide +kernel) (by decide +kernel)
theorem mlX11_236 : Cond.methodLink RX11 236 yX8_moveInOrder ∈ TB := tbm (k := 1196) (by decide +kernel) (by decide +kernel)
theorem mlX11_240 : Cond.methodLink RX11 240 yX3_passYears ∈ TB := tbm (k := 636) (by decide +kernel) (by decide +kernel)
theorem mlX11_243 : Cond.methodLink RX11 243 yX1_takeLast ∈ TB := tbm (k := 674) (by decide +kernel) (by decide +kernel)
theorem mlX11_247 : Cond.methodLink RX11 247 yX1_keep ∈ TB := tbm (k := 555) (by decide +kernel) (by decide +kernel)
theorem mlX11_250 : Cond.methodLink RX11 250 yX11_findEnvy ∈ TB := tbm (k := 686) (by decide +kernel) (by decide +kernel)
theorem mlX11_253 : Cond.methodLink RX11 253 yX11_comesBack ∈ TB := tbm (k := 699) (by decide +kernel) (by decide +kernel)
theorem mlX11_257 : Cond.methodLink RX11 257 yX11_needWhat ∈ TB := tbm (k := 1265) (by decide +kernel) (by decide +kernel)
theorem mlX11_260 : Cond.methodLink RX11 260 yX11_howManyEnvy ∈ TB := tbm (k := 1329) (by decide +kernel) (by decide +kernel)
theorem mlX11_263 : Cond.methodLink RX11 263 yX4_weigh ∈ TB := tbm (k := 1214) (by decide +kernel) (by decide +kernel)
theorem mlX11_267 : Cond.methodLink RX11 267 yX4_mostTogether ∈ TB := tbm (k := 1220) (by decide +kernel) (by decide +kernel)
theorem mlX11_271 : Cond.methodLink RX11 271 yX4_plotFor ∈ TB := tbm (k := 1250) (by decide +kernel) (by decide +kernel)
theorem mlX11_274 : Cond.methodLink RX11 274 yX4_mostForTheLeast ∈ TB := tbm (k := 1269) (by decide +kernel) (by decide +kernel)
theorem mlX11_277 : Cond.methodLink RX11 277 yX11_leastSpread ∈ TB := tbm (k := 707) (by decide +kernel) (by decide +kernel)
theorem mlX11_281 : Cond.methodLink RX11 281 Lib.Math.max.name ∈ TB := tbm (k := 711) (by decide +kernel) (by decide +kernel)
theorem mlX11_287 : Cond.methodLink RX11 287 Lib.Math.min.name ∈ TB := tbm (k := 712) (by decide +kernel) (by decide +kernel)
theorem mlX11_290 : Cond.methodLink RX11 290 yX3_strengthOf ∈ TB := tbm (k := 713) (by decide +kernel) (by decide +kernel)
theorem mlX11_296 : Cond.methodLink RX11 296 yX3_walksToShares ∈ TB := tbm (k := 722) (by decide +kernel) (by decide +kernel)
theorem mlX11_299 : Cond.methodLink RX11 299 yX8_copyFrom ∈ TB := tbm (k := 730) (by decide +kernel) (by decide +kernel)
theorem mlX11_306 : Cond.methodLink RX11 306 yX3_worthOfShare ∈ TB := tbm (k := 1348) (by decide +kernel) (by decide +kernel)
theorem mlX11_310 : Cond.methodLink RX11 310 yX11_foresee ∈ TB := tbm (k := 1280) (by decide +kernel) (by decide +kernel)
theorem mlX11_313 : Cond.methodLink RX11 313 yX8_isGone ∈ TB := tbm (k := 1291) (by decide +kernel) (by decide +kernel)
theorem mlX11_317 : Cond.methodLink RX11 317 yJ6_bitCount_0f7a4 ∈ TB := tbm (k := 1356) (by decide +kernel) (by decide +kernel)
theorem mlX11_320 : Cond.methodLink RX11 320 yX3_cropOnShare ∈ TB := tbm (k := 1364) (by decide +kernel) (by decide +kernel)
theorem mlX11_323 : Cond.methodLink RX11 323 yX8_allStores ∈ TB := tbm (k := 1318) (by decide +kernel) (by decide +kernel)
theorem mlX11_326 : Cond.methodLink RX11 326 yX3_allStrength ∈ TB := tbm (k := 1306) (by decide +kernel) (by decide +kernel)
theorem mlX11_329 : Cond.methodLink RX11 329 yX8_beginYears ∈ TB := tbm (k := 1414) (by decide +kernel) (by decide +kernel)
theorem mlX11_332 : Cond.methodLink RX11 332 yX8_mostStore ∈ TB := tbm (k := 1415) (by decide +kernel) (by decide +kernel)
theorem mlX11_335 : Cond.methodLink RX11 335 yX7_add ∈ TB := tbm (k := 1379) (by decide +kernel) (by decide +kernel)
theorem mlX11_338 : Cond.methodLink RX11 338 yX11_agrees ∈ TB := tbm (k := 739) (by decide +kernel) (by decide +kernel)
theorem mlX11_346 : Cond.methodLink RX11 346 yX11_cropOfBrother ∈ TB := tbm (k := 743) (by decide +kernel) (by decide +kernel)
theorem mlX11_353 : Cond.methodLink RX11 353 Lib.Math.abs.name ∈ TB := tbm (k := 1390) (by decide +kernel) (by decide +kernel)
theorem mlX11_356 : Cond.methodLink RX11 356 yX11_isContent ∈ TB := tbm (k := 1398) (by decide +kernel) (by decide +kernel)
theorem mlX11_360 : Cond.methodLink RX11 360 yX11_gain ∈ TB := tbm (k := 1402) (by decide +kernel) (by decide +kernel)
theorem mlX11_366 : Cond.methodLink RX11 366 yX0_copyFrom ∈ TB := tbm (k := 756) (by decide +kernel) (by decide +kernel)
theorem mlX11_369 : Cond.methodLink RX11 369 yX2_hasHouse ∈ TB := tbm (k := 1138) (by decide +kernel) (by decide +kernel)
theorem mlX11_372 : Cond.methodLink RX11 372 yX2_hasPlot ∈ TB := tbm (k := 1150) (by decide +kernel) (by decide +kernel)
theorem mlX0_34 : Cond.methodLink RX0 34 yX8_begin ∈ TB := tbm (k := 1091) (by decide +kernel) (by decide +kernel)
theorem mlX0_38 : Cond.methodLink RX0 38 yX1_clear ∈ TB := tbm (k := 1099) (by decide +kernel) (by decide +kernel)
theorem mlX0_45 : Cond.methodLink RX0 45 yX8_copyFrom ∈ TB := tbm (k := 760) (by decide +kernel) (by decide +kernel)
theorem mlX0_49 : Cond.methodLink RX0 49 yX1_copyFrom ∈ TB := tbm (k := 761) (by decide +kernel) (by decide +kernel)
theorem mlX0_52 : Cond.methodLink RX0 52 yX7_copyFrom ∈ TB := tbm (k := 768) (by decide +kernel) (by decide +kernel)
theorem mlX1_24 : Cond.methodLink RX1 24 yX8_writeTo ∈ TB := tbm (k := 559) (by decide +kernel) (by decide +kernel)
theorem mlX1_28 : Cond.methodLink RX1 28 yX8_readFrom ∈ TB := tbm (k := 678) (by decide +kernel) (by decide +kernel)
theorem mlX1_31 : Cond.methodLink RX1 31 arraycopyName ∈ TB := tbm (k := 765) (by decide +kernel) (by decide +kernel)
theorem mlX2_69 : Cond.methodLink RX2 69 yX6_clear ∈ TB := tbm (k := 854) (by decide +kernel) (by decide +kernel)
theorem mlX2_72 : Cond.methodLink RX2 72 yJ9_floorMod_7cf53 ∈ TB := tbm (k := 656) (by decide +kernel) (by decide +kernel)
theorem mlX3_22 : Cond.methodLink RX3 22 yX2_hasHouse ∈ TB := tbm (k := 592) (by decide +kernel) (by decide +kernel)
theorem mlX3_26 : Cond.methodLink RX3 26 yX8_lotOf ∈ TB := tbm (k := 584) (by decide +kernel) (by decide +kernel)
theorem mlX3_42 : Cond.methodLink RX3 42 yX3_strengthOf ∈ TB := tbm (k := 1310) (by decide +kernel) (by decide +kernel)
theorem mlX3_46 : Cond.methodLink RX3 46 yX2_hasPlot ∈ TB := tbm (k := 596) (by decide +kernel) (by decide +kernel)
theorem mlX3_61 : Cond.methodLink RX3 61 yX3_walk ∈ TB := tbm (k := 600) (by decide +kernel) (by decide +kernel)
theorem mlX3_68 : Cond.methodLink RX3 68 Lib.Math.abs.name ∈ TB := tbm (k := 603) (by decide +kernel) (by decide +kernel)
theorem mlX3_79 : Cond.methodLink RX3 79 yX3_tellValues ∈ TB := tbm (k := 588) (by decide +kernel) (by decide +kernel)
theorem mlX3_87 : Cond.methodLink RX3 87 yX6_isTold ∈ TB := tbm (k := 606) (by decide +kernel) (by decide +kernel)
theorem mlX3_93 : Cond.methodLink RX3 93 yX6_reckon ∈ TB := tbm (k := 610) (by decide +kernel) (by decide +kernel)
theorem mlX3_97 : Cond.methodLink RX3 97 yX3_worthOf ∈ TB := tbm (k := 580) (by decide +kernel) (by decide +kernel)
theorem mlX3_101 : Cond.methodLink RX3 101 yX2_rainIn ∈ TB := tbm (k := 652) (by decide +kernel) (by decide +kernel)
theorem mlX3_107 : Cond.methodLink RX3 107 Lib.Math.min.name ∈ TB := tbm (k := 659) (by decide +kernel) (by decide +kernel)
theorem mlX3_111 : Cond.methodLink RX3 111 Lib.Math.max.name ∈ TB := tbm (k := 662) (by decide +kernel) (by decide +kernel)
theorem mlX3_117 : Cond.methodLink RX3 117 yX3_cropOf ∈ TB := tbm (k := 648) (by decide +kernel) (by decide +kernel)
theorem mlX3_121 : Cond.methodLink RX3 121 yX3_allPlots ∈ TB := tbm (k := 543) (by decide +kernel) (by decide +kernel)
theorem mlX3_125 : Cond.methodLink RX3 125 yX8_houseAt ∈ TB := tbm (k := 572) (by decide +kernel) (by decide +kernel)
theorem mlX3_128 : Cond.methodLink RX3 128 yX3_dearest ∈ TB := tbm (k := 576) (by decide +kernel) (by decide +kernel)
theorem mlX3_138 : Cond.methodLink RX3 138 yX3_worthOfShare ∈ TB := tbm (k := 695) (by decide +kernel) (by decide +kernel)
theorem mlX3_146 : Cond.methodLink RX3 146 yX8_isGone ∈ TB := tbm (k := 640) (by decide +kernel) (by decide +kernel)
theorem mlX3_149 : Cond.methodLink RX3 149 yX3_cropOnShare ∈ TB := tbm (k := 644) (by decide +kernel) (by decide +kernel)
theorem mlX3_155 : Cond.methodLink RX3 155 yX8_storeAndEat ∈ TB := tbm (k := 665) (by decide +kernel) (by decide +kernel)
theorem mlX4_35 : Cond.methodLink RX4 35 Lib.Math.min.name ∈ TB := tbm (k := 1218) (by decide +kernel) (by decide +kernel)
theorem mlX4_46 : Cond.methodLink RX4 46 yX3_worthOf ∈ TB := tbm (k := 1219) (by decide +kernel) (by decide +kernel)
theorem mlX4_50 : Cond.methodLink RX4 50 yX4_fill ∈ TB := tbm (k := 1224) (by decide +kernel) (by decide +kernel)
theorem mlX4_56 : Cond.methodLink RX4 56 yJ6_bitCount_0f7a4 ∈ TB := tbm (k := 1229) (by decide +kernel) (by decide +kernel)
theorem mlX4_64 : Cond.methodLink RX4 64 yX4_mostFrom ∈ TB := tbm (k := 1236) (by decide +kernel) (by decide +kernel)
theorem mlX4_68 : Cond.methodLink RX4 68 yX4_canBeGiven ∈ TB := tbm (k := 1240) (by decide +kernel) (by decide +kernel)
theorem mlX4_72 : Cond.methodLink RX4 72 Lib.MathLoose.min_long.x ∈ TB := tbm (k := 1244) (by decide +kernel) (by decide +kernel)
theorem mlX4_75 : Cond.methodLink RX4 75 Lib.MathLoose.max_long.x ∈ TB := tbm (k := 1247) (by decide +kernel) (by decide +kernel)
theorem mlX4_78 : Cond.methodLink RX4 78 yX4_firstPlot ∈ TB := tbm (k := 1254) (by decide +kernel) (by decide +kernel)
theorem mlX5_37 : Cond.methodLink RX5 37 yX2_clear ∈ TB := tbm (k := 850) (by decide +kernel) (by decide +kernel)
theorem mlX5_43 : Cond.methodLink RX5 43 yX10_cut ∈ TB := tbm (k := 858) (by decide +kernel) (by decide +kernel)
theorem mlX5_50 : Cond.methodLink RX5 50 yX10_symbolAt ∈ TB := tbm (k := 966) (by decide +kernel) (by decide +kernel)
theorem mlX5_57 : Cond.methodLink RX5 57 yX5_readLine ∈ TB := tbm (k := 970) (by decide +kernel) (by decide +kernel)
theorem mlX5_60 : Cond.methodLink RX5 60 yX10_startAt ∈ TB := tbm (k := 1083) (by decide +kernel) (by decide +kernel)
theorem mlX5_63 : Cond.methodLink RX5 63 yX5_readHouse ∈ TB := tbm (k := 974) (by decide +kernel) (by decide +kernel)
theorem mlX5_66 : Cond.methodLink RX5 66 yX5_readPlot ∈ TB := tbm (k := 1006) (by decide +kernel) (by decide +kernel)
theorem mlX5_69 : Cond.methodLink RX5 69 yX5_readMarket ∈ TB := tbm (k := 1018) (by decide +kernel) (by decide +kernel)
theorem mlX5_72 : Cond.methodLink RX5 72 yX5_readRain ∈ TB := tbm (k := 1022) (by decide +kernel) (by decide +kernel)
theorem mlX5_75 : Cond.methodLink RX5 75 yX5_readEats ∈ TB := tbm (k := 1030) (by decide +kernel) (by decide +kernel)
theorem mlX5_80 : Cond.methodLink RX5 80 yX5_readRule ∈ TB := tbm (k := 1034) (by decide +kernel) (by decide +kernel)
theorem mlX5_87 : Cond.methodLink RX5 87 yX5_refuseAs ∈ TB := tbm (k := 978) (by decide +kernel) (by decide +kernel)
theorem mlX5_90 : Cond.methodLink RX5 90 yX5_readSign ∈ TB := tbm (k := 1079) (by decide +kernel) (by decide +kernel)
theorem mlX5_96 : Cond.methodLink RX5 96 yX5_advance ∈ TB := tbm (k := 982) (by decide +kernel) (by decide +kernel)
theorem mlX5_99 : Cond.methodLink RX5 99 yX5_readNumber ∈ TB := tbm (k := 986) (by decide +kernel) (by decide +kernel)
theorem mlX5_102 : Cond.methodLink RX5 102 yX2_addHouse ∈ TB := tbm (k := 1002) (by decide +kernel) (by decide +kernel)
theorem mlX5_109 : Cond.methodLink RX5 109 yX5_peekNumber ∈ TB := tbm (k := 990) (by decide +kernel) (by decide +kernel)
theorem mlX5_112 : Cond.methodLink RX5 112 yX2_hasPlotAt ∈ TB := tbm (k := 1010) (by decide +kernel) (by decide +kernel)
theorem mlX5_116 : Cond.methodLink RX5 116 yX2_addPlot ∈ TB := tbm (k := 1014) (by decide +kernel) (by decide +kernel)
theorem mlX5_132 : Cond.methodLink RX5 132 yX2_addRain ∈ TB := tbm (k := 1026) (by decide +kernel) (by decide +kernel)
theorem mlX5_135 : Cond.methodLink RX5 135 yX5_isNumber ∈ TB := tbm (k := 998) (by decide +kernel) (by decide +kernel)
theorem mlX5_145 : Cond.methodLink RX5 145 yX6_isTold ∈ TB := tbm (k := 1038) (by decide +kernel) (by decide +kernel)
theorem mlX5_153 : Cond.methodLink RX5 153 yX5_readExpr ∈ TB := tbm (k := 1039) (by decide +kernel) (by decide +kernel)
theorem mlX5_156 : Cond.methodLink RX5 156 yX10_numberAt ∈ TB := tbm (k := 994) (by decide +kernel) (by decide +kernel)
theorem mlX5_159 : Cond.methodLink RX5 159 yX5_mayBeginExpr ∈ TB := tbm (k := 1043) (by decide +kernel) (by decide +kernel)
theorem mlX5_162 : Cond.methodLink RX5 162 yX5_readAnd ∈ TB := tbm (k := 1047) (by decide +kernel) (by decide +kernel)
theorem mlX5_165 : Cond.methodLink RX5 165 yX6_add ∈ TB := tbm (k := 1071) (by decide +kernel) (by decide +kernel)
theorem mlX5_168 : Cond.methodLink RX5 168 yX5_readNot ∈ TB := tbm (k := 1051) (by decide +kernel) (by decide +kernel)
theorem mlX5_171 : Cond.methodLink RX5 171 yX5_readTest ∈ TB := tbm (k := 1055) (by decide +kernel) (by decide +kernel)
theorem mlX5_174 : Cond.methodLink RX5 174 yX5_readSum ∈ TB := tbm (k := 1059) (by decide +kernel) (by decide +kernel)
theorem mlX5_177 : Cond.methodLink RX5 177 yX5_readProduct ∈ TB := tbm (k := 1063) (by decide +kernel) (by decide +kernel)
theorem mlX5_180 : Cond.methodLink RX5 180 yX5_readPart ∈ TB := tbm (k := 1067) (by decide +kernel) (by decide +kernel)
theorem mlX5_183 : Cond.methodLink RX5 183 yX5_readValue ∈ TB := tbm (k := 1075) (by decide +kernel) (by decide +kernel)
theorem mlX6_22 : Cond.methodLink RX6 22 yX6_valueOf ∈ TB := tbm (k := 614) (by decide +kernel) (by decide +kernel)
theorem mlX6_26 : Cond.methodLink RX6 26 yX6_join ∈ TB := tbm (k := 617) (by decide +kernel) (by decide +kernel)
theorem mlX8_41 : Cond.methodLink RX8 41 yX8_beginYears ∈ TB := tbm (k := 1095) (by decide +kernel) (by decide +kernel)
theorem mlX8_50 : Cond.methodLink RX8 50 Lib.Math.min.name ∈ TB := tbm (k := 669) (by decide +kernel) (by decide +kernel)
theorem mlX8_56 : Cond.methodLink RX8 56 Lib.Math.max.name ∈ TB := tbm (k := 1419) (by decide +kernel) (by decide +kernel)
theorem mlX10_30 : Cond.methodLink RX10 30 Lib.Math.min.name ∈ TB := tbm (k := 862) (by decide +kernel) (by decide +kernel)
theorem mlX10_46 : Cond.methodLink RX10 46 yX10_skipBlanks ∈ TB := tbm (k := 863) (by decide +kernel) (by decide +kernel)
theorem mlX10_49 : Cond.methodLink RX10 49 yX10_cutOne ∈ TB := tbm (k := 867) (by decide +kernel) (by decide +kernel)
theorem mlX10_52 : Cond.methodLink RX10 52 yX10_isLetter ∈ TB := tbm (k := 871) (by decide +kernel) (by decide +kernel)
theorem mlX10_56 : Cond.methodLink RX10 56 yX10_cutWord ∈ TB := tbm (k := 875) (by decide +kernel) (by decide +kernel)
theorem mlX10_59 : Cond.methodLink RX10 59 yX10_isDigit ∈ TB := tbm (k := 955) (by decide +kernel) (by decide +kernel)
theorem mlX10_62 : Cond.methodLink RX10 62 yX10_cutNumber ∈ TB := tbm (k := 959) (by decide +kernel) (by decide +kernel)
theorem mlX10_65 : Cond.methodLink RX10 65 yX10_signOf ∈ TB := tbm (k := 963) (by decide +kernel) (by decide +kernel)
theorem mlX10_69 : Cond.methodLink RX10 69 yX10_keywordOf ∈ TB := tbm (k := 879) (by decide +kernel) (by decide +kernel)
theorem mlX10_72 : Cond.methodLink RX10 72 yX10_valueOf ∈ TB := tbm (k := 944) (by decide +kernel) (by decide +kernel)
theorem mlX10_77 : Cond.methodLink RX10 77 yX10_spells ∈ TB := tbm (k := 884) (by decide +kernel) (by decide +kernel)
theorem mlX10_111 : Cond.methodLink RX10 111 yJ0_length_8abf5 ∈ TB := tbm (k := 888) (by decide +kernel) (by decide +kernel)
theorem mlX10_116 : Cond.methodLink RX10 116 yJ0_charAt_5068e ∈ TB := tbm (k := 898) (by decide +kernel) (by decide +kernel)
theorem mlX12_143 : Cond.methodLink RX12 143 yX12_isIn ∈ TB := tbm (k := 1804) (by decide +kernel) (by decide +kernel)
theorem mlX12_156 : Cond.methodLink RX12 156 yX12_byteAt ∈ TB := tbm (k := 1636) (by decide +kernel) (by decide +kernel)
theorem mlX12_166 : Cond.methodLink RX12 166 yX12_isLetter ∈ TB := tbm (k := 1640) (by decide +kernel) (by decide +kernel)
theorem mlX12_170 : Cond.methodLink RX12 170 yX12_isDigit ∈ TB := tbm (k := 1643) (by decide +kernel) (by decide +kernel)
theorem mlX12_177 : Cond.methodLink RX12 177 Lib.Math.min.name ∈ TB := tbm (k := 1647) (by decide +kernel) (by decide +kernel)
theorem mlX12_183 : Cond.methodLink RX12 183 yX12_isMark ∈ TB := tbm (k := 1648) (by decide +kernel) (by decide +kernel)
theorem mlX12_195 : Cond.methodLink RX12 195 yJ0_length_8abf5 ∈ TB := tbm (k := 1660) (by decide +kernel) (by decide +kernel)
theorem mlX12_199 : Cond.methodLink RX12 199 yJ0_charAt_5068e ∈ TB := tbm (k := 1661) (by decide +kernel) (by decide +kernel)
theorem mlX12_203 : Cond.methodLink RX12 203 yX12_is ∈ TB := tbm (k := 1656) (by decide +kernel) (by decide +kernel)
theorem mlX12_207 : Cond.methodLink RX12 207 yX12_isMarked ∈ TB := tbm (k := 1689) (by decide +kernel) (by decide +kernel)
theorem mlX12_210 : Cond.methodLink RX12 210 yX12_wrong ∈ TB := tbm (k := 1665) (by decide +kernel) (by decide +kernel)
theorem mlX12_214 : Cond.methodLink RX12 214 yX12_stepOn ∈ TB := tbm (k := 1632) (by decide +kernel) (by decide +kernel)
theorem mlX12_217 : Cond.methodLink RX12 217 yX12_numberNow ∈ TB := tbm (k := 1673) (by decide +kernel) (by decide +kernel)
theorem mlX12_224 : Cond.methodLink RX12 224 yX12_readNumber ∈ TB := tbm (k := 1669) (by decide +kernel) (by decide +kernel)
theorem mlX12_227 : Cond.methodLink RX12 227 yX12_lay ∈ TB := tbm (k := 1714) (by decide +kernel) (by decide +kernel)
theorem mlX12_230 : Cond.methodLink RX12 230 yX12_which ∈ TB := tbm (k := 1718) (by decide +kernel) (by decide +kernel)
theorem mlX12_234 : Cond.methodLink RX12 234 yX12_mark ∈ TB := tbm (k := 1722) (by decide +kernel) (by decide +kernel)
theorem mlX12_237 : Cond.methodLink RX12 237 yX12_readExpression ∈ TB := tbm (k := 1685) (by decide +kernel) (by decide +kernel)
theorem mlX12_240 : Cond.methodLink RX12 240 yX12_readPart ∈ TB := tbm (k := 1710) (by decide +kernel) (by decide +kernel)
theorem mlX12_243 : Cond.methodLink RX12 243 yX12_readProduct ∈ TB := tbm (k := 1706) (by decide +kernel) (by decide +kernel)
theorem mlX12_248 : Cond.methodLink RX12 248 yX12_readSum ∈ TB := tbm (k := 1702) (by decide +kernel) (by decide +kernel)
theorem mlX12_251 : Cond.methodLink RX12 251 yX12_readNot ∈ TB := tbm (k := 1697) (by decide +kernel) (by decide +kernel)
theorem mlX12_256 : Cond.methodLink RX12 256 yX12_readAnd ∈ TB := tbm (k := 1693) (by decide +kernel) (by decide +kernel)
theorem mlX12_261 : Cond.methodLink RX12 261 yX12_another ∈ TB := tbm (k := 1733) (by decide +kernel) (by decide +kernel)
theorem mlX12_273 : Cond.methodLink RX12 273 yX12_sayRain ∈ TB := tbm (k := 1677) (by decide +kernel) (by decide +kernel)
theorem mlX12_276 : Cond.methodLink RX12 276 yX12_sayRule ∈ TB := tbm (k := 1681) (by decide +kernel) (by decide +kernel)
theorem mlX12_282 : Cond.methodLink RX12 282 yX12_sayHouse ∈ TB := tbm (k := 1729) (by decide +kernel) (by decide +kernel)
theorem mlX12_287 : Cond.methodLink RX12 287 yX12_sayPlot ∈ TB := tbm (k := 1738) (by decide +kernel) (by decide +kernel)
theorem mlX12_290 : Cond.methodLink RX12 290 yX12_fail ∈ TB := tbm (k := 1628) (by decide +kernel) (by decide +kernel)
theorem mlX12_293 : Cond.methodLink RX12 293 yX12_readLine ∈ TB := tbm (k := 1651) (by decide +kernel) (by decide +kernel)
theorem mlX12_296 : Cond.methodLink RX12 296 yX12_takeOver ∈ TB := tbm (k := 1742) (by decide +kernel) (by decide +kernel)
theorem mlX12_299 : Cond.methodLink RX12 299 yX12_takeHalf ∈ TB := tbm (k := 1746) (by decide +kernel) (by decide +kernel)
theorem mlX12_317 : Cond.methodLink RX12 317 yX12_takeShares ∈ TB := tbm (k := 1749) (by decide +kernel) (by decide +kernel)
theorem mlX12_329 : Cond.methodLink RX12 329 yX12_reckon ∈ TB := tbm (k := 1781) (by decide +kernel) (by decide +kernel)
theorem mlX12_333 : Cond.methodLink RX12 333 yX12_isOf ∈ TB := tbm (k := 1774) (by decide +kernel) (by decide +kernel)
theorem mlX12_336 : Cond.methodLink RX12 336 Lib.Math.abs.name ∈ TB := tbm (k := 1765) (by decide +kernel) (by decide +kernel)
theorem mlX12_339 : Cond.methodLink RX12 339 yX12_strengthOf ∈ TB := tbm (k := 1770) (by decide +kernel) (by decide +kernel)
theorem mlX12_342 : Cond.methodLink RX12 342 yX12_walkOf ∈ TB := tbm (k := 1761) (by decide +kernel) (by decide +kernel)
theorem mlX12_345 : Cond.methodLink RX12 345 yX12_askOf ∈ TB := tbm (k := 1766) (by decide +kernel) (by decide +kernel)
theorem mlX12_349 : Cond.methodLink RX12 349 yX12_valueNow ∈ TB := tbm (k := 1777) (by decide +kernel) (by decide +kernel)
theorem mlX12_353 : Cond.methodLink RX12 353 yX12_rainOf ∈ TB := tbm (k := 1792) (by decide +kernel) (by decide +kernel)
theorem mlX12_356 : Cond.methodLink RX12 356 Lib.Math.max.name ∈ TB := tbm (k := 1837) (by decide +kernel) (by decide +kernel)
theorem mlX12_359 : Cond.methodLink RX12 359 yX12_ownerOf ∈ TB := tbm (k := 1753) (by decide +kernel) (by decide +kernel)
theorem mlX12_362 : Cond.methodLink RX12 362 yX12_worthOf ∈ TB := tbm (k := 1757) (by decide +kernel) (by decide +kernel)
theorem mlX12_365 : Cond.methodLink RX12 365 yX12_harvestOf ∈ TB := tbm (k := 1833) (by decide +kernel) (by decide +kernel)
theorem mlX12_368 : Cond.methodLink RX12 368 yX12_aYear ∈ TB := tbm (k := 1897) (by decide +kernel) (by decide +kernel)
theorem mlX12_371 : Cond.methodLink RX12 371 yX12_isHouse ∈ TB := tbm (k := 1800) (by decide +kernel) (by decide +kernel)
theorem mlX12_374 : Cond.methodLink RX12 374 yX12_placeOf ∈ TB := tbm (k := 1807) (by decide +kernel) (by decide +kernel)
theorem mlX12_377 : Cond.methodLink RX12 377 yX12_envyOf ∈ TB := tbm (k := 1811) (by decide +kernel) (by decide +kernel)
theorem mlX12_380 : Cond.methodLink RX12 380 yX12_isPlot ∈ TB := tbm (k := 1819) (by decide +kernel) (by decide +kernel)
theorem mlX12_387 : Cond.methodLink RX12 387 yX12_pack ∈ TB := tbm (k := 1846) (by decide +kernel) (by decide +kernel)
theorem mlX12_395 : Cond.methodLink RX12 395 yX12_drawOf ∈ TB := tbm (k := 1854) (by decide +kernel) (by decide +kernel)
theorem mlX12_398 : Cond.methodLink RX12 398 yX12_keep ∈ TB := tbm (k := 1842) (by decide +kernel) (by decide +kernel)
theorem mlX12_401 : Cond.methodLink RX12 401 yX12_drawLots ∈ TB := tbm (k := 1850) (by decide +kernel) (by decide +kernel)
theorem mlX12_404 : Cond.methodLink RX12 404 yX12_refuse ∈ TB := tbm (k := 1867) (by decide +kernel) (by decide +kernel)
theorem mlX12_407 : Cond.methodLink RX12 407 yX12_moveTo ∈ TB := tbm (k := 1871) (by decide +kernel) (by decide +kernel)
theorem mlX12_410 : Cond.methodLink RX12 410 yX12_failing ∈ TB := tbm (k := 1879) (by decide +kernel) (by decide +kernel)
theorem mlX12_417 : Cond.methodLink RX12 417 yX12_goOn ∈ TB := tbm (k := 1893) (by decide +kernel) (by decide +kernel)
theorem mlX12_420 : Cond.methodLink RX12 420 yX12_unpack ∈ TB := tbm (k := 1905) (by decide +kernel) (by decide +kernel)
theorem mlX12_423 : Cond.methodLink RX12 423 yX12_isRound ∈ TB := tbm (k := 1913) (by decide +kernel) (by decide +kernel)
theorem mlX12_428 : Cond.methodLink RX12 428 yX12_tellWorths ∈ TB := tbm (k := 1926) (by decide +kernel) (by decide +kernel)
theorem mlX12_431 : Cond.methodLink RX12 431 yX12_bitsOf ∈ TB := tbm (k := 1930) (by decide +kernel) (by decide +kernel)
theorem mlX12_434 : Cond.methodLink RX12 434 yX12_bestBy ∈ TB := tbm (k := 1934) (by decide +kernel) (by decide +kernel)
theorem mlX12_438 : Cond.methodLink RX12 438 Lib.MathLoose.max_long.x ∈ TB := tbm (k := 1938) (by decide +kernel) (by decide +kernel)
theorem mlX12_443 : Cond.methodLink RX12 443 yX12_tellBest ∈ TB := tbm (k := 1922) (by decide +kernel) (by decide +kernel)
theorem mlX12_446 : Cond.methodLink RX12 446 yX12_canAll ∈ TB := tbm (k := 1944) (by decide +kernel) (by decide +kernel)
theorem mlX12_454 : Cond.methodLink RX12 454 yX12_spreadFrom ∈ TB := tbm (k := 1952) (by decide +kernel) (by decide +kernel)
theorem mlX12_457 : Cond.methodLink RX12 457 yX12_walksTo ∈ TB := tbm (k := 1961) (by decide +kernel) (by decide +kernel)
theorem mlX12_464 : Cond.methodLink RX12 464 yX12_strengthBy ∈ TB := tbm (k := 1987) (by decide +kernel) (by decide +kernel)
theorem mlX12_467 : Cond.methodLink RX12 467 yX12_allStored ∈ TB := tbm (k := 1995) (by decide +kernel) (by decide +kernel)
theorem mlX12_470 : Cond.methodLink RX12 470 yX12_ownHarvest ∈ TB := tbm (k := 2019) (by decide +kernel) (by decide +kernel)
theorem mlX12_473 : Cond.methodLink RX12 473 yX12_isAsSeen ∈ TB := tbm (k := 2039) (by decide +kernel) (by decide +kernel)
theorem mlX12_478 : Cond.methodLink RX12 478 yX12_gain ∈ TB := tbm (k := 2055) (by decide +kernel) (by decide +kernel)
theorem mlX12_490 : Cond.methodLink RX12 490 yX12_copyTo ∈ TB := tbm (k := 2069) (by decide +kernel) (by decide +kernel)
theorem coX11_295 : Cond.constant RX11 295 2147483647 ∈ TB := tbm (k := 721) (by decide +kernel) (by decide +kernel)
theorem coX11_304 : Cond.constantLong RX11 304 (-9223372036854775808) ∈ TB := tbm (k := 1347) (by decide +kernel) (by decide +kernel)
theorem coX11_364 : Cond.constantLong RX11 364 5 ∈ TB := tbm (k := 1406) (by decide +kernel) (by decide +kernel)
theorem coX3_136 : Cond.constantLong RX3 136 (-9223372036854775808) ∈ TB := tbm (k := 694) (by decide +kernel) (by decide +kernel)
theorem coX3_142 : Cond.constant RX3 142 1103515245 ∈ TB := tbm (k := 567) (by decide +kernel) (by decide +kernel)
theorem coX4_54 : Cond.constantLong RX4 54 9223372036854775807 ∈ TB := tbm (k := 1228) (by decide +kernel) (by decide +kernel)
theorem coX4_62 : Cond.constantLong RX4 62 (-9223372036854775808) ∈ TB := tbm (k := 1235) (by decide +kernel) (by decide +kernel)
theorem coX12_176 : Cond.constant RX12 176 100000 ∈ TB := tbm (k := 1646) (by decide +kernel) (by decide +kernel)
theorem coX12_383 : Cond.constantLong RX12 383 4 ∈ TB := tbm (k := 1823) (by decide +kernel) (by decide +kernel)
theorem coX12_385 : Cond.constantLong RX12 385 999 ∈ TB := tbm (k := 1832) (by decide +kernel) (by decide +kernel)
theorem coX12_394 : Cond.constant RX12 394 1103515245 ∈ TB := tbm (k := 1858) (by decide +kernel) (by decide +kernel)
theorem coX12_413 : Cond.constantLong RX12 413 20 ∈ TB := tbm (k := 1887) (by decide +kernel) (by decide +kernel)
theorem coX12_415 : Cond.constantLong RX12 415 30 ∈ TB := tbm (k := 1892) (by decide +kernel) (by decide +kernel)
theorem coX12_426 : Cond.constantLong RX12 426 (-1152921504606846976) ∈ TB := tbm (k := 1933) (by decide +kernel) (by decide +kernel)
theorem coX12_441 : Cond.constantLong RX12 441 (-1) ∈ TB := tbm (k := 1921) (by decide +kernel) (by decide +kernel)
theorem coX12_452 : Cond.constant RX12 452 (-2147483648) ∈ TB := tbm (k := 1943) (by decide +kernel) (by decide +kernel)
theorem coX12_453 : Cond.constant RX12 453 2147483647 ∈ TB := tbm (k := 1956) (by decide +kernel) (by decide +kernel)
theorem coX12_460 : Cond.constantLong RX12 460 50 ∈ TB := tbm (k := 1969) (by decide +kernel) (by decide +kernel)
theorem coX12_462 : Cond.constantLong RX12 462 99 ∈ TB := tbm (k := 1986) (by decide +kernel) (by decide +kernel)
theorem coX12_476 : Cond.constantLong RX12 476 5 ∈ TB := tbm (k := 2059) (by decide +kernel) (by decide +kernel)
theorem coX12_482 : Cond.constantLong RX12 482 2 ∈ TB := tbm (k := 2064) (by decide +kernel) (by decide +kernel)
theorem coJ6_265 : Cond.constant RJ6 265 1431655765 ∈ TB := tbm (k := 1232) (by decide +kernel) (by decide +kernel)
theorem coJ6_266 : Cond.constant RJ6 266 858993459 ∈ TB := tbm (k := 1233) (by decide +kernel) (by decide +kernel)
theorem coJ6_267 : Cond.constant RJ6 267 252645135 ∈ TB := tbm (k := 1234) (by decide +kernel) (by decide +kernel)
theorem mt_Math : Cond.initialized "java/lang/Math" ∈ TB := tbm (k := 132) (by decide +kernel) (by decide +kernel)
theorem mt_System : Cond.initialized "java/lang/System" ∈ TB := tbm (k := 139) (by decide +kernel) (by decide +kernel)
theorem ms_max : Cond.static Lib.Math.max.name ∈ TB := tbm (k := 663) (by decide +kernel) (by decide +kernel)
theorem mc_max : Cond.code Lib.Math.max.name Lib.Math.max.code 2 (some .int) ∈ TB := tbm (k := 664) (by decide +kernel) (by decide +kernel)
theorem ms_min : Cond.static Lib.Math.min.name ∈ TB := tbm (k := 660) (by decide +kernel) (by decide +kernel)
theorem mc_min : Cond.code Lib.Math.min.name Lib.Math.min.code 2 (some .int) ∈ TB := tbm (k := 661) (by decide +kernel) (by decide +kernel)
theorem ms_abs : Cond.static Lib.Math.abs.name ∈ TB := tbm (k := 604) (by decide +kernel) (by decide +kernel)
theorem mc_abs : Cond.code Lib.Math.abs.name Lib.Math.abs.code 1 (some .int) ∈ TB := tbm (k := 605) (by decide +kernel) (by decide +kernel)
theorem ms_maxl : Cond.static Lib.MathLoose.max_long.x ∈ TB := tbm (k := 1248) (by decide +kernel) (by decide +kernel)
theorem mc_maxl : Cond.code Lib.MathLoose.max_long.x Lib.MathLoose.max_long.code 4 (some .long) ∈ TB := tbm (k := 1249) (by decide +kernel) (by decide +kernel)
theorem ms_minl : Cond.static Lib.MathLoose.min_long.x ∈ TB := tbm (k := 1245) (by decide +kernel) (by decide +kernel)
theorem mc_minl : Cond.code Lib.MathLoose.min_long.x Lib.MathLoose.min_long.code 4 (some .long) ∈ TB := tbm (k := 1246) (by decide +kernel) (by decide +kernel)
theorem ms_acopy : Cond.static arraycopyName ∈ TB := tbm (k := 766) (by decide +kernel) (by decide +kernel)
theorem mn_acopy : Cond.native arraycopyName ∈ TB := tbm (k := 767) (by decide +kernel) (by decide +kernel)
abbrev miX9_append : MI := (cX9_append, 3, none, yX9_append)
theorem moX9_append : MokV miX9_append 1 := ⟨⟨⟨⟨by decide, by decide, by decide +kernel⟩, by decide⟩, tbm (k := 116) (by decide +kernel) (by decide +kernel), tbm (k := 530) (by decide +kernel) (by decide +kernel)⟩, tbm (k := 528) (by decide +kernel) (by decide +kernel), tbm (k := 529) (by decide +kernel) (by decide +kernel)⟩
abbrev miX11_feed : MI := (cX11_feed, 6, (some .int), yX11_feed)
theorem moX11_feed : MokV miX11_feed 5 := ⟨⟨⟨⟨by decide, by decide, by decide +kernel⟩, by decide⟩, tbm (k := 115) (by decide +kernel) (by decide +kernel), tbm (k := 526) (by decide +kernel) (by decide +kernel)⟩, tbm (k := 524) (by decide +kernel) (by decide +kernel), tbm (k := 525) (by decide +kernel) (by decide +kernel)⟩
abbrev miX1_clear : MI := (cX1_clear, 1, none, yX1_clear)
theorem moX1_clear : MokV miX1_clear 0 := ⟨⟨⟨⟨by decide, by decide, by decide +kernel⟩, by decide⟩, tbm (k := 124) (by decide +kernel) (by decide +kernel), tbm (k := 1102) (by decide +kernel) (by decide +kernel)⟩, tbm (k := 1100) (by decide +kernel) (by decide +kernel), tbm (k := 1101) (by decide +kernel) (by decide +kernel)⟩
abbrev miX8_beginYears : MI := (cX8_beginYears, 2, none, yX8_beginYears)
theorem moX8_beginYears : MokV miX8_beginYears 0 := ⟨⟨⟨⟨by decide, by decide, by decide +kernel⟩, by decide⟩, tbm (k := 123) (by decide +kernel) (by decide +kernel), tbm (k := 1098) (by decide +kernel) (by decide +kernel)⟩, tbm (k := 1096) (by decide +kernel) (by decide +kernel), tbm (k := 1097) (by decide +kernel) (by decide +kernel)⟩
abbrev miX8_begin : MI := (cX8_begin, 3, none, yX8_begin)
theorem moX8_begin : MokV miX8_begin 1 := ⟨⟨⟨⟨by decide, by decide, by decide +kernel⟩, by decide⟩, tbm (k := 123) (by decide +kernel) (by decide +kernel), tbm (k := 1094) (by decide +kernel) (by decide +kernel)⟩, tbm (k := 1092) (by decide +kernel) (by decide +kernel), tbm (k := 1093) (by decide +kernel) (by decide +kernel)⟩
abbrev miX0_begin : MI := (cX0_begin, 2, none, yX0_begin)
theorem moX0_begin : MokV miX0_begin 1 := ⟨⟨⟨⟨by decide, by decide, by decide +kernel⟩, by decide⟩, tbm (k := 122) (by decide +kernel) (by decide +kernel), tbm (k := 1090) (by decide +kernel) (by decide +kernel)⟩, tbm (k := 1088) (by decide +kernel) (by decide +kernel), tbm (k := 1089) (by decide +kernel) (by decide +kernel)⟩
abbrev miX3_allPlots : MI := (cX3_allPlots, 1, (some .int), yX3_allPlots)
theorem moX3_allPlots : MokV miX3_allPlots 0 := ⟨⟨⟨⟨by decide, by decide, by decide +kernel⟩, by decide⟩, tbm (k := 121) (by decide +kernel) (by decide +kernel), tbm (k := 546) (by decide +kernel) (by decide +kernel)⟩, tbm (k := 545) (by decide +kernel) (by decide +kernel), tbm (k := 0) (by decide +kernel) (by decide +kernel)⟩
abbrev miX2_hasHouse : MI := (cX2_hasHouse, 2, (some .boolean), yX2_hasHouse)
theorem moX2_hasHouse : MokV miX2_hasHouse 1 := ⟨⟨⟨⟨by decide, by decide, by decide +kernel⟩, by decide⟩, tbm (k := 117) (by decide +kernel) (by decide +kernel), tbm (k := 595) (by decide +kernel) (by decide +kernel)⟩, tbm (k := 593) (by decide +kernel) (by decide +kernel), tbm (k := 594) (by decide +kernel) (by decide +kernel)⟩
abbrev miX2_hasPlot : MI := (cX2_hasPlot, 2, (some .boolean), yX2_hasPlot)
theorem moX2_hasPlot : MokV miX2_hasPlot 1 := ⟨⟨⟨⟨by decide, by decide, by decide +kernel⟩, by decide⟩, tbm (k := 117) (by decide +kernel) (by decide +kernel), tbm (k := 599) (by decide +kernel) (by decide +kernel)⟩, tbm (k := 597) (by decide +kernel) (by decide +kernel), tbm (k := 598) (by decide +kernel) (by decide +kernel)⟩
abbrev miX3_walk : MI := (cX3_walk, 4, (some .int), yX3_walk)
theorem moX3_walk : MokS miX3_walk 4 := ⟨⟨⟨⟨by decide, by decide, by decide +kernel⟩, by decide⟩, tbm (k := 121) (by decide +kernel) (by decide +kernel), tbm (k := 602) (by decide +kernel) (by decide +kernel)⟩, tbm (k := 601) (by decide +kernel) (by decide +kernel)⟩
abbrev miX3_tellValues : MI := (cX3_tellValues, 5, none, yX3_tellValues)
theorem moX3_tellValues : MokV miX3_tellValues 4 := ⟨⟨⟨⟨by decide, by decide, by decide +kernel⟩, by decide⟩, tbm (k := 121) (by decide +kernel) (by decide +kernel), tbm (k := 591) (by decide +kernel) (by decide +kernel)⟩, tbm (k := 590) (by decide +kernel) (by decide +kernel), tbm (k := 3) (by decide +kernel) (by decide +kernel)⟩
abbrev miX6_isTold : MI := (cX6_isTold, 1, (some .boolean), yX6_isTold)
theorem moX6_isTold : MokV miX6_isTold 0 := ⟨⟨⟨⟨by decide, by decide, by decide +kernel⟩, by decide⟩, tbm (k := 118) (by decide +kernel) (by decide +kernel), tbm (k := 609) (by decide +kernel) (by decide +kernel)⟩, tbm (k := 607) (by decide +kernel) (by decide +kernel), tbm (k := 608) (by decide +kernel) (by decide +kernel)⟩
abbrev miX6_join : MI := (cX6_join, 3, (some .int), yX6_join)
theorem moX6_join : MokS miX6_join 3 := ⟨⟨⟨⟨by decide, by decide, by decide +kernel⟩, by decide⟩, tbm (k := 118) (by decide +kernel) (by decide +kernel), tbm (k := 619) (by decide +kernel) (by decide +kernel)⟩, tbm (k := 618) (by decide +kernel) (by decide +kernel)⟩
abbrev miX6_valueOf : MI := (cX6_valueOf, 2, (some .int), yX6_valueOf)
theorem moX6_valueOf : MokS miX6_valueOf 2 := ⟨⟨⟨⟨by decide, by decide, by decide +kernel⟩, by decide⟩, tbm (k := 118) (by decide +kernel) (by decide +kernel), tbm (k := 616) (by decide +kernel) (by decide +kernel)⟩, tbm (k := 615) (by decide +kernel) (by decide +kernel)⟩
abbrev miX6_reckon : MI := (cX6_reckon, 5, (some .int), yX6_reckon)
theorem moX6_reckon : MokV miX6_reckon 1 := ⟨⟨⟨⟨by decide, by decide, by decide +kernel⟩, by decide⟩, tbm (k := 118) (by decide +kernel) (by decide +kernel), tbm (k := 613) (by decide +kernel) (by decide +kernel)⟩, tbm (k := 611) (by decide +kernel) (by decide +kernel), tbm (k := 612) (by decide +kernel) (by decide +kernel)⟩
abbrev miX8_lotOf : MI := (cX8_lotOf, 2, (some .int), yX8_lotOf)
theorem moX8_lotOf : MokV miX8_lotOf 1 := ⟨⟨⟨⟨by decide, by decide, by decide +kernel⟩, by decide⟩, tbm (k := 123) (by decide +kernel) (by decide +kernel), tbm (k := 587) (by decide +kernel) (by decide +kernel)⟩, tbm (k := 585) (by decide +kernel) (by decide +kernel), tbm (k := 586) (by decide +kernel) (by decide +kernel)⟩
abbrev miX3_worthOf : MI := (cX3_worthOf, 4, (some .int), yX3_worthOf)
theorem moX3_worthOf : MokV miX3_worthOf 3 := ⟨⟨⟨⟨by decide, by decide, by decide +kernel⟩, by decide⟩, tbm (k := 121) (by decide +kernel) (by decide +kernel), tbm (k := 583) (by decide +kernel) (by decide +kernel)⟩, tbm (k := 581) (by decide +kernel) (by decide +kernel), tbm (k := 582) (by decide +kernel) (by decide +kernel)⟩
abbrev miX3_dearest : MI := (cX3_dearest, 8, (some .int), yX3_dearest)
theorem moX3_dearest : MokV miX3_dearest 3 := ⟨⟨⟨⟨by decide, by decide, by decide +kernel⟩, by decide⟩, tbm (k := 121) (by decide +kernel) (by decide +kernel), tbm (k := 579) (by decide +kernel) (by decide +kernel)⟩, tbm (k := 578) (by decide +kernel) (by decide +kernel), tbm (k := 2) (by decide +kernel) (by decide +kernel)⟩
abbrev miX8_houseAt : MI := (cX8_houseAt, 3, (some .int), yX8_houseAt)
theorem moX8_houseAt : MokV miX8_houseAt 1 := ⟨⟨⟨⟨by decide, by decide, by decide +kernel⟩, by decide⟩, tbm (k := 123) (by decide +kernel) (by decide +kernel), tbm (k := 575) (by decide +kernel) (by decide +kernel)⟩, tbm (k := 573) (by decide +kernel) (by decide +kernel), tbm (k := 574) (by decide +kernel) (by decide +kernel)⟩
abbrev miX3_takeShares : MI := (cX3_takeShares, 6, none, yX3_takeShares)
theorem moX3_takeShares : MokV miX3_takeShares 2 := ⟨⟨⟨⟨by decide, by decide, by decide +kernel⟩, by decide⟩, tbm (k := 121) (by decide +kernel) (by decide +kernel), tbm (k := 571) (by decide +kernel) (by decide +kernel)⟩, tbm (k := 569) (by decide +kernel) (by decide +kernel), tbm (k := 570) (by decide +kernel) (by decide +kernel)⟩
abbrev miX6_clear : MI := (cX6_clear, 1, none, yX6_clear)
theorem moX6_clear : MokV miX6_clear 0 := ⟨⟨⟨⟨by decide, by decide, by decide +kernel⟩, by decide⟩, tbm (k := 118) (by decide +kernel) (by decide +kernel), tbm (k := 857) (by decide +kernel) (by decide +kernel)⟩, tbm (k := 855) (by decide +kernel) (by decide +kernel), tbm (k := 856) (by decide +kernel) (by decide +kernel)⟩
abbrev miX2_clear : MI := (cX2_clear, 1, none, yX2_clear)
theorem moX2_clear : MokV miX2_clear 0 := ⟨⟨⟨⟨by decide, by decide, by decide +kernel⟩, by decide⟩, tbm (k := 117) (by decide +kernel) (by decide +kernel), tbm (k := 853) (by decide +kernel) (by decide +kernel)⟩, tbm (k := 851) (by decide +kernel) (by decide +kernel), tbm (k := 852) (by decide +kernel) (by decide +kernel)⟩
abbrev miX10_symbolAt : MI := (cX10_symbolAt, 2, (some .int), yX10_symbolAt)
theorem moX10_symbolAt : MokV miX10_symbolAt 1 := ⟨⟨⟨⟨by decide, by decide, by decide +kernel⟩, by decide⟩, tbm (k := 120) (by decide +kernel) (by decide +kernel), tbm (k := 969) (by decide +kernel) (by decide +kernel)⟩, tbm (k := 967) (by decide +kernel) (by decide +kernel), tbm (k := 968) (by decide +kernel) (by decide +kernel)⟩
abbrev miX5_advance : MI := (cX5_advance, 1, none, yX5_advance)
theorem moX5_advance : MokV miX5_advance 0 := ⟨⟨⟨⟨by decide, by decide, by decide +kernel⟩, by decide⟩, tbm (k := 119) (by decide +kernel) (by decide +kernel), tbm (k := 985) (by decide +kernel) (by decide +kernel)⟩, tbm (k := 984) (by decide +kernel) (by decide +kernel), tbm (k := 24) (by decide +kernel) (by decide +kernel)⟩
abbrev miX5_isNumber : MI := (cX5_isNumber, 1, (some .boolean), yX5_isNumber)
theorem moX5_isNumber : MokV miX5_isNumber 0 := ⟨⟨⟨⟨by decide, by decide, by decide +kernel⟩, by decide⟩, tbm (k := 119) (by decide +kernel) (by decide +kernel), tbm (k := 1001) (by decide +kernel) (by decide +kernel)⟩, tbm (k := 1000) (by decide +kernel) (by decide +kernel), tbm (k := 27) (by decide +kernel) (by decide +kernel)⟩
abbrev miX5_refuseAs : MI := (cX5_refuseAs, 2, none, yX5_refuseAs)
theorem moX5_refuseAs : MokV miX5_refuseAs 1 := ⟨⟨⟨⟨by decide, by decide, by decide +kernel⟩, by decide⟩, tbm (k := 119) (by decide +kernel) (by decide +kernel), tbm (k := 981) (by decide +kernel) (by decide +kernel)⟩, tbm (k := 980) (by decide +kernel) (by decide +kernel), tbm (k := 23) (by decide +kernel) (by decide +kernel)⟩
abbrev miX10_numberAt : MI := (cX10_numberAt, 2, (some .int), yX10_numberAt)
theorem moX10_numberAt : MokV miX10_numberAt 1 := ⟨⟨⟨⟨by decide, by decide, by decide +kernel⟩, by decide⟩, tbm (k := 120) (by decide +kernel) (by decide +kernel), tbm (k := 997) (by decide +kernel) (by decide +kernel)⟩, tbm (k := 995) (by decide +kernel) (by decide +kernel), tbm (k := 996) (by decide +kernel) (by decide +kernel)⟩
abbrev miX5_peekNumber : MI := (cX5_peekNumber, 3, (some .int), yX5_peekNumber)
theorem moX5_peekNumber : MokV miX5_peekNumber 1 := ⟨⟨⟨⟨by decide, by decide, by decide +kernel⟩, by decide⟩, tbm (k := 119) (by decide +kernel) (by decide +kernel), tbm (k := 993) (by decide +kernel) (by decide +kernel)⟩, tbm (k := 992) (by decide +kernel) (by decide +kernel), tbm (k := 26) (by decide +kernel) (by decide +kernel)⟩
abbrev miX5_readNumber : MI := (cX5_readNumber, 3, (some .int), yX5_readNumber)
theorem moX5_readNumber : MokV miX5_readNumber 1 := ⟨⟨⟨⟨by decide, by decide, by decide +kernel⟩, by decide⟩, tbm (k := 119) (by decide +kernel) (by decide +kernel), tbm (k := 989) (by decide +kernel) (by decide +kernel)⟩, tbm (k := 988) (by decide +kernel) (by decide +kernel), tbm (k := 25) (by decide +kernel) (by decide +kernel)⟩
abbrev miX5_readEats : MI := (cX5_readEats, 1, none, yX5_readEats)
theorem moX5_readEats : MokV miX5_readEats 0 := ⟨⟨⟨⟨by decide, by decide, by decide +kernel⟩, by decide⟩, tbm (k := 119) (by decide +kernel) (by decide +kernel), tbm (k := 1033) (by decide +kernel) (by decide +kernel)⟩, tbm (k := 1032) (by decide +kernel) (by decide +kernel), tbm (k := 31) (by decide +kernel) (by decide +kernel)⟩
abbrev miX2_addHouse : MI := (cX2_addHouse, 4, none, yX2_addHouse)
theorem moX2_addHouse : MokV miX2_addHouse 3 := ⟨⟨⟨⟨by decide, by decide, by decide +kernel⟩, by decide⟩, tbm (k := 117) (by decide +kernel) (by decide +kernel), tbm (k := 1005) (by decide +kernel) (by decide +kernel)⟩, tbm (k := 1003) (by decide +kernel) (by decide +kernel), tbm (k := 1004) (by decide +kernel) (by decide +kernel)⟩
abbrev miX5_readHouse : MI := (cX5_readHouse, 4, none, yX5_readHouse)
theorem moX5_readHouse : MokV miX5_readHouse 0 := ⟨⟨⟨⟨by decide, by decide, by decide +kernel⟩, by decide⟩, tbm (k := 119) (by decide +kernel) (by decide +kernel), tbm (k := 977) (by decide +kernel) (by decide +kernel)⟩, tbm (k := 976) (by decide +kernel) (by decide +kernel), tbm (k := 22) (by decide +kernel) (by decide +kernel)⟩
abbrev miX5_readMarket : MI := (cX5_readMarket, 1, none, yX5_readMarket)
theorem moX5_readMarket : MokV miX5_readMarket 0 := ⟨⟨⟨⟨by decide, by decide, by decide +kernel⟩, by decide⟩, tbm (k := 119) (by decide +kernel) (by decide +kernel), tbm (k := 1021) (by decide +kernel) (by decide +kernel)⟩, tbm (k := 1020) (by decide +kernel) (by decide +kernel), tbm (k := 29) (by decide +kernel) (by decide +kernel)⟩
abbrev miX2_addPlot : MI := (cX2_addPlot, 4, none, yX2_addPlot)
theorem moX2_addPlot : MokV miX2_addPlot 3 := ⟨⟨⟨⟨by decide, by decide, by decide +kernel⟩, by decide⟩, tbm (k := 117) (by decide +kernel) (by decide +kernel), tbm (k := 1017) (by decide +kernel) (by decide +kernel)⟩, tbm (k := 1015) (by decide +kernel) (by decide +kernel), tbm (k := 1016) (by decide +kernel) (by decide +kernel)⟩
abbrev miX2_hasPlotAt : MI := (cX2_hasPlotAt, 4, (some .boolean), yX2_hasPlotAt)
theorem moX2_hasPlotAt : MokV miX2_hasPlotAt 2 := ⟨⟨⟨⟨by decide, by decide, by decide +kernel⟩, by decide⟩, tbm (k := 117) (by decide +kernel) (by decide +kernel), tbm (k := 1013) (by decide +kernel) (by decide +kernel)⟩, tbm (k := 1011) (by decide +kernel) (by decide +kernel), tbm (k := 1012) (by decide +kernel) (by decide +kernel)⟩
abbrev miX5_readPlot : MI := (cX5_readPlot, 4, none, yX5_readPlot)
theorem moX5_readPlot : MokV miX5_readPlot 0 := ⟨⟨⟨⟨by decide, by decide, by decide +kernel⟩, by decide⟩, tbm (k := 119) (by decide +kernel) (by decide +kernel), tbm (k := 1009) (by decide +kernel) (by decide +kernel)⟩, tbm (k := 1008) (by decide +kernel) (by decide +kernel), tbm (k := 28) (by decide +kernel) (by decide +kernel)⟩
abbrev miX2_addRain : MI := (cX2_addRain, 2, none, yX2_addRain)
theorem moX2_addRain : MokV miX2_addRain 1 := ⟨⟨⟨⟨by decide, by decide, by decide +kernel⟩, by decide⟩, tbm (k := 117) (by decide +kernel) (by decide +kernel), tbm (k := 1029) (by decide +kernel) (by decide +kernel)⟩, tbm (k := 1027) (by decide +kernel) (by decide +kernel), tbm (k := 1028) (by decide +kernel) (by decide +kernel)⟩
abbrev miX5_readRain : MI := (cX5_readRain, 2, none, yX5_readRain)
theorem moX5_readRain : MokV miX5_readRain 0 := ⟨⟨⟨⟨by decide, by decide, by decide +kernel⟩, by decide⟩, tbm (k := 119) (by decide +kernel) (by decide +kernel), tbm (k := 1025) (by decide +kernel) (by decide +kernel)⟩, tbm (k := 1024) (by decide +kernel) (by decide +kernel), tbm (k := 30) (by decide +kernel) (by decide +kernel)⟩
abbrev miX5_mayBeginExpr : MI := (cX5_mayBeginExpr, 1, (some .boolean), yX5_mayBeginExpr)
theorem moX5_mayBeginExpr : MokV miX5_mayBeginExpr 0 := ⟨⟨⟨⟨by decide, by decide, by decide +kernel⟩, by decide⟩, tbm (k := 119) (by decide +kernel) (by decide +kernel), tbm (k := 1046) (by decide +kernel) (by decide +kernel)⟩, tbm (k := 1045) (by decide +kernel) (by decide +kernel), tbm (k := 34) (by decide +kernel) (by decide +kernel)⟩
abbrev miX5_readSign : MI := (cX5_readSign, 2, none, yX5_readSign)
theorem moX5_readSign : MokV miX5_readSign 1 := ⟨⟨⟨⟨by decide, by decide, by decide +kernel⟩, by decide⟩, tbm (k := 119) (by decide +kernel) (by decide +kernel), tbm (k := 1082) (by decide +kernel) (by decide +kernel)⟩, tbm (k := 1081) (by decide +kernel) (by decide +kernel), tbm (k := 42) (by decide +kernel) (by decide +kernel)⟩
abbrev miX6_add : MI := (cX6_add, 2, none, yX6_add)
theorem moX6_add : MokV miX6_add 1 := ⟨⟨⟨⟨by decide, by decide, by decide +kernel⟩, by decide⟩, tbm (k := 118) (by decide +kernel) (by decide +kernel), tbm (k := 1074) (by decide +kernel) (by decide +kernel)⟩, tbm (k := 1072) (by decide +kernel) (by decide +kernel), tbm (k := 1073) (by decide +kernel) (by decide +kernel)⟩
abbrev miX5_readValue : MI := (cX5_readValue, 2, none, yX5_readValue)
theorem moX5_readValue : MokV miX5_readValue 1 := ⟨⟨⟨⟨by decide, by decide, by decide +kernel⟩, by decide⟩, tbm (k := 119) (by decide +kernel) (by decide +kernel), tbm (k := 1078) (by decide +kernel) (by decide +kernel)⟩, tbm (k := 1077) (by decide +kernel) (by decide +kernel), tbm (k := 41) (by decide +kernel) (by decide +kernel)⟩
abbrev miX5_readPart : MI := (cX5_readPart, 2, none, yX5_readPart)
theorem moX5_readPart : MokV miX5_readPart 1 := ⟨⟨⟨⟨by decide, by decide, by decide +kernel⟩, by decide⟩, tbm (k := 119) (by decide +kernel) (by decide +kernel), tbm (k := 1070) (by decide +kernel) (by decide +kernel)⟩, tbm (k := 1069) (by decide +kernel) (by decide +kernel), tbm (k := 40) (by decide +kernel) (by decide +kernel)⟩
abbrev miX5_readProduct : MI := (cX5_readProduct, 4, none, yX5_readProduct)
theorem moX5_readProduct : MokV miX5_readProduct 1 := ⟨⟨⟨⟨by decide, by decide, by decide +kernel⟩, by decide⟩, tbm (k := 119) (by decide +kernel) (by decide +kernel), tbm (k := 1066) (by decide +kernel) (by decide +kernel)⟩, tbm (k := 1065) (by decide +kernel) (by decide +kernel), tbm (k := 39) (by decide +kernel) (by decide +kernel)⟩
abbrev miX5_readSum : MI := (cX5_readSum, 4, none, yX5_readSum)
theorem moX5_readSum : MokV miX5_readSum 1 := ⟨⟨⟨⟨by decide, by decide, by decide +kernel⟩, by decide⟩, tbm (k := 119) (by decide +kernel) (by decide +kernel), tbm (k := 1062) (by decide +kernel) (by decide +kernel)⟩, tbm (k := 1061) (by decide +kernel) (by decide +kernel), tbm (k := 38) (by decide +kernel) (by decide +kernel)⟩
abbrev miX5_readTest : MI := (cX5_readTest, 3, none, yX5_readTest)
theorem moX5_readTest : MokV miX5_readTest 1 := ⟨⟨⟨⟨by decide, by decide, by decide +kernel⟩, by decide⟩, tbm (k := 119) (by decide +kernel) (by decide +kernel), tbm (k := 1058) (by decide +kernel) (by decide +kernel)⟩, tbm (k := 1057) (by decide +kernel) (by decide +kernel), tbm (k := 37) (by decide +kernel) (by decide +kernel)⟩
abbrev miX5_readNot : MI := (cX5_readNot, 4, none, yX5_readNot)
theorem moX5_readNot : MokV miX5_readNot 1 := ⟨⟨⟨⟨by decide, by decide, by decide +kernel⟩, by decide⟩, tbm (k := 119) (by decide +kernel) (by decide +kernel), tbm (k := 1054) (by decide +kernel) (by decide +kernel)⟩, tbm (k := 1053) (by decide +kernel) (by decide +kernel), tbm (k := 36) (by decide +kernel) (by decide +kernel)⟩
abbrev miX5_readAnd : MI := (cX5_readAnd, 3, none, yX5_readAnd)
theorem moX5_readAnd : MokV miX5_readAnd 1 := ⟨⟨⟨⟨by decide, by decide, by decide +kernel⟩, by decide⟩, tbm (k := 119) (by decide +kernel) (by decide +kernel), tbm (k := 1050) (by decide +kernel) (by decide +kernel)⟩, tbm (k := 1049) (by decide +kernel) (by decide +kernel), tbm (k := 35) (by decide +kernel) (by decide +kernel)⟩
abbrev miX5_readExpr : MI := (cX5_readExpr, 3, none, yX5_readExpr)
theorem moX5_readExpr : MokV miX5_readExpr 1 := ⟨⟨⟨⟨by decide, by decide, by decide +kernel⟩, by decide⟩, tbm (k := 119) (by decide +kernel) (by decide +kernel), tbm (k := 1042) (by decide +kernel) (by decide +kernel)⟩, tbm (k := 1041) (by decide +kernel) (by decide +kernel), tbm (k := 33) (by decide +kernel) (by decide +kernel)⟩
abbrev miX5_readRule : MI := (cX5_readRule, 3, none, yX5_readRule)
theorem moX5_readRule : MokV miX5_readRule 2 := ⟨⟨⟨⟨by decide, by decide, by decide +kernel⟩, by decide⟩, tbm (k := 119) (by decide +kernel) (by decide +kernel), tbm (k := 1037) (by decide +kernel) (by decide +kernel)⟩, tbm (k := 1036) (by decide +kernel) (by decide +kernel), tbm (k := 32) (by decide +kernel) (by decide +kernel)⟩
abbrev miX5_readLine : MI := (cX5_readLine, 1, none, yX5_readLine)
theorem moX5_readLine : MokV miX5_readLine 0 := ⟨⟨⟨⟨by decide, by decide, by decide +kernel⟩, by decide⟩, tbm (k := 119) (by decide +kernel) (by decide +kernel), tbm (k := 973) (by decide +kernel) (by decide +kernel)⟩, tbm (k := 972) (by decide +kernel) (by decide +kernel), tbm (k := 21) (by decide +kernel) (by decide +kernel)⟩
abbrev miX10_isDigit : MI := (cX10_isDigit, 2, (some .boolean), yX10_isDigit)
theorem moX10_isDigit : MokV miX10_isDigit 1 := ⟨⟨⟨⟨by decide, by decide, by decide +kernel⟩, by decide⟩, tbm (k := 120) (by decide +kernel) (by decide +kernel), tbm (k := 958) (by decide +kernel) (by decide +kernel)⟩, tbm (k := 957) (by decide +kernel) (by decide +kernel), tbm (k := 19) (by decide +kernel) (by decide +kernel)⟩
abbrev miX10_cutNumber : MI := (cX10_cutNumber, 3, none, yX10_cutNumber)
theorem moX10_cutNumber : MokV miX10_cutNumber 0 := ⟨⟨⟨⟨by decide, by decide, by decide +kernel⟩, by decide⟩, tbm (k := 120) (by decide +kernel) (by decide +kernel), tbm (k := 962) (by decide +kernel) (by decide +kernel)⟩, tbm (k := 961) (by decide +kernel) (by decide +kernel), tbm (k := 20) (by decide +kernel) (by decide +kernel)⟩
abbrev miX10_isLetter : MI := (cX10_isLetter, 2, (some .boolean), yX10_isLetter)
theorem moX10_isLetter : MokV miX10_isLetter 1 := ⟨⟨⟨⟨by decide, by decide, by decide +kernel⟩, by decide⟩, tbm (k := 120) (by decide +kernel) (by decide +kernel), tbm (k := 874) (by decide +kernel) (by decide +kernel)⟩, tbm (k := 873) (by decide +kernel) (by decide +kernel), tbm (k := 14) (by decide +kernel) (by decide +kernel)⟩
abbrev miX10_spells : MI := (cX10_spells, 5, (some .boolean), yX10_spells)
theorem moX10_spells : MokV miX10_spells 3 := ⟨⟨⟨⟨by decide, by decide, by decide +kernel⟩, by decide⟩, tbm (k := 120) (by decide +kernel) (by decide +kernel), tbm (k := 887) (by decide +kernel) (by decide +kernel)⟩, tbm (k := 886) (by decide +kernel) (by decide +kernel), tbm (k := 17) (by decide +kernel) (by decide +kernel)⟩
abbrev miX10_keywordOf : MI := (cX10_keywordOf, 3, (some .int), yX10_keywordOf)
theorem moX10_keywordOf : MokV miX10_keywordOf 2 := ⟨⟨⟨⟨by decide, by decide, by decide +kernel⟩, by decide⟩, tbm (k := 120) (by decide +kernel) (by decide +kernel), tbm (k := 882) (by decide +kernel) (by decide +kernel)⟩, tbm (k := 881) (by decide +kernel) (by decide +kernel), tbm (k := 16) (by decide +kernel) (by decide +kernel)⟩
abbrev miX10_valueOf : MI := (cX10_valueOf, 3, (some .int), yX10_valueOf)
theorem moX10_valueOf : MokV miX10_valueOf 2 := ⟨⟨⟨⟨by decide, by decide, by decide +kernel⟩, by decide⟩, tbm (k := 120) (by decide +kernel) (by decide +kernel), tbm (k := 947) (by decide +kernel) (by decide +kernel)⟩, tbm (k := 946) (by decide +kernel) (by decide +kernel), tbm (k := 18) (by decide +kernel) (by decide +kernel)⟩
abbrev miX10_cutWord : MI := (cX10_cutWord, 3, none, yX10_cutWord)
theorem moX10_cutWord : MokV miX10_cutWord 0 := ⟨⟨⟨⟨by decide, by decide, by decide +kernel⟩, by decide⟩, tbm (k := 120) (by decide +kernel) (by decide +kernel), tbm (k := 878) (by decide +kernel) (by decide +kernel)⟩, tbm (k := 877) (by decide +kernel) (by decide +kernel), tbm (k := 15) (by decide +kernel) (by decide +kernel)⟩
abbrev miX10_signOf : MI := (cX10_signOf, 1, (some .int), yX10_signOf)
theorem moX10_signOf : MokS miX10_signOf 1 := ⟨⟨⟨⟨by decide, by decide, by decide +kernel⟩, by decide⟩, tbm (k := 120) (by decide +kernel) (by decide +kernel), tbm (k := 965) (by decide +kernel) (by decide +kernel)⟩, tbm (k := 964) (by decide +kernel) (by decide +kernel)⟩
abbrev miX10_cutOne : MI := (cX10_cutOne, 1, none, yX10_cutOne)
theorem moX10_cutOne : MokV miX10_cutOne 0 := ⟨⟨⟨⟨by decide, by decide, by decide +kernel⟩, by decide⟩, tbm (k := 120) (by decide +kernel) (by decide +kernel), tbm (k := 870) (by decide +kernel) (by decide +kernel)⟩, tbm (k := 869) (by decide +kernel) (by decide +kernel), tbm (k := 13) (by decide +kernel) (by decide +kernel)⟩
abbrev miX10_skipBlanks : MI := (cX10_skipBlanks, 1, none, yX10_skipBlanks)
theorem moX10_skipBlanks : MokV miX10_skipBlanks 0 := ⟨⟨⟨⟨by decide, by decide, by decide +kernel⟩, by decide⟩, tbm (k := 120) (by decide +kernel) (by decide +kernel), tbm (k := 866) (by decide +kernel) (by decide +kernel)⟩, tbm (k := 865) (by decide +kernel) (by decide +kernel), tbm (k := 12) (by decide +kernel) (by decide +kernel)⟩
abbrev miX10_cut : MI := (cX10_cut, 2, none, yX10_cut)
theorem moX10_cut : MokV miX10_cut 1 := ⟨⟨⟨⟨by decide, by decide, by decide +kernel⟩, by decide⟩, tbm (k := 120) (by decide +kernel) (by decide +kernel), tbm (k := 861) (by decide +kernel) (by decide +kernel)⟩, tbm (k := 859) (by decide +kernel) (by decide +kernel), tbm (k := 860) (by decide +kernel) (by decide +kernel)⟩
abbrev miX10_startAt : MI := (cX10_startAt, 2, (some .int), yX10_startAt)
theorem moX10_startAt : MokV miX10_startAt 1 := ⟨⟨⟨⟨by decide, by decide, by decide +kernel⟩, by decide⟩, tbm (k := 120) (by decide +kernel) (by decide +kernel), tbm (k := 1086) (by decide +kernel) (by decide +kernel)⟩, tbm (k := 1084) (by decide +kernel) (by decide +kernel), tbm (k := 1085) (by decide +kernel) (by decide +kernel)⟩
abbrev miX5_read : MI := (cX5_read, 4, (some .int), yX5_read)
theorem moX5_read : MokV miX5_read 2 := ⟨⟨⟨⟨by decide, by decide, by decide +kernel⟩, by decide⟩, tbm (k := 119) (by decide +kernel) (by decide +kernel), tbm (k := 849) (by decide +kernel) (by decide +kernel)⟩, tbm (k := 847) (by decide +kernel) (by decide +kernel), tbm (k := 848) (by decide +kernel) (by decide +kernel)⟩
abbrev miX11_island : MI := (cX11_island, 4, (some .int), yX11_island)
theorem moX11_island : MokV miX11_island 1 := ⟨⟨⟨⟨by decide, by decide, by decide +kernel⟩, by decide⟩, tbm (k := 115) (by decide +kernel) (by decide +kernel), tbm (k := 783) (by decide +kernel) (by decide +kernel)⟩, tbm (k := 781) (by decide +kernel) (by decide +kernel), tbm (k := 782) (by decide +kernel) (by decide +kernel)⟩
abbrev miX11_fault : MI := (cX11_fault, 1, (some .int), yX11_fault)
theorem moX11_fault : MokV miX11_fault 0 := ⟨⟨⟨⟨by decide, by decide, by decide +kernel⟩, by decide⟩, tbm (k := 115) (by decide +kernel) (by decide +kernel), tbm (k := 534) (by decide +kernel) (by decide +kernel)⟩, tbm (k := 532) (by decide +kernel) (by decide +kernel), tbm (k := 533) (by decide +kernel) (by decide +kernel)⟩
abbrev miX11_marketPlace : MI := (cX11_marketPlace, 1, (some .int), yX11_marketPlace)
theorem moX11_marketPlace : MokV miX11_marketPlace 0 := ⟨⟨⟨⟨by decide, by decide, by decide +kernel⟩, by decide⟩, tbm (k := 115) (by decide +kernel) (by decide +kernel), tbm (k := 631) (by decide +kernel) (by decide +kernel)⟩, tbm (k := 630) (by decide +kernel) (by decide +kernel), tbm (k := 5) (by decide +kernel) (by decide +kernel)⟩
abbrev miJ9_floorMod_7cf53 : MI := (cJ9_floorMod_7cf53, 3, (some .int), yJ9_floorMod_7cf53)
theorem moJ9_floorMod_7cf53 : MokS miJ9_floorMod_7cf53 2 := ⟨⟨⟨⟨by decide, by decide, by decide +kernel⟩, by decide⟩, tbm (k := 132) (by decide +kernel) (by decide +kernel), tbm (k := 658) (by decide +kernel) (by decide +kernel)⟩, tbm (k := 657) (by decide +kernel) (by decide +kernel)⟩
abbrev miX2_rainIn : MI := (cX2_rainIn, 2, (some .int), yX2_rainIn)
theorem moX2_rainIn : MokV miX2_rainIn 1 := ⟨⟨⟨⟨by decide, by decide, by decide +kernel⟩, by decide⟩, tbm (k := 117) (by decide +kernel) (by decide +kernel), tbm (k := 655) (by decide +kernel) (by decide +kernel)⟩, tbm (k := 653) (by decide +kernel) (by decide +kernel), tbm (k := 654) (by decide +kernel) (by decide +kernel)⟩
abbrev miX11_count : MI := (cX11_count, 3, (some .int), yX11_count)
theorem moX11_count : MokV miX11_count 1 := ⟨⟨⟨⟨by decide, by decide, by decide +kernel⟩, by decide⟩, tbm (k := 115) (by decide +kernel) (by decide +kernel), tbm (k := 1110) (by decide +kernel) (by decide +kernel)⟩, tbm (k := 1108) (by decide +kernel) (by decide +kernel), tbm (k := 1109) (by decide +kernel) (by decide +kernel)⟩
abbrev miX11_needHouse : MI := (cX11_needHouse, 2, none, yX11_needHouse)
theorem moX11_needHouse : MokV miX11_needHouse 1 := ⟨⟨⟨⟨by decide, by decide, by decide +kernel⟩, by decide⟩, tbm (k := 115) (by decide +kernel) (by decide +kernel), tbm (k := 1137) (by decide +kernel) (by decide +kernel)⟩, tbm (k := 1136) (by decide +kernel) (by decide +kernel), tbm (k := 43) (by decide +kernel) (by decide +kernel)⟩
abbrev miX3_worthOfShare : MI := (cX3_worthOfShare, 5, (some .long), yX3_worthOfShare)
theorem moX3_worthOfShare : MokV miX3_worthOfShare 3 := ⟨⟨⟨⟨by decide, by decide, by decide +kernel⟩, by decide⟩, tbm (k := 121) (by decide +kernel) (by decide +kernel), tbm (k := 698) (by decide +kernel) (by decide +kernel)⟩, tbm (k := 696) (by decide +kernel) (by decide +kernel), tbm (k := 697) (by decide +kernel) (by decide +kernel)⟩
abbrev miX3_enviedBy : MI := (cX3_enviedBy, 8, (some .int), yX3_enviedBy)
theorem moX3_enviedBy : MokV miX3_enviedBy 2 := ⟨⟨⟨⟨by decide, by decide, by decide +kernel⟩, by decide⟩, tbm (k := 121) (by decide +kernel) (by decide +kernel), tbm (k := 693) (by decide +kernel) (by decide +kernel)⟩, tbm (k := 691) (by decide +kernel) (by decide +kernel), tbm (k := 692) (by decide +kernel) (by decide +kernel)⟩
abbrev miX11_house : MI := (cX11_house, 4, (some .int), yX11_house)
theorem moX11_house : MokV miX11_house 2 := ⟨⟨⟨⟨by decide, by decide, by decide +kernel⟩, by decide⟩, tbm (k := 115) (by decide +kernel) (by decide +kernel), tbm (k := 1133) (by decide +kernel) (by decide +kernel)⟩, tbm (k := 1131) (by decide +kernel) (by decide +kernel), tbm (k := 1132) (by decide +kernel) (by decide +kernel)⟩
abbrev miX11_needPlot : MI := (cX11_needPlot, 2, none, yX11_needPlot)
theorem moX11_needPlot : MokV miX11_needPlot 1 := ⟨⟨⟨⟨by decide, by decide, by decide +kernel⟩, by decide⟩, tbm (k := 115) (by decide +kernel) (by decide +kernel), tbm (k := 1149) (by decide +kernel) (by decide +kernel)⟩, tbm (k := 1148) (by decide +kernel) (by decide +kernel), tbm (k := 44) (by decide +kernel) (by decide +kernel)⟩
abbrev miX3_ownerOf : MI := (cX3_ownerOf, 4, (some .int), yX3_ownerOf)
theorem moX3_ownerOf : MokV miX3_ownerOf 2 := ⟨⟨⟨⟨by decide, by decide, by decide +kernel⟩, by decide⟩, tbm (k := 121) (by decide +kernel) (by decide +kernel), tbm (k := 1158) (by decide +kernel) (by decide +kernel)⟩, tbm (k := 1156) (by decide +kernel) (by decide +kernel), tbm (k := 1157) (by decide +kernel) (by decide +kernel)⟩
abbrev miX3_walkToMarket : MI := (cX3_walkToMarket, 3, (some .int), yX3_walkToMarket)
theorem moX3_walkToMarket : MokV miX3_walkToMarket 2 := ⟨⟨⟨⟨by decide, by decide, by decide +kernel⟩, by decide⟩, tbm (k := 121) (by decide +kernel) (by decide +kernel), tbm (k := 1154) (by decide +kernel) (by decide +kernel)⟩, tbm (k := 1152) (by decide +kernel) (by decide +kernel), tbm (k := 1153) (by decide +kernel) (by decide +kernel)⟩
abbrev miX11_plot : MI := (cX11_plot, 3, (some .int), yX11_plot)
theorem moX11_plot : MokV miX11_plot 2 := ⟨⟨⟨⟨by decide, by decide, by decide +kernel⟩, by decide⟩, tbm (k := 115) (by decide +kernel) (by decide +kernel), tbm (k := 1145) (by decide +kernel) (by decide +kernel)⟩, tbm (k := 1143) (by decide +kernel) (by decide +kernel), tbm (k := 1144) (by decide +kernel) (by decide +kernel)⟩
abbrev miX11_worth : MI := (cX11_worth, 3, (some .int), yX11_worth)
theorem moX11_worth : MokV miX11_worth 2 := ⟨⟨⟨⟨by decide, by decide, by decide +kernel⟩, by decide⟩, tbm (k := 115) (by decide +kernel) (by decide +kernel), tbm (k := 1165) (by decide +kernel) (by decide +kernel)⟩, tbm (k := 1163) (by decide +kernel) (by decide +kernel), tbm (k := 1164) (by decide +kernel) (by decide +kernel)⟩
abbrev miX11_needWithin : MI := (cX11_needWithin, 4, none, yX11_needWithin)
theorem moX11_needWithin : MokV miX11_needWithin 3 := ⟨⟨⟨⟨by decide, by decide, by decide +kernel⟩, by decide⟩, tbm (k := 115) (by decide +kernel) (by decide +kernel), tbm (k := 1177) (by decide +kernel) (by decide +kernel)⟩, tbm (k := 1176) (by decide +kernel) (by decide +kernel), tbm (k := 45) (by decide +kernel) (by decide +kernel)⟩
abbrev miX3_cropOf : MI := (cX3_cropOf, 7, (some .int), yX3_cropOf)
theorem moX3_cropOf : MokV miX3_cropOf 5 := ⟨⟨⟨⟨by decide, by decide, by decide +kernel⟩, by decide⟩, tbm (k := 121) (by decide +kernel) (by decide +kernel), tbm (k := 651) (by decide +kernel) (by decide +kernel)⟩, tbm (k := 649) (by decide +kernel) (by decide +kernel), tbm (k := 650) (by decide +kernel) (by decide +kernel)⟩
abbrev miX11_harvest : MI := (cX11_harvest, 4, (some .int), yX11_harvest)
theorem moX11_harvest : MokV miX11_harvest 3 := ⟨⟨⟨⟨by decide, by decide, by decide +kernel⟩, by decide⟩, tbm (k := 115) (by decide +kernel) (by decide +kernel), tbm (k := 1173) (by decide +kernel) (by decide +kernel)⟩, tbm (k := 1171) (by decide +kernel) (by decide +kernel), tbm (k := 1172) (by decide +kernel) (by decide +kernel)⟩
abbrev miX3_plotsLeft : MI := (cX3_plotsLeft, 4, (some .int), yX3_plotsLeft)
theorem moX3_plotsLeft : MokV miX3_plotsLeft 1 := ⟨⟨⟨⟨by decide, by decide, by decide +kernel⟩, by decide⟩, tbm (k := 121) (by decide +kernel) (by decide +kernel), tbm (k := 542) (by decide +kernel) (by decide +kernel)⟩, tbm (k := 540) (by decide +kernel) (by decide +kernel), tbm (k := 541) (by decide +kernel) (by decide +kernel)⟩
abbrev miX11_free : MI := (cX11_free, 1, (some .int), yX11_free)
theorem moX11_free : MokV miX11_free 0 := ⟨⟨⟨⟨by decide, by decide, by decide +kernel⟩, by decide⟩, tbm (k := 115) (by decide +kernel) (by decide +kernel), tbm (k := 538) (by decide +kernel) (by decide +kernel)⟩, tbm (k := 536) (by decide +kernel) (by decide +kernel), tbm (k := 537) (by decide +kernel) (by decide +kernel)⟩
abbrev miX8_writeTo : MI := (cX8_writeTo, 4, none, yX8_writeTo)
theorem moX8_writeTo : MokV miX8_writeTo 2 := ⟨⟨⟨⟨by decide, by decide, by decide +kernel⟩, by decide⟩, tbm (k := 123) (by decide +kernel) (by decide +kernel), tbm (k := 562) (by decide +kernel) (by decide +kernel)⟩, tbm (k := 560) (by decide +kernel) (by decide +kernel), tbm (k := 561) (by decide +kernel) (by decide +kernel)⟩
abbrev miX1_keep : MI := (cX1_keep, 2, none, yX1_keep)
theorem moX1_keep : MokV miX1_keep 1 := ⟨⟨⟨⟨by decide, by decide, by decide +kernel⟩, by decide⟩, tbm (k := 124) (by decide +kernel) (by decide +kernel), tbm (k := 558) (by decide +kernel) (by decide +kernel)⟩, tbm (k := 556) (by decide +kernel) (by decide +kernel), tbm (k := 557) (by decide +kernel) (by decide +kernel)⟩
abbrev miX11_keepAct : MI := (cX11_keepAct, 1, none, yX11_keepAct)
theorem moX11_keepAct : MokV miX11_keepAct 0 := ⟨⟨⟨⟨by decide, by decide, by decide +kernel⟩, by decide⟩, tbm (k := 115) (by decide +kernel) (by decide +kernel), tbm (k := 554) (by decide +kernel) (by decide +kernel)⟩, tbm (k := 553) (by decide +kernel) (by decide +kernel), tbm (k := 1) (by decide +kernel) (by decide +kernel)⟩
abbrev miX3_drawLots : MI := (cX3_drawLots, 6, (some .int), yX3_drawLots)
theorem moX3_drawLots : MokV miX3_drawLots 2 := ⟨⟨⟨⟨by decide, by decide, by decide +kernel⟩, by decide⟩, tbm (k := 121) (by decide +kernel) (by decide +kernel), tbm (k := 566) (by decide +kernel) (by decide +kernel)⟩, tbm (k := 564) (by decide +kernel) (by decide +kernel), tbm (k := 565) (by decide +kernel) (by decide +kernel)⟩
abbrev miX11_lots : MI := (cX11_lots, 2, (some .int), yX11_lots)
theorem moX11_lots : MokV miX11_lots 1 := ⟨⟨⟨⟨by decide, by decide, by decide +kernel⟩, by decide⟩, tbm (k := 115) (by decide +kernel) (by decide +kernel), tbm (k := 550) (by decide +kernel) (by decide +kernel)⟩, tbm (k := 548) (by decide +kernel) (by decide +kernel), tbm (k := 549) (by decide +kernel) (by decide +kernel)⟩
abbrev miX8_turnLot : MI := (cX8_turnLot, 2, none, yX8_turnLot)
theorem moX8_turnLot : MokV miX8_turnLot 1 := ⟨⟨⟨⟨by decide, by decide, by decide +kernel⟩, by decide⟩, tbm (k := 123) (by decide +kernel) (by decide +kernel), tbm (k := 1188) (by decide +kernel) (by decide +kernel)⟩, tbm (k := 1186) (by decide +kernel) (by decide +kernel), tbm (k := 1187) (by decide +kernel) (by decide +kernel)⟩
abbrev miX11_turn : MI := (cX11_turn, 2, (some .int), yX11_turn)
theorem moX11_turn : MokV miX11_turn 1 := ⟨⟨⟨⟨by decide, by decide, by decide +kernel⟩, by decide⟩, tbm (k := 115) (by decide +kernel) (by decide +kernel), tbm (k := 1184) (by decide +kernel) (by decide +kernel)⟩, tbm (k := 1182) (by decide +kernel) (by decide +kernel), tbm (k := 1183) (by decide +kernel) (by decide +kernel)⟩
abbrev miX11_refuse : MI := (cX11_refuse, 2, (some .int), yX11_refuse)
theorem moX11_refuse : MokV miX11_refuse 1 := ⟨⟨⟨⟨by decide, by decide, by decide +kernel⟩, by decide⟩, tbm (k := 115) (by decide +kernel) (by decide +kernel), tbm (k := 627) (by decide +kernel) (by decide +kernel)⟩, tbm (k := 626) (by decide +kernel) (by decide +kernel), tbm (k := 4) (by decide +kernel) (by decide +kernel)⟩
abbrev miX8_moveInOrder : MI := (cX8_moveInOrder, 5, none, yX8_moveInOrder)
theorem moX8_moveInOrder : MokV miX8_moveInOrder 2 := ⟨⟨⟨⟨by decide, by decide, by decide +kernel⟩, by decide⟩, tbm (k := 123) (by decide +kernel) (by decide +kernel), tbm (k := 1199) (by decide +kernel) (by decide +kernel)⟩, tbm (k := 1197) (by decide +kernel) (by decide +kernel), tbm (k := 1198) (by decide +kernel) (by decide +kernel)⟩
abbrev miX11_order : MI := (cX11_order, 4, (some .int), yX11_order)
theorem moX11_order : MokV miX11_order 2 := ⟨⟨⟨⟨by decide, by decide, by decide +kernel⟩, by decide⟩, tbm (k := 115) (by decide +kernel) (by decide +kernel), tbm (k := 1195) (by decide +kernel) (by decide +kernel)⟩, tbm (k := 1193) (by decide +kernel) (by decide +kernel), tbm (k := 1194) (by decide +kernel) (by decide +kernel)⟩
abbrev miX11_exchange : MI := (cX11_exchange, 4, (some .boolean), yX11_exchange)
theorem moX11_exchange : MokV miX11_exchange 2 := ⟨⟨⟨⟨by decide, by decide, by decide +kernel⟩, by decide⟩, tbm (k := 115) (by decide +kernel) (by decide +kernel), tbm (k := 1206) (by decide +kernel) (by decide +kernel)⟩, tbm (k := 1204) (by decide +kernel) (by decide +kernel), tbm (k := 1205) (by decide +kernel) (by decide +kernel)⟩
abbrev miX11_market : MI := (cX11_market, 4, (some .int), yX11_market)
theorem moX11_market : MokV miX11_market 2 := ⟨⟨⟨⟨by decide, by decide, by decide +kernel⟩, by decide⟩, tbm (k := 115) (by decide +kernel) (by decide +kernel), tbm (k := 623) (by decide +kernel) (by decide +kernel)⟩, tbm (k := 621) (by decide +kernel) (by decide +kernel), tbm (k := 622) (by decide +kernel) (by decide +kernel)⟩
abbrev miX3_cropOnShare : MI := (cX3_cropOnShare, 3, (some .int), yX3_cropOnShare)
theorem moX3_cropOnShare : MokV miX3_cropOnShare 2 := ⟨⟨⟨⟨by decide, by decide, by decide +kernel⟩, by decide⟩, tbm (k := 121) (by decide +kernel) (by decide +kernel), tbm (k := 647) (by decide +kernel) (by decide +kernel)⟩, tbm (k := 645) (by decide +kernel) (by decide +kernel), tbm (k := 646) (by decide +kernel) (by decide +kernel)⟩
abbrev miX8_isGone : MI := (cX8_isGone, 2, (some .boolean), yX8_isGone)
theorem moX8_isGone : MokV miX8_isGone 1 := ⟨⟨⟨⟨by decide, by decide, by decide +kernel⟩, by decide⟩, tbm (k := 123) (by decide +kernel) (by decide +kernel), tbm (k := 643) (by decide +kernel) (by decide +kernel)⟩, tbm (k := 641) (by decide +kernel) (by decide +kernel), tbm (k := 642) (by decide +kernel) (by decide +kernel)⟩
abbrev miX8_storeAndEat : MI := (cX8_storeAndEat, 6, none, yX8_storeAndEat)
theorem moX8_storeAndEat : MokV miX8_storeAndEat 3 := ⟨⟨⟨⟨by decide, by decide, by decide +kernel⟩, by decide⟩, tbm (k := 123) (by decide +kernel) (by decide +kernel), tbm (k := 668) (by decide +kernel) (by decide +kernel)⟩, tbm (k := 666) (by decide +kernel) (by decide +kernel), tbm (k := 667) (by decide +kernel) (by decide +kernel)⟩
abbrev miX3_passYears : MI := (cX3_passYears, 5, none, yX3_passYears)
theorem moX3_passYears : MokV miX3_passYears 2 := ⟨⟨⟨⟨by decide, by decide, by decide +kernel⟩, by decide⟩, tbm (k := 121) (by decide +kernel) (by decide +kernel), tbm (k := 639) (by decide +kernel) (by decide +kernel)⟩, tbm (k := 637) (by decide +kernel) (by decide +kernel), tbm (k := 638) (by decide +kernel) (by decide +kernel)⟩
abbrev miX11_years : MI := (cX11_years, 2, (some .int), yX11_years)
theorem moX11_years : MokV miX11_years 1 := ⟨⟨⟨⟨by decide, by decide, by decide +kernel⟩, by decide⟩, tbm (k := 115) (by decide +kernel) (by decide +kernel), tbm (k := 635) (by decide +kernel) (by decide +kernel)⟩, tbm (k := 633) (by decide +kernel) (by decide +kernel), tbm (k := 634) (by decide +kernel) (by decide +kernel)⟩
abbrev miX8_readFrom : MI := (cX8_readFrom, 4, none, yX8_readFrom)
theorem moX8_readFrom : MokV miX8_readFrom 2 := ⟨⟨⟨⟨by decide, by decide, by decide +kernel⟩, by decide⟩, tbm (k := 123) (by decide +kernel) (by decide +kernel), tbm (k := 681) (by decide +kernel) (by decide +kernel)⟩, tbm (k := 679) (by decide +kernel) (by decide +kernel), tbm (k := 680) (by decide +kernel) (by decide +kernel)⟩
abbrev miX1_takeLast : MI := (cX1_takeLast, 2, none, yX1_takeLast)
theorem moX1_takeLast : MokV miX1_takeLast 1 := ⟨⟨⟨⟨by decide, by decide, by decide +kernel⟩, by decide⟩, tbm (k := 124) (by decide +kernel) (by decide +kernel), tbm (k := 677) (by decide +kernel) (by decide +kernel)⟩, tbm (k := 675) (by decide +kernel) (by decide +kernel), tbm (k := 676) (by decide +kernel) (by decide +kernel)⟩
abbrev miX11_undo : MI := (cX11_undo, 1, (some .int), yX11_undo)
theorem moX11_undo : MokV miX11_undo 0 := ⟨⟨⟨⟨by decide, by decide, by decide +kernel⟩, by decide⟩, tbm (k := 115) (by decide +kernel) (by decide +kernel), tbm (k := 673) (by decide +kernel) (by decide +kernel)⟩, tbm (k := 671) (by decide +kernel) (by decide +kernel), tbm (k := 672) (by decide +kernel) (by decide +kernel)⟩
abbrev miX11_comesBack : MI := (cX11_comesBack, 7, (some .boolean), yX11_comesBack)
theorem moX11_comesBack : MokV miX11_comesBack 2 := ⟨⟨⟨⟨by decide, by decide, by decide +kernel⟩, by decide⟩, tbm (k := 115) (by decide +kernel) (by decide +kernel), tbm (k := 702) (by decide +kernel) (by decide +kernel)⟩, tbm (k := 701) (by decide +kernel) (by decide +kernel), tbm (k := 7) (by decide +kernel) (by decide +kernel)⟩
abbrev miX11_findEnvy : MI := (cX11_findEnvy, 2, none, yX11_findEnvy)
theorem moX11_findEnvy : MokV miX11_findEnvy 0 := ⟨⟨⟨⟨by decide, by decide, by decide +kernel⟩, by decide⟩, tbm (k := 115) (by decide +kernel) (by decide +kernel), tbm (k := 689) (by decide +kernel) (by decide +kernel)⟩, tbm (k := 688) (by decide +kernel) (by decide +kernel), tbm (k := 6) (by decide +kernel) (by decide +kernel)⟩
abbrev miX11_ring : MI := (cX11_ring, 4, (some .int), yX11_ring)
theorem moX11_ring : MokV miX11_ring 0 := ⟨⟨⟨⟨by decide, by decide, by decide +kernel⟩, by decide⟩, tbm (k := 115) (by decide +kernel) (by decide +kernel), tbm (k := 685) (by decide +kernel) (by decide +kernel)⟩, tbm (k := 683) (by decide +kernel) (by decide +kernel), tbm (k := 684) (by decide +kernel) (by decide +kernel)⟩
abbrev miX11_howManyEnvy : MI := (cX11_howManyEnvy, 4, (some .int), yX11_howManyEnvy)
theorem moX11_howManyEnvy : MokV miX11_howManyEnvy 1 := ⟨⟨⟨⟨by decide, by decide, by decide +kernel⟩, by decide⟩, tbm (k := 115) (by decide +kernel) (by decide +kernel), tbm (k := 1332) (by decide +kernel) (by decide +kernel)⟩, tbm (k := 1331) (by decide +kernel) (by decide +kernel), tbm (k := 52) (by decide +kernel) (by decide +kernel)⟩
abbrev miX11_needWhat : MI := (cX11_needWhat, 3, none, yX11_needWhat)
theorem moX11_needWhat : MokV miX11_needWhat 2 := ⟨⟨⟨⟨by decide, by decide, by decide +kernel⟩, by decide⟩, tbm (k := 115) (by decide +kernel) (by decide +kernel), tbm (k := 1268) (by decide +kernel) (by decide +kernel)⟩, tbm (k := 1267) (by decide +kernel) (by decide +kernel), tbm (k := 50) (by decide +kernel) (by decide +kernel)⟩
abbrev miX11_envied : MI := (cX11_envied, 6, (some .int), yX11_envied)
theorem moX11_envied : MokV miX11_envied 1 := ⟨⟨⟨⟨by decide, by decide, by decide +kernel⟩, by decide⟩, tbm (k := 115) (by decide +kernel) (by decide +kernel), tbm (k := 1328) (by decide +kernel) (by decide +kernel)⟩, tbm (k := 1326) (by decide +kernel) (by decide +kernel), tbm (k := 1327) (by decide +kernel) (by decide +kernel)⟩
abbrev miJ6_bitCount_0f7a4 : MI := (cJ6_bitCount_0f7a4, 1, (some .int), yJ6_bitCount_0f7a4)
theorem moJ6_bitCount_0f7a4 : MokS miJ6_bitCount_0f7a4 1 := ⟨⟨⟨⟨by decide, by decide, by decide +kernel⟩, by decide⟩, tbm (k := 138) (by decide +kernel) (by decide +kernel), tbm (k := 1231) (by decide +kernel) (by decide +kernel)⟩, tbm (k := 1230) (by decide +kernel) (by decide +kernel)⟩
abbrev miX4_canBeGiven : MI := (cX4_canBeGiven, 4, (some .boolean), yX4_canBeGiven)
theorem moX4_canBeGiven : MokV miX4_canBeGiven 2 := ⟨⟨⟨⟨by decide, by decide, by decide +kernel⟩, by decide⟩, tbm (k := 126) (by decide +kernel) (by decide +kernel), tbm (k := 1243) (by decide +kernel) (by decide +kernel)⟩, tbm (k := 1242) (by decide +kernel) (by decide +kernel), tbm (k := 48) (by decide +kernel) (by decide +kernel)⟩
abbrev miX4_mostFrom : MI := (cX4_mostFrom, 11, (some .long), yX4_mostFrom)
theorem moX4_mostFrom : MokV miX4_mostFrom 3 := ⟨⟨⟨⟨by decide, by decide, by decide +kernel⟩, by decide⟩, tbm (k := 126) (by decide +kernel) (by decide +kernel), tbm (k := 1239) (by decide +kernel) (by decide +kernel)⟩, tbm (k := 1238) (by decide +kernel) (by decide +kernel), tbm (k := 47) (by decide +kernel) (by decide +kernel)⟩
abbrev miX4_fill : MI := (cX4_fill, 7, none, yX4_fill)
theorem moX4_fill : MokV miX4_fill 1 := ⟨⟨⟨⟨by decide, by decide, by decide +kernel⟩, by decide⟩, tbm (k := 126) (by decide +kernel) (by decide +kernel), tbm (k := 1227) (by decide +kernel) (by decide +kernel)⟩, tbm (k := 1226) (by decide +kernel) (by decide +kernel), tbm (k := 46) (by decide +kernel) (by decide +kernel)⟩
abbrev miX4_mostTogether : MI := (cX4_mostTogether, 1, (some .long), yX4_mostTogether)
theorem moX4_mostTogether : MokV miX4_mostTogether 0 := ⟨⟨⟨⟨by decide, by decide, by decide +kernel⟩, by decide⟩, tbm (k := 126) (by decide +kernel) (by decide +kernel), tbm (k := 1223) (by decide +kernel) (by decide +kernel)⟩, tbm (k := 1221) (by decide +kernel) (by decide +kernel), tbm (k := 1222) (by decide +kernel) (by decide +kernel)⟩
abbrev miX4_firstPlot : MI := (cX4_firstPlot, 6, (some .int), yX4_firstPlot)
theorem moX4_firstPlot : MokV miX4_firstPlot 2 := ⟨⟨⟨⟨by decide, by decide, by decide +kernel⟩, by decide⟩, tbm (k := 126) (by decide +kernel) (by decide +kernel), tbm (k := 1257) (by decide +kernel) (by decide +kernel)⟩, tbm (k := 1256) (by decide +kernel) (by decide +kernel), tbm (k := 49) (by decide +kernel) (by decide +kernel)⟩
abbrev miX4_plotFor : MI := (cX4_plotFor, 5, (some .int), yX4_plotFor)
theorem moX4_plotFor : MokV miX4_plotFor 1 := ⟨⟨⟨⟨by decide, by decide, by decide +kernel⟩, by decide⟩, tbm (k := 126) (by decide +kernel) (by decide +kernel), tbm (k := 1253) (by decide +kernel) (by decide +kernel)⟩, tbm (k := 1251) (by decide +kernel) (by decide +kernel), tbm (k := 1252) (by decide +kernel) (by decide +kernel)⟩
abbrev miX4_weigh : MI := (cX4_weigh, 5, none, yX4_weigh)
theorem moX4_weigh : MokV miX4_weigh 2 := ⟨⟨⟨⟨by decide, by decide, by decide +kernel⟩, by decide⟩, tbm (k := 126) (by decide +kernel) (by decide +kernel), tbm (k := 1217) (by decide +kernel) (by decide +kernel)⟩, tbm (k := 1215) (by decide +kernel) (by decide +kernel), tbm (k := 1216) (by decide +kernel) (by decide +kernel)⟩
abbrev miX11_best : MI := (cX11_best, 4, (some .long), yX11_best)
theorem moX11_best : MokV miX11_best 1 := ⟨⟨⟨⟨by decide, by decide, by decide +kernel⟩, by decide⟩, tbm (k := 115) (by decide +kernel) (by decide +kernel), tbm (k := 1213) (by decide +kernel) (by decide +kernel)⟩, tbm (k := 1211) (by decide +kernel) (by decide +kernel), tbm (k := 1212) (by decide +kernel) (by decide +kernel)⟩
abbrev miX4_mostForTheLeast : MI := (cX4_mostForTheLeast, 1, (some .int), yX4_mostForTheLeast)
theorem moX4_mostForTheLeast : MokV miX4_mostForTheLeast 0 := ⟨⟨⟨⟨by decide, by decide, by decide +kernel⟩, by decide⟩, tbm (k := 126) (by decide +kernel) (by decide +kernel), tbm (k := 1272) (by decide +kernel) (by decide +kernel)⟩, tbm (k := 1270) (by decide +kernel) (by decide +kernel), tbm (k := 1271) (by decide +kernel) (by decide +kernel)⟩
abbrev miX11_fairest : MI := (cX11_fairest, 2, (some .int), yX11_fairest)
theorem moX11_fairest : MokV miX11_fairest 1 := ⟨⟨⟨⟨by decide, by decide, by decide +kernel⟩, by decide⟩, tbm (k := 115) (by decide +kernel) (by decide +kernel), tbm (k := 1264) (by decide +kernel) (by decide +kernel)⟩, tbm (k := 1262) (by decide +kernel) (by decide +kernel), tbm (k := 1263) (by decide +kernel) (by decide +kernel)⟩
abbrev miX3_strengthOf : MI := (cX3_strengthOf, 3, (some .int), yX3_strengthOf)
theorem moX3_strengthOf : MokV miX3_strengthOf 2 := ⟨⟨⟨⟨by decide, by decide, by decide +kernel⟩, by decide⟩, tbm (k := 121) (by decide +kernel) (by decide +kernel), tbm (k := 716) (by decide +kernel) (by decide +kernel)⟩, tbm (k := 714) (by decide +kernel) (by decide +kernel), tbm (k := 715) (by decide +kernel) (by decide +kernel)⟩
abbrev miX11_leastSpread : MI := (cX11_leastSpread, 9, (some .int), yX11_leastSpread)
theorem moX11_leastSpread : MokV miX11_leastSpread 4 := ⟨⟨⟨⟨by decide, by decide, by decide +kernel⟩, by decide⟩, tbm (k := 115) (by decide +kernel) (by decide +kernel), tbm (k := 710) (by decide +kernel) (by decide +kernel)⟩, tbm (k := 709) (by decide +kernel) (by decide +kernel), tbm (k := 8) (by decide +kernel) (by decide +kernel)⟩
abbrev miX11_tribes : MI := (cX11_tribes, 1, (some .int), yX11_tribes)
theorem moX11_tribes : MokV miX11_tribes 0 := ⟨⟨⟨⟨by decide, by decide, by decide +kernel⟩, by decide⟩, tbm (k := 115) (by decide +kernel) (by decide +kernel), tbm (k := 706) (by decide +kernel) (by decide +kernel)⟩, tbm (k := 704) (by decide +kernel) (by decide +kernel), tbm (k := 705) (by decide +kernel) (by decide +kernel)⟩
abbrev miX3_walksToShares : MI := (cX3_walksToShares, 7, (some .int), yX3_walksToShares)
theorem moX3_walksToShares : MokV miX3_walksToShares 3 := ⟨⟨⟨⟨by decide, by decide, by decide +kernel⟩, by decide⟩, tbm (k := 121) (by decide +kernel) (by decide +kernel), tbm (k := 725) (by decide +kernel) (by decide +kernel)⟩, tbm (k := 723) (by decide +kernel) (by decide +kernel), tbm (k := 724) (by decide +kernel) (by decide +kernel)⟩
abbrev miX11_middle : MI := (cX11_middle, 6, (some .int), yX11_middle)
theorem moX11_middle : MokV miX11_middle 0 := ⟨⟨⟨⟨by decide, by decide, by decide +kernel⟩, by decide⟩, tbm (k := 115) (by decide +kernel) (by decide +kernel), tbm (k := 720) (by decide +kernel) (by decide +kernel)⟩, tbm (k := 718) (by decide +kernel) (by decide +kernel), tbm (k := 719) (by decide +kernel) (by decide +kernel)⟩
abbrev miX8_copyFrom : MI := (cX8_copyFrom, 3, none, yX8_copyFrom)
theorem moX8_copyFrom : MokV miX8_copyFrom 1 := ⟨⟨⟨⟨by decide, by decide, by decide +kernel⟩, by decide⟩, tbm (k := 123) (by decide +kernel) (by decide +kernel), tbm (k := 733) (by decide +kernel) (by decide +kernel)⟩, tbm (k := 731) (by decide +kernel) (by decide +kernel), tbm (k := 732) (by decide +kernel) (by decide +kernel)⟩
abbrev miX11_without : MI := (cX11_without, 3, (some .int), yX11_without)
theorem moX11_without : MokV miX11_without 2 := ⟨⟨⟨⟨by decide, by decide, by decide +kernel⟩, by decide⟩, tbm (k := 115) (by decide +kernel) (by decide +kernel), tbm (k := 1339) (by decide +kernel) (by decide +kernel)⟩, tbm (k := 1337) (by decide +kernel) (by decide +kernel), tbm (k := 1338) (by decide +kernel) (by decide +kernel)⟩
abbrev miX11_lastPlace : MI := (cX11_lastPlace, 5, (some .int), yX11_lastPlace)
theorem moX11_lastPlace : MokV miX11_lastPlace 1 := ⟨⟨⟨⟨by decide, by decide, by decide +kernel⟩, by decide⟩, tbm (k := 115) (by decide +kernel) (by decide +kernel), tbm (k := 1346) (by decide +kernel) (by decide +kernel)⟩, tbm (k := 1344) (by decide +kernel) (by decide +kernel), tbm (k := 1345) (by decide +kernel) (by decide +kernel)⟩
abbrev miX11_foresee : MI := (cX11_foresee, 2, none, yX11_foresee)
theorem moX11_foresee : MokV miX11_foresee 1 := ⟨⟨⟨⟨by decide, by decide, by decide +kernel⟩, by decide⟩, tbm (k := 115) (by decide +kernel) (by decide +kernel), tbm (k := 1283) (by decide +kernel) (by decide +kernel)⟩, tbm (k := 1282) (by decide +kernel) (by decide +kernel), tbm (k := 51) (by decide +kernel) (by decide +kernel)⟩
abbrev miX11_then : MI := (cX11_then, 3, (some .int), yX11_then)
theorem moX11_then : MokV miX11_then 2 := ⟨⟨⟨⟨by decide, by decide, by decide +kernel⟩, by decide⟩, tbm (k := 115) (by decide +kernel) (by decide +kernel), tbm (k := 1279) (by decide +kernel) (by decide +kernel)⟩, tbm (k := 1277) (by decide +kernel) (by decide +kernel), tbm (k := 1278) (by decide +kernel) (by decide +kernel)⟩
abbrev miX11_starves : MI := (cX11_starves, 3, (some .int), yX11_starves)
theorem moX11_starves : MokV miX11_starves 1 := ⟨⟨⟨⟨by decide, by decide, by decide +kernel⟩, by decide⟩, tbm (k := 115) (by decide +kernel) (by decide +kernel), tbm (k := 1290) (by decide +kernel) (by decide +kernel)⟩, tbm (k := 1288) (by decide +kernel) (by decide +kernel), tbm (k := 1289) (by decide +kernel) (by decide +kernel)⟩
abbrev miX11_tithes : MI := (cX11_tithes, 2, (some .int), yX11_tithes)
theorem moX11_tithes : MokV miX11_tithes 1 := ⟨⟨⟨⟨by decide, by decide, by decide +kernel⟩, by decide⟩, tbm (k := 115) (by decide +kernel) (by decide +kernel), tbm (k := 1298) (by decide +kernel) (by decide +kernel)⟩, tbm (k := 1296) (by decide +kernel) (by decide +kernel), tbm (k := 1297) (by decide +kernel) (by decide +kernel)⟩
abbrev miX11_holdsOut : MI := (cX11_holdsOut, 2, (some .int), yX11_holdsOut)
theorem moX11_holdsOut : MokV miX11_holdsOut 0 := ⟨⟨⟨⟨by decide, by decide, by decide +kernel⟩, by decide⟩, tbm (k := 115) (by decide +kernel) (by decide +kernel), tbm (k := 729) (by decide +kernel) (by decide +kernel)⟩, tbm (k := 727) (by decide +kernel) (by decide +kernel), tbm (k := 728) (by decide +kernel) (by decide +kernel)⟩
abbrev miX11_famine : MI := (cX11_famine, 2, (some .int), yX11_famine)
theorem moX11_famine : MokV miX11_famine 1 := ⟨⟨⟨⟨by decide, by decide, by decide +kernel⟩, by decide⟩, tbm (k := 115) (by decide +kernel) (by decide +kernel), tbm (k := 1355) (by decide +kernel) (by decide +kernel)⟩, tbm (k := 1353) (by decide +kernel) (by decide +kernel), tbm (k := 1354) (by decide +kernel) (by decide +kernel)⟩
abbrev miX11_bushels : MI := (cX11_bushels, 5, (some .int), yX11_bushels)
theorem moX11_bushels : MokV miX11_bushels 2 := ⟨⟨⟨⟨by decide, by decide, by decide +kernel⟩, by decide⟩, tbm (k := 115) (by decide +kernel) (by decide +kernel), tbm (k := 1363) (by decide +kernel) (by decide +kernel)⟩, tbm (k := 1361) (by decide +kernel) (by decide +kernel), tbm (k := 1362) (by decide +kernel) (by decide +kernel)⟩
abbrev miX11_richest : MI := (cX11_richest, 5, (some .int), yX11_richest)
theorem moX11_richest : MokV miX11_richest 1 := ⟨⟨⟨⟨by decide, by decide, by decide +kernel⟩, by decide⟩, tbm (k := 115) (by decide +kernel) (by decide +kernel), tbm (k := 1371) (by decide +kernel) (by decide +kernel)⟩, tbm (k := 1369) (by decide +kernel) (by decide +kernel), tbm (k := 1370) (by decide +kernel) (by decide +kernel)⟩
abbrev miX8_allStores : MI := (cX8_allStores, 3, (some .int), yX8_allStores)
theorem moX8_allStores : MokV miX8_allStores 0 := ⟨⟨⟨⟨by decide, by decide, by decide +kernel⟩, by decide⟩, tbm (k := 123) (by decide +kernel) (by decide +kernel), tbm (k := 1321) (by decide +kernel) (by decide +kernel)⟩, tbm (k := 1319) (by decide +kernel) (by decide +kernel), tbm (k := 1320) (by decide +kernel) (by decide +kernel)⟩
abbrev miX11_change : MI := (cX11_change, 5, (some .int), yX11_change)
theorem moX11_change : MokV miX11_change 1 := ⟨⟨⟨⟨by decide, by decide, by decide +kernel⟩, by decide⟩, tbm (k := 115) (by decide +kernel) (by decide +kernel), tbm (k := 1317) (by decide +kernel) (by decide +kernel)⟩, tbm (k := 1315) (by decide +kernel) (by decide +kernel), tbm (k := 1316) (by decide +kernel) (by decide +kernel)⟩
abbrev miX3_allStrength : MI := (cX3_allStrength, 4, (some .int), yX3_allStrength)
theorem moX3_allStrength : MokV miX3_allStrength 1 := ⟨⟨⟨⟨by decide, by decide, by decide +kernel⟩, by decide⟩, tbm (k := 121) (by decide +kernel) (by decide +kernel), tbm (k := 1309) (by decide +kernel) (by decide +kernel)⟩, tbm (k := 1307) (by decide +kernel) (by decide +kernel), tbm (k := 1308) (by decide +kernel) (by decide +kernel)⟩
abbrev miX11_lotsFor : MI := (cX11_lotsFor, 6, (some .int), yX11_lotsFor)
theorem moX11_lotsFor : MokV miX11_lotsFor 2 := ⟨⟨⟨⟨by decide, by decide, by decide +kernel⟩, by decide⟩, tbm (k := 115) (by decide +kernel) (by decide +kernel), tbm (k := 1305) (by decide +kernel) (by decide +kernel)⟩, tbm (k := 1303) (by decide +kernel) (by decide +kernel), tbm (k := 1304) (by decide +kernel) (by decide +kernel)⟩
abbrev miX8_mostStore : MI := (cX8_mostStore, 3, (some .int), yX8_mostStore)
theorem moX8_mostStore : MokV miX8_mostStore 0 := ⟨⟨⟨⟨by decide, by decide, by decide +kernel⟩, by decide⟩, tbm (k := 123) (by decide +kernel) (by decide +kernel), tbm (k := 1418) (by decide +kernel) (by decide +kernel)⟩, tbm (k := 1416) (by decide +kernel) (by decide +kernel), tbm (k := 1417) (by decide +kernel) (by decide +kernel)⟩
abbrev miX11_founders : MI := (cX11_founders, 9, (some .int), yX11_founders)
theorem moX11_founders : MokV miX11_founders 3 := ⟨⟨⟨⟨by decide, by decide, by decide +kernel⟩, by decide⟩, tbm (k := 115) (by decide +kernel) (by decide +kernel), tbm (k := 1413) (by decide +kernel) (by decide +kernel)⟩, tbm (k := 1411) (by decide +kernel) (by decide +kernel), tbm (k := 1412) (by decide +kernel) (by decide +kernel)⟩
abbrev miX7_add : MI := (cX7_add, 4, none, yX7_add)
theorem moX7_add : MokV miX7_add 3 := ⟨⟨⟨⟨by decide, by decide, by decide +kernel⟩, by decide⟩, tbm (k := 125) (by decide +kernel) (by decide +kernel), tbm (k := 1382) (by decide +kernel) (by decide +kernel)⟩, tbm (k := 1380) (by decide +kernel) (by decide +kernel), tbm (k := 1381) (by decide +kernel) (by decide +kernel)⟩
abbrev miX11_see : MI := (cX11_see, 5, (some .int), yX11_see)
theorem moX11_see : MokV miX11_see 3 := ⟨⟨⟨⟨by decide, by decide, by decide +kernel⟩, by decide⟩, tbm (k := 115) (by decide +kernel) (by decide +kernel), tbm (k := 1378) (by decide +kernel) (by decide +kernel)⟩, tbm (k := 1376) (by decide +kernel) (by decide +kernel), tbm (k := 1377) (by decide +kernel) (by decide +kernel)⟩
abbrev miX11_cropOfBrother : MI := (cX11_cropOfBrother, 4, (some .int), yX11_cropOfBrother)
theorem moX11_cropOfBrother : MokV miX11_cropOfBrother 3 := ⟨⟨⟨⟨by decide, by decide, by decide +kernel⟩, by decide⟩, tbm (k := 115) (by decide +kernel) (by decide +kernel), tbm (k := 746) (by decide +kernel) (by decide +kernel)⟩, tbm (k := 745) (by decide +kernel) (by decide +kernel), tbm (k := 10) (by decide +kernel) (by decide +kernel)⟩
abbrev miX11_agrees : MI := (cX11_agrees, 5, (some .boolean), yX11_agrees)
theorem moX11_agrees : MokV miX11_agrees 2 := ⟨⟨⟨⟨by decide, by decide, by decide +kernel⟩, by decide⟩, tbm (k := 115) (by decide +kernel) (by decide +kernel), tbm (k := 742) (by decide +kernel) (by decide +kernel)⟩, tbm (k := 741) (by decide +kernel) (by decide +kernel), tbm (k := 9) (by decide +kernel) (by decide +kernel)⟩
abbrev miX11_brothers : MI := (cX11_brothers, 5, (some .int), yX11_brothers)
theorem moX11_brothers : MokV miX11_brothers 0 := ⟨⟨⟨⟨by decide, by decide, by decide +kernel⟩, by decide⟩, tbm (k := 115) (by decide +kernel) (by decide +kernel), tbm (k := 737) (by decide +kernel) (by decide +kernel)⟩, tbm (k := 735) (by decide +kernel) (by decide +kernel), tbm (k := 736) (by decide +kernel) (by decide +kernel)⟩
abbrev miX11_look : MI := (cX11_look, 7, (some .int), yX11_look)
theorem moX11_look : MokV miX11_look 2 := ⟨⟨⟨⟨by decide, by decide, by decide +kernel⟩, by decide⟩, tbm (k := 115) (by decide +kernel) (by decide +kernel), tbm (k := 1389) (by decide +kernel) (by decide +kernel)⟩, tbm (k := 1387) (by decide +kernel) (by decide +kernel), tbm (k := 1388) (by decide +kernel) (by decide +kernel)⟩
abbrev miX11_forget : MI := (cX11_forget, 1, none, yX11_forget)
theorem moX11_forget : MokV miX11_forget 0 := ⟨⟨⟨⟨by decide, by decide, by decide +kernel⟩, by decide⟩, tbm (k := 115) (by decide +kernel) (by decide +kernel), tbm (k := 751) (by decide +kernel) (by decide +kernel)⟩, tbm (k := 749) (by decide +kernel) (by decide +kernel), tbm (k := 750) (by decide +kernel) (by decide +kernel)⟩
abbrev miX11_gain : MI := (cX11_gain, 9, (some .long), yX11_gain)
theorem moX11_gain : MokV miX11_gain 5 := ⟨⟨⟨⟨by decide, by decide, by decide +kernel⟩, by decide⟩, tbm (k := 115) (by decide +kernel) (by decide +kernel), tbm (k := 1405) (by decide +kernel) (by decide +kernel)⟩, tbm (k := 1404) (by decide +kernel) (by decide +kernel), tbm (k := 54) (by decide +kernel) (by decide +kernel)⟩
abbrev miX11_isContent : MI := (cX11_isContent, 6, (some .boolean), yX11_isContent)
theorem moX11_isContent : MokV miX11_isContent 5 := ⟨⟨⟨⟨by decide, by decide, by decide +kernel⟩, by decide⟩, tbm (k := 115) (by decide +kernel) (by decide +kernel), tbm (k := 1401) (by decide +kernel) (by decide +kernel)⟩, tbm (k := 1400) (by decide +kernel) (by decide +kernel), tbm (k := 53) (by decide +kernel) (by decide +kernel)⟩
abbrev miX11_game : MI := (cX11_game, 10, (some .int), yX11_game)
theorem moX11_game : MokV miX11_game 4 := ⟨⟨⟨⟨by decide, by decide, by decide +kernel⟩, by decide⟩, tbm (k := 115) (by decide +kernel) (by decide +kernel), tbm (k := 1397) (by decide +kernel) (by decide +kernel)⟩, tbm (k := 1395) (by decide +kernel) (by decide +kernel), tbm (k := 1396) (by decide +kernel) (by decide +kernel)⟩
abbrev miX1_copyFrom : MI := (cX1_copyFrom, 2, none, yX1_copyFrom)
theorem moX1_copyFrom : MokV miX1_copyFrom 1 := ⟨⟨⟨⟨by decide, by decide, by decide +kernel⟩, by decide⟩, tbm (k := 124) (by decide +kernel) (by decide +kernel), tbm (k := 764) (by decide +kernel) (by decide +kernel)⟩, tbm (k := 762) (by decide +kernel) (by decide +kernel), tbm (k := 763) (by decide +kernel) (by decide +kernel)⟩
abbrev miX7_copyFrom : MI := (cX7_copyFrom, 3, none, yX7_copyFrom)
theorem moX7_copyFrom : MokV miX7_copyFrom 1 := ⟨⟨⟨⟨by decide, by decide, by decide +kernel⟩, by decide⟩, tbm (k := 125) (by decide +kernel) (by decide +kernel), tbm (k := 771) (by decide +kernel) (by decide +kernel)⟩, tbm (k := 769) (by decide +kernel) (by decide +kernel), tbm (k := 770) (by decide +kernel) (by decide +kernel)⟩
abbrev miX0_copyFrom : MI := (cX0_copyFrom, 3, none, yX0_copyFrom)
theorem moX0_copyFrom : MokV miX0_copyFrom 1 := ⟨⟨⟨⟨by decide, by decide, by decide +kernel⟩, by decide⟩, tbm (k := 122) (by decide +kernel) (by decide +kernel), tbm (k := 759) (by decide +kernel) (by decide +kernel)⟩, tbm (k := 757) (by decide +kernel) (by decide +kernel), tbm (k := 758) (by decide +kernel) (by decide +kernel)⟩
abbrev miX11_image : MI := (cX11_image, 1, none, yX11_image)
theorem moX11_image : MokV miX11_image 0 := ⟨⟨⟨⟨by decide, by decide, by decide +kernel⟩, by decide⟩, tbm (k := 115) (by decide +kernel) (by decide +kernel), tbm (k := 755) (by decide +kernel) (by decide +kernel)⟩, tbm (k := 753) (by decide +kernel) (by decide +kernel), tbm (k := 754) (by decide +kernel) (by decide +kernel)⟩
abbrev miX11_restore : MI := (cX11_restore, 1, (some .boolean), yX11_restore)
theorem moX11_restore : MokV miX11_restore 0 := ⟨⟨⟨⟨by decide, by decide, by decide +kernel⟩, by decide⟩, tbm (k := 115) (by decide +kernel) (by decide +kernel), tbm (k := 775) (by decide +kernel) (by decide +kernel)⟩, tbm (k := 773) (by decide +kernel) (by decide +kernel), tbm (k := 774) (by decide +kernel) (by decide +kernel)⟩
abbrev miX12_thrown : MI := (cX12_thrown, 1, (some .int), yX12_thrown)
theorem moX12_thrown : MokV miX12_thrown 0 := ⟨⟨⟨⟨by decide, by decide, by decide +kernel⟩, by decide⟩, tbm (k := 127) (by decide +kernel) (by decide +kernel), tbm (k := 1619) (by decide +kernel) (by decide +kernel)⟩, tbm (k := 1617) (by decide +kernel) (by decide +kernel), tbm (k := 1618) (by decide +kernel) (by decide +kernel)⟩
abbrev miX12_fail : MI := (cX12_fail, 2, (some .int), yX12_fail)
theorem moX12_fail : MokV miX12_fail 1 := ⟨⟨⟨⟨by decide, by decide, by decide +kernel⟩, by decide⟩, tbm (k := 127) (by decide +kernel) (by decide +kernel), tbm (k := 1631) (by decide +kernel) (by decide +kernel)⟩, tbm (k := 1630) (by decide +kernel) (by decide +kernel), tbm (k := 55) (by decide +kernel) (by decide +kernel)⟩
abbrev miX12_failing : MI := (cX12_failing, 2, (some .boolean), yX12_failing)
theorem moX12_failing : MokV miX12_failing 1 := ⟨⟨⟨⟨by decide, by decide, by decide +kernel⟩, by decide⟩, tbm (k := 127) (by decide +kernel) (by decide +kernel), tbm (k := 1882) (by decide +kernel) (by decide +kernel)⟩, tbm (k := 1881) (by decide +kernel) (by decide +kernel), tbm (k := 98) (by decide +kernel) (by decide +kernel)⟩
abbrev miX12_isIn : MI := (cX12_isIn, 6, (some .boolean), yX12_isIn)
theorem moX12_isIn : MokS miX12_isIn 3 := ⟨⟨⟨⟨by decide, by decide, by decide +kernel⟩, by decide⟩, tbm (k := 127) (by decide +kernel) (by decide +kernel), tbm (k := 1806) (by decide +kernel) (by decide +kernel)⟩, tbm (k := 1805) (by decide +kernel) (by decide +kernel)⟩
abbrev miX12_isOf : MI := (cX12_isOf, 2, (some .boolean), yX12_isOf)
theorem moX12_isOf : MokS miX12_isOf 2 := ⟨⟨⟨⟨by decide, by decide, by decide +kernel⟩, by decide⟩, tbm (k := 127) (by decide +kernel) (by decide +kernel), tbm (k := 1776) (by decide +kernel) (by decide +kernel)⟩, tbm (k := 1775) (by decide +kernel) (by decide +kernel)⟩
abbrev miX12_bitsOf : MI := (cX12_bitsOf, 3, (some .int), yX12_bitsOf)
theorem moX12_bitsOf : MokS miX12_bitsOf 1 := ⟨⟨⟨⟨by decide, by decide, by decide +kernel⟩, by decide⟩, tbm (k := 127) (by decide +kernel) (by decide +kernel), tbm (k := 1932) (by decide +kernel) (by decide +kernel)⟩, tbm (k := 1931) (by decide +kernel) (by decide +kernel)⟩
abbrev miX12_isHouse : MI := (cX12_isHouse, 2, (some .boolean), yX12_isHouse)
theorem moX12_isHouse : MokV miX12_isHouse 1 := ⟨⟨⟨⟨by decide, by decide, by decide +kernel⟩, by decide⟩, tbm (k := 127) (by decide +kernel) (by decide +kernel), tbm (k := 1803) (by decide +kernel) (by decide +kernel)⟩, tbm (k := 1802) (by decide +kernel) (by decide +kernel), tbm (k := 87) (by decide +kernel) (by decide +kernel)⟩
abbrev miX12_isPlot : MI := (cX12_isPlot, 2, (some .boolean), yX12_isPlot)
theorem moX12_isPlot : MokV miX12_isPlot 1 := ⟨⟨⟨⟨by decide, by decide, by decide +kernel⟩, by decide⟩, tbm (k := 127) (by decide +kernel) (by decide +kernel), tbm (k := 1822) (by decide +kernel) (by decide +kernel)⟩, tbm (k := 1821) (by decide +kernel) (by decide +kernel), tbm (k := 90) (by decide +kernel) (by decide +kernel)⟩
abbrev miX12_feed : MI := (cX12_feed, 8, (some .int), yX12_feed)
theorem moX12_feed : MokV miX12_feed 5 := ⟨⟨⟨⟨by decide, by decide, by decide +kernel⟩, by decide⟩, tbm (k := 127) (by decide +kernel) (by decide +kernel), tbm (k := 1623) (by decide +kernel) (by decide +kernel)⟩, tbm (k := 1621) (by decide +kernel) (by decide +kernel), tbm (k := 1622) (by decide +kernel) (by decide +kernel)⟩
abbrev miX12_byteAt : MI := (cX12_byteAt, 2, (some .int), yX12_byteAt)
theorem moX12_byteAt : MokV miX12_byteAt 1 := ⟨⟨⟨⟨by decide, by decide, by decide +kernel⟩, by decide⟩, tbm (k := 127) (by decide +kernel) (by decide +kernel), tbm (k := 1639) (by decide +kernel) (by decide +kernel)⟩, tbm (k := 1638) (by decide +kernel) (by decide +kernel), tbm (k := 57) (by decide +kernel) (by decide +kernel)⟩
abbrev miX12_isLetter : MI := (cX12_isLetter, 1, (some .boolean), yX12_isLetter)
theorem moX12_isLetter : MokS miX12_isLetter 1 := ⟨⟨⟨⟨by decide, by decide, by decide +kernel⟩, by decide⟩, tbm (k := 127) (by decide +kernel) (by decide +kernel), tbm (k := 1642) (by decide +kernel) (by decide +kernel)⟩, tbm (k := 1641) (by decide +kernel) (by decide +kernel)⟩
abbrev miX12_isDigit : MI := (cX12_isDigit, 1, (some .boolean), yX12_isDigit)
theorem moX12_isDigit : MokS miX12_isDigit 1 := ⟨⟨⟨⟨by decide, by decide, by decide +kernel⟩, by decide⟩, tbm (k := 127) (by decide +kernel) (by decide +kernel), tbm (k := 1645) (by decide +kernel) (by decide +kernel)⟩, tbm (k := 1644) (by decide +kernel) (by decide +kernel)⟩
abbrev miX12_isMark : MI := (cX12_isMark, 1, (some .boolean), yX12_isMark)
theorem moX12_isMark : MokS miX12_isMark 1 := ⟨⟨⟨⟨by decide, by decide, by decide +kernel⟩, by decide⟩, tbm (k := 127) (by decide +kernel) (by decide +kernel), tbm (k := 1650) (by decide +kernel) (by decide +kernel)⟩, tbm (k := 1649) (by decide +kernel) (by decide +kernel)⟩
abbrev miX12_stepOn : MI := (cX12_stepOn, 2, none, yX12_stepOn)
theorem moX12_stepOn : MokV miX12_stepOn 0 := ⟨⟨⟨⟨by decide, by decide, by decide +kernel⟩, by decide⟩, tbm (k := 127) (by decide +kernel) (by decide +kernel), tbm (k := 1635) (by decide +kernel) (by decide +kernel)⟩, tbm (k := 1634) (by decide +kernel) (by decide +kernel), tbm (k := 56) (by decide +kernel) (by decide +kernel)⟩
abbrev miX12_wrong : MI := (cX12_wrong, 2, none, yX12_wrong)
theorem moX12_wrong : MokV miX12_wrong 1 := ⟨⟨⟨⟨by decide, by decide, by decide +kernel⟩, by decide⟩, tbm (k := 127) (by decide +kernel) (by decide +kernel), tbm (k := 1668) (by decide +kernel) (by decide +kernel)⟩, tbm (k := 1667) (by decide +kernel) (by decide +kernel), tbm (k := 60) (by decide +kernel) (by decide +kernel)⟩
abbrev miX12_is : MI := (cX12_is, 4, (some .boolean), yX12_is)
theorem moX12_is : MokV miX12_is 1 := ⟨⟨⟨⟨by decide, by decide, by decide +kernel⟩, by decide⟩, tbm (k := 127) (by decide +kernel) (by decide +kernel), tbm (k := 1659) (by decide +kernel) (by decide +kernel)⟩, tbm (k := 1658) (by decide +kernel) (by decide +kernel), tbm (k := 59) (by decide +kernel) (by decide +kernel)⟩
abbrev miX12_which : MI := (cX12_which, 3, (some .int), yX12_which)
theorem moX12_which : MokV miX12_which 1 := ⟨⟨⟨⟨by decide, by decide, by decide +kernel⟩, by decide⟩, tbm (k := 127) (by decide +kernel) (by decide +kernel), tbm (k := 1721) (by decide +kernel) (by decide +kernel)⟩, tbm (k := 1720) (by decide +kernel) (by decide +kernel), tbm (k := 73) (by decide +kernel) (by decide +kernel)⟩
abbrev miX12_isMarked : MI := (cX12_isMarked, 2, (some .boolean), yX12_isMarked)
theorem moX12_isMarked : MokV miX12_isMarked 1 := ⟨⟨⟨⟨by decide, by decide, by decide +kernel⟩, by decide⟩, tbm (k := 127) (by decide +kernel) (by decide +kernel), tbm (k := 1692) (by decide +kernel) (by decide +kernel)⟩, tbm (k := 1691) (by decide +kernel) (by decide +kernel), tbm (k := 66) (by decide +kernel) (by decide +kernel)⟩
abbrev miX12_mark : MI := (cX12_mark, 2, none, yX12_mark)
theorem moX12_mark : MokV miX12_mark 1 := ⟨⟨⟨⟨by decide, by decide, by decide +kernel⟩, by decide⟩, tbm (k := 127) (by decide +kernel) (by decide +kernel), tbm (k := 1725) (by decide +kernel) (by decide +kernel)⟩, tbm (k := 1724) (by decide +kernel) (by decide +kernel), tbm (k := 74) (by decide +kernel) (by decide +kernel)⟩
abbrev miX12_numberNow : MI := (cX12_numberNow, 3, (some .int), yX12_numberNow)
theorem moX12_numberNow : MokV miX12_numberNow 2 := ⟨⟨⟨⟨by decide, by decide, by decide +kernel⟩, by decide⟩, tbm (k := 127) (by decide +kernel) (by decide +kernel), tbm (k := 1676) (by decide +kernel) (by decide +kernel)⟩, tbm (k := 1675) (by decide +kernel) (by decide +kernel), tbm (k := 62) (by decide +kernel) (by decide +kernel)⟩
abbrev miX12_readNumber : MI := (cX12_readNumber, 4, (some .int), yX12_readNumber)
theorem moX12_readNumber : MokV miX12_readNumber 2 := ⟨⟨⟨⟨by decide, by decide, by decide +kernel⟩, by decide⟩, tbm (k := 127) (by decide +kernel) (by decide +kernel), tbm (k := 1672) (by decide +kernel) (by decide +kernel)⟩, tbm (k := 1671) (by decide +kernel) (by decide +kernel), tbm (k := 61) (by decide +kernel) (by decide +kernel)⟩
abbrev miX12_lay : MI := (cX12_lay, 4, none, yX12_lay)
theorem moX12_lay : MokV miX12_lay 1 := ⟨⟨⟨⟨by decide, by decide, by decide +kernel⟩, by decide⟩, tbm (k := 127) (by decide +kernel) (by decide +kernel), tbm (k := 1717) (by decide +kernel) (by decide +kernel)⟩, tbm (k := 1716) (by decide +kernel) (by decide +kernel), tbm (k := 72) (by decide +kernel) (by decide +kernel)⟩
abbrev miX12_readPart : MI := (cX12_readPart, 3, none, yX12_readPart)
theorem moX12_readPart : MokV miX12_readPart 1 := ⟨⟨⟨⟨by decide, by decide, by decide +kernel⟩, by decide⟩, tbm (k := 127) (by decide +kernel) (by decide +kernel), tbm (k := 1713) (by decide +kernel) (by decide +kernel)⟩, tbm (k := 1712) (by decide +kernel) (by decide +kernel), tbm (k := 71) (by decide +kernel) (by decide +kernel)⟩
abbrev miX12_readProduct : MI := (cX12_readProduct, 3, none, yX12_readProduct)
theorem moX12_readProduct : MokV miX12_readProduct 1 := ⟨⟨⟨⟨by decide, by decide, by decide +kernel⟩, by decide⟩, tbm (k := 127) (by decide +kernel) (by decide +kernel), tbm (k := 1709) (by decide +kernel) (by decide +kernel)⟩, tbm (k := 1708) (by decide +kernel) (by decide +kernel), tbm (k := 70) (by decide +kernel) (by decide +kernel)⟩
abbrev miX12_readSum : MI := (cX12_readSum, 3, none, yX12_readSum)
theorem moX12_readSum : MokV miX12_readSum 1 := ⟨⟨⟨⟨by decide, by decide, by decide +kernel⟩, by decide⟩, tbm (k := 127) (by decide +kernel) (by decide +kernel), tbm (k := 1705) (by decide +kernel) (by decide +kernel)⟩, tbm (k := 1704) (by decide +kernel) (by decide +kernel), tbm (k := 69) (by decide +kernel) (by decide +kernel)⟩
abbrev miX12_readNot : MI := (cX12_readNot, 4, none, yX12_readNot)
theorem moX12_readNot : MokV miX12_readNot 1 := ⟨⟨⟨⟨by decide, by decide, by decide +kernel⟩, by decide⟩, tbm (k := 127) (by decide +kernel) (by decide +kernel), tbm (k := 1700) (by decide +kernel) (by decide +kernel)⟩, tbm (k := 1699) (by decide +kernel) (by decide +kernel), tbm (k := 68) (by decide +kernel) (by decide +kernel)⟩
abbrev miX12_readAnd : MI := (cX12_readAnd, 2, none, yX12_readAnd)
theorem moX12_readAnd : MokV miX12_readAnd 1 := ⟨⟨⟨⟨by decide, by decide, by decide +kernel⟩, by decide⟩, tbm (k := 127) (by decide +kernel) (by decide +kernel), tbm (k := 1696) (by decide +kernel) (by decide +kernel)⟩, tbm (k := 1695) (by decide +kernel) (by decide +kernel), tbm (k := 67) (by decide +kernel) (by decide +kernel)⟩
abbrev miX12_readExpression : MI := (cX12_readExpression, 3, none, yX12_readExpression)
theorem moX12_readExpression : MokV miX12_readExpression 1 := ⟨⟨⟨⟨by decide, by decide, by decide +kernel⟩, by decide⟩, tbm (k := 127) (by decide +kernel) (by decide +kernel), tbm (k := 1688) (by decide +kernel) (by decide +kernel)⟩, tbm (k := 1687) (by decide +kernel) (by decide +kernel), tbm (k := 65) (by decide +kernel) (by decide +kernel)⟩
abbrev miX12_another : MI := (cX12_another, 3, (some .boolean), yX12_another)
theorem moX12_another : MokV miX12_another 2 := ⟨⟨⟨⟨by decide, by decide, by decide +kernel⟩, by decide⟩, tbm (k := 127) (by decide +kernel) (by decide +kernel), tbm (k := 1736) (by decide +kernel) (by decide +kernel)⟩, tbm (k := 1735) (by decide +kernel) (by decide +kernel), tbm (k := 76) (by decide +kernel) (by decide +kernel)⟩
abbrev miX12_sayHouse : MI := (cX12_sayHouse, 2, none, yX12_sayHouse)
theorem moX12_sayHouse : MokV miX12_sayHouse 0 := ⟨⟨⟨⟨by decide, by decide, by decide +kernel⟩, by decide⟩, tbm (k := 127) (by decide +kernel) (by decide +kernel), tbm (k := 1732) (by decide +kernel) (by decide +kernel)⟩, tbm (k := 1731) (by decide +kernel) (by decide +kernel), tbm (k := 75) (by decide +kernel) (by decide +kernel)⟩
abbrev miX12_sayPlot : MI := (cX12_sayPlot, 3, none, yX12_sayPlot)
theorem moX12_sayPlot : MokV miX12_sayPlot 0 := ⟨⟨⟨⟨by decide, by decide, by decide +kernel⟩, by decide⟩, tbm (k := 127) (by decide +kernel) (by decide +kernel), tbm (k := 1741) (by decide +kernel) (by decide +kernel)⟩, tbm (k := 1740) (by decide +kernel) (by decide +kernel), tbm (k := 77) (by decide +kernel) (by decide +kernel)⟩
abbrev miX12_sayRain : MI := (cX12_sayRain, 3, none, yX12_sayRain)
theorem moX12_sayRain : MokV miX12_sayRain 0 := ⟨⟨⟨⟨by decide, by decide, by decide +kernel⟩, by decide⟩, tbm (k := 127) (by decide +kernel) (by decide +kernel), tbm (k := 1680) (by decide +kernel) (by decide +kernel)⟩, tbm (k := 1679) (by decide +kernel) (by decide +kernel), tbm (k := 63) (by decide +kernel) (by decide +kernel)⟩
abbrev miX12_sayRule : MI := (cX12_sayRule, 2, none, yX12_sayRule)
theorem moX12_sayRule : MokV miX12_sayRule 1 := ⟨⟨⟨⟨by decide, by decide, by decide +kernel⟩, by decide⟩, tbm (k := 127) (by decide +kernel) (by decide +kernel), tbm (k := 1684) (by decide +kernel) (by decide +kernel)⟩, tbm (k := 1683) (by decide +kernel) (by decide +kernel), tbm (k := 64) (by decide +kernel) (by decide +kernel)⟩
abbrev miX12_readLine : MI := (cX12_readLine, 3, (some .int), yX12_readLine)
theorem moX12_readLine : MokV miX12_readLine 1 := ⟨⟨⟨⟨by decide, by decide, by decide +kernel⟩, by decide⟩, tbm (k := 127) (by decide +kernel) (by decide +kernel), tbm (k := 1654) (by decide +kernel) (by decide +kernel)⟩, tbm (k := 1653) (by decide +kernel) (by decide +kernel), tbm (k := 58) (by decide +kernel) (by decide +kernel)⟩
abbrev miX12_takeHalf : MI := (cX12_takeHalf, 2, none, yX12_takeHalf)
theorem moX12_takeHalf : MokS miX12_takeHalf 1 := ⟨⟨⟨⟨by decide, by decide, by decide +kernel⟩, by decide⟩, tbm (k := 127) (by decide +kernel) (by decide +kernel), tbm (k := 1748) (by decide +kernel) (by decide +kernel)⟩, tbm (k := 1747) (by decide +kernel) (by decide +kernel)⟩
abbrev miX12_ownerOf : MI := (cX12_ownerOf, 3, (some .int), yX12_ownerOf)
theorem moX12_ownerOf : MokV miX12_ownerOf 1 := ⟨⟨⟨⟨by decide, by decide, by decide +kernel⟩, by decide⟩, tbm (k := 127) (by decide +kernel) (by decide +kernel), tbm (k := 1756) (by decide +kernel) (by decide +kernel)⟩, tbm (k := 1755) (by decide +kernel) (by decide +kernel), tbm (k := 80) (by decide +kernel) (by decide +kernel)⟩
abbrev miX12_strengthOf : MI := (cX12_strengthOf, 2, (some .int), yX12_strengthOf)
theorem moX12_strengthOf : MokV miX12_strengthOf 1 := ⟨⟨⟨⟨by decide, by decide, by decide +kernel⟩, by decide⟩, tbm (k := 127) (by decide +kernel) (by decide +kernel), tbm (k := 1773) (by decide +kernel) (by decide +kernel)⟩, tbm (k := 1772) (by decide +kernel) (by decide +kernel), tbm (k := 84) (by decide +kernel) (by decide +kernel)⟩
abbrev miX12_walkOf : MI := (cX12_walkOf, 2, (some .int), yX12_walkOf)
theorem moX12_walkOf : MokV miX12_walkOf 1 := ⟨⟨⟨⟨by decide, by decide, by decide +kernel⟩, by decide⟩, tbm (k := 127) (by decide +kernel) (by decide +kernel), tbm (k := 1764) (by decide +kernel) (by decide +kernel)⟩, tbm (k := 1763) (by decide +kernel) (by decide +kernel), tbm (k := 82) (by decide +kernel) (by decide +kernel)⟩
abbrev miX12_askOf : MI := (cX12_askOf, 3, none, yX12_askOf)
theorem moX12_askOf : MokV miX12_askOf 2 := ⟨⟨⟨⟨by decide, by decide, by decide +kernel⟩, by decide⟩, tbm (k := 127) (by decide +kernel) (by decide +kernel), tbm (k := 1769) (by decide +kernel) (by decide +kernel)⟩, tbm (k := 1768) (by decide +kernel) (by decide +kernel), tbm (k := 83) (by decide +kernel) (by decide +kernel)⟩
abbrev miX12_reckon : MI := (cX12_reckon, 3, (some .int), yX12_reckon)
theorem moX12_reckon : MokS miX12_reckon 3 := ⟨⟨⟨⟨by decide, by decide, by decide +kernel⟩, by decide⟩, tbm (k := 127) (by decide +kernel) (by decide +kernel), tbm (k := 1783) (by decide +kernel) (by decide +kernel)⟩, tbm (k := 1782) (by decide +kernel) (by decide +kernel)⟩
abbrev miX12_valueNow : MI := (cX12_valueNow, 6, (some .int), yX12_valueNow)
theorem moX12_valueNow : MokV miX12_valueNow 2 := ⟨⟨⟨⟨by decide, by decide, by decide +kernel⟩, by decide⟩, tbm (k := 127) (by decide +kernel) (by decide +kernel), tbm (k := 1780) (by decide +kernel) (by decide +kernel)⟩, tbm (k := 1779) (by decide +kernel) (by decide +kernel), tbm (k := 85) (by decide +kernel) (by decide +kernel)⟩
abbrev miX12_worthOf : MI := (cX12_worthOf, 3, (some .int), yX12_worthOf)
theorem moX12_worthOf : MokV miX12_worthOf 2 := ⟨⟨⟨⟨by decide, by decide, by decide +kernel⟩, by decide⟩, tbm (k := 127) (by decide +kernel) (by decide +kernel), tbm (k := 1760) (by decide +kernel) (by decide +kernel)⟩, tbm (k := 1759) (by decide +kernel) (by decide +kernel), tbm (k := 81) (by decide +kernel) (by decide +kernel)⟩
abbrev miX12_takeShares : MI := (cX12_takeShares, 7, none, yX12_takeShares)
theorem moX12_takeShares : MokV miX12_takeShares 0 := ⟨⟨⟨⟨by decide, by decide, by decide +kernel⟩, by decide⟩, tbm (k := 127) (by decide +kernel) (by decide +kernel), tbm (k := 1752) (by decide +kernel) (by decide +kernel)⟩, tbm (k := 1751) (by decide +kernel) (by decide +kernel), tbm (k := 79) (by decide +kernel) (by decide +kernel)⟩
abbrev miX12_takeOver : MI := (cX12_takeOver, 2, none, yX12_takeOver)
theorem moX12_takeOver : MokV miX12_takeOver 0 := ⟨⟨⟨⟨by decide, by decide, by decide +kernel⟩, by decide⟩, tbm (k := 127) (by decide +kernel) (by decide +kernel), tbm (k := 1745) (by decide +kernel) (by decide +kernel)⟩, tbm (k := 1744) (by decide +kernel) (by decide +kernel), tbm (k := 78) (by decide +kernel) (by decide +kernel)⟩
abbrev miX12_island : MI := (cX12_island, 3, (some .int), yX12_island)
theorem moX12_island : MokV miX12_island 1 := ⟨⟨⟨⟨by decide, by decide, by decide +kernel⟩, by decide⟩, tbm (k := 127) (by decide +kernel) (by decide +kernel), tbm (k := 1627) (by decide +kernel) (by decide +kernel)⟩, tbm (k := 1625) (by decide +kernel) (by decide +kernel), tbm (k := 1626) (by decide +kernel) (by decide +kernel)⟩
abbrev miX12_fault : MI := (cX12_fault, 1, (some .int), yX12_fault)
theorem moX12_fault : MokV miX12_fault 0 := ⟨⟨⟨⟨by decide, by decide, by decide +kernel⟩, by decide⟩, tbm (k := 127) (by decide +kernel) (by decide +kernel), tbm (k := 1787) (by decide +kernel) (by decide +kernel)⟩, tbm (k := 1785) (by decide +kernel) (by decide +kernel), tbm (k := 1786) (by decide +kernel) (by decide +kernel)⟩
abbrev miX12_pack : MI := (cX12_pack, 4, none, yX12_pack)
theorem moX12_pack : MokV miX12_pack 2 := ⟨⟨⟨⟨by decide, by decide, by decide +kernel⟩, by decide⟩, tbm (k := 127) (by decide +kernel) (by decide +kernel), tbm (k := 1849) (by decide +kernel) (by decide +kernel)⟩, tbm (k := 1848) (by decide +kernel) (by decide +kernel), tbm (k := 93) (by decide +kernel) (by decide +kernel)⟩
abbrev miX12_unpack : MI := (cX12_unpack, 4, none, yX12_unpack)
theorem moX12_unpack : MokV miX12_unpack 2 := ⟨⟨⟨⟨by decide, by decide, by decide +kernel⟩, by decide⟩, tbm (k := 127) (by decide +kernel) (by decide +kernel), tbm (k := 1908) (by decide +kernel) (by decide +kernel)⟩, tbm (k := 1907) (by decide +kernel) (by decide +kernel), tbm (k := 101) (by decide +kernel) (by decide +kernel)⟩
abbrev miX12_rainOf : MI := (cX12_rainOf, 2, (some .int), yX12_rainOf)
theorem moX12_rainOf : MokV miX12_rainOf 1 := ⟨⟨⟨⟨by decide, by decide, by decide +kernel⟩, by decide⟩, tbm (k := 127) (by decide +kernel) (by decide +kernel), tbm (k := 1795) (by decide +kernel) (by decide +kernel)⟩, tbm (k := 1794) (by decide +kernel) (by decide +kernel), tbm (k := 86) (by decide +kernel) (by decide +kernel)⟩
abbrev miX12_harvestOf : MI := (cX12_harvestOf, 5, (some .int), yX12_harvestOf)
theorem moX12_harvestOf : MokV miX12_harvestOf 3 := ⟨⟨⟨⟨by decide, by decide, by decide +kernel⟩, by decide⟩, tbm (k := 127) (by decide +kernel) (by decide +kernel), tbm (k := 1836) (by decide +kernel) (by decide +kernel)⟩, tbm (k := 1835) (by decide +kernel) (by decide +kernel), tbm (k := 91) (by decide +kernel) (by decide +kernel)⟩
abbrev miX12_aYear : MI := (cX12_aYear, 3, none, yX12_aYear)
theorem moX12_aYear : MokV miX12_aYear 0 := ⟨⟨⟨⟨by decide, by decide, by decide +kernel⟩, by decide⟩, tbm (k := 127) (by decide +kernel) (by decide +kernel), tbm (k := 1900) (by decide +kernel) (by decide +kernel)⟩, tbm (k := 1899) (by decide +kernel) (by decide +kernel), tbm (k := 100) (by decide +kernel) (by decide +kernel)⟩
abbrev miX12_goOn : MI := (cX12_goOn, 3, none, yX12_goOn)
theorem moX12_goOn : MokV miX12_goOn 1 := ⟨⟨⟨⟨by decide, by decide, by decide +kernel⟩, by decide⟩, tbm (k := 127) (by decide +kernel) (by decide +kernel), tbm (k := 1896) (by decide +kernel) (by decide +kernel)⟩, tbm (k := 1895) (by decide +kernel) (by decide +kernel), tbm (k := 99) (by decide +kernel) (by decide +kernel)⟩
abbrev miX12_count : MI := (cX12_count, 2, (some .int), yX12_count)
theorem moX12_count : MokV miX12_count 1 := ⟨⟨⟨⟨by decide, by decide, by decide +kernel⟩, by decide⟩, tbm (k := 127) (by decide +kernel) (by decide +kernel), tbm (k := 1791) (by decide +kernel) (by decide +kernel)⟩, tbm (k := 1789) (by decide +kernel) (by decide +kernel), tbm (k := 1790) (by decide +kernel) (by decide +kernel)⟩
abbrev miX12_placeOf : MI := (cX12_placeOf, 3, (some .int), yX12_placeOf)
theorem moX12_placeOf : MokV miX12_placeOf 1 := ⟨⟨⟨⟨by decide, by decide, by decide +kernel⟩, by decide⟩, tbm (k := 127) (by decide +kernel) (by decide +kernel), tbm (k := 1810) (by decide +kernel) (by decide +kernel)⟩, tbm (k := 1809) (by decide +kernel) (by decide +kernel), tbm (k := 88) (by decide +kernel) (by decide +kernel)⟩
abbrev miX12_envyOf : MI := (cX12_envyOf, 4, (some .int), yX12_envyOf)
theorem moX12_envyOf : MokV miX12_envyOf 1 := ⟨⟨⟨⟨by decide, by decide, by decide +kernel⟩, by decide⟩, tbm (k := 127) (by decide +kernel) (by decide +kernel), tbm (k := 1814) (by decide +kernel) (by decide +kernel)⟩, tbm (k := 1813) (by decide +kernel) (by decide +kernel), tbm (k := 89) (by decide +kernel) (by decide +kernel)⟩
abbrev miX12_house : MI := (cX12_house, 3, (some .int), yX12_house)
theorem moX12_house : MokV miX12_house 2 := ⟨⟨⟨⟨by decide, by decide, by decide +kernel⟩, by decide⟩, tbm (k := 127) (by decide +kernel) (by decide +kernel), tbm (k := 1799) (by decide +kernel) (by decide +kernel)⟩, tbm (k := 1797) (by decide +kernel) (by decide +kernel), tbm (k := 1798) (by decide +kernel) (by decide +kernel)⟩
abbrev miX12_plot : MI := (cX12_plot, 3, (some .int), yX12_plot)
theorem moX12_plot : MokV miX12_plot 2 := ⟨⟨⟨⟨by decide, by decide, by decide +kernel⟩, by decide⟩, tbm (k := 127) (by decide +kernel) (by decide +kernel), tbm (k := 1818) (by decide +kernel) (by decide +kernel)⟩, tbm (k := 1816) (by decide +kernel) (by decide +kernel), tbm (k := 1817) (by decide +kernel) (by decide +kernel)⟩
abbrev miX12_worth : MI := (cX12_worth, 3, (some .int), yX12_worth)
theorem moX12_worth : MokV miX12_worth 2 := ⟨⟨⟨⟨by decide, by decide, by decide +kernel⟩, by decide⟩, tbm (k := 127) (by decide +kernel) (by decide +kernel), tbm (k := 1827) (by decide +kernel) (by decide +kernel)⟩, tbm (k := 1825) (by decide +kernel) (by decide +kernel), tbm (k := 1826) (by decide +kernel) (by decide +kernel)⟩
abbrev miX12_harvest : MI := (cX12_harvest, 4, (some .int), yX12_harvest)
theorem moX12_harvest : MokV miX12_harvest 3 := ⟨⟨⟨⟨by decide, by decide, by decide +kernel⟩, by decide⟩, tbm (k := 127) (by decide +kernel) (by decide +kernel), tbm (k := 1831) (by decide +kernel) (by decide +kernel)⟩, tbm (k := 1829) (by decide +kernel) (by decide +kernel), tbm (k := 1830) (by decide +kernel) (by decide +kernel)⟩
abbrev miX12_refuse : MI := (cX12_refuse, 2, (some .int), yX12_refuse)
theorem moX12_refuse : MokV miX12_refuse 1 := ⟨⟨⟨⟨by decide, by decide, by decide +kernel⟩, by decide⟩, tbm (k := 127) (by decide +kernel) (by decide +kernel), tbm (k := 1870) (by decide +kernel) (by decide +kernel)⟩, tbm (k := 1869) (by decide +kernel) (by decide +kernel), tbm (k := 96) (by decide +kernel) (by decide +kernel)⟩
abbrev miX12_keep : MI := (cX12_keep, 2, none, yX12_keep)
theorem moX12_keep : MokV miX12_keep 0 := ⟨⟨⟨⟨by decide, by decide, by decide +kernel⟩, by decide⟩, tbm (k := 127) (by decide +kernel) (by decide +kernel), tbm (k := 1845) (by decide +kernel) (by decide +kernel)⟩, tbm (k := 1844) (by decide +kernel) (by decide +kernel), tbm (k := 92) (by decide +kernel) (by decide +kernel)⟩
abbrev miX12_drawOf : MI := (cX12_drawOf, 2, (some .int), yX12_drawOf)
theorem moX12_drawOf : MokV miX12_drawOf 1 := ⟨⟨⟨⟨by decide, by decide, by decide +kernel⟩, by decide⟩, tbm (k := 127) (by decide +kernel) (by decide +kernel), tbm (k := 1857) (by decide +kernel) (by decide +kernel)⟩, tbm (k := 1856) (by decide +kernel) (by decide +kernel), tbm (k := 95) (by decide +kernel) (by decide +kernel)⟩
abbrev miX12_drawLots : MI := (cX12_drawLots, 2, none, yX12_drawLots)
theorem moX12_drawLots : MokV miX12_drawLots 0 := ⟨⟨⟨⟨by decide, by decide, by decide +kernel⟩, by decide⟩, tbm (k := 127) (by decide +kernel) (by decide +kernel), tbm (k := 1853) (by decide +kernel) (by decide +kernel)⟩, tbm (k := 1852) (by decide +kernel) (by decide +kernel), tbm (k := 94) (by decide +kernel) (by decide +kernel)⟩
abbrev miX12_lots : MI := (cX12_lots, 2, (some .int), yX12_lots)
theorem moX12_lots : MokV miX12_lots 1 := ⟨⟨⟨⟨by decide, by decide, by decide +kernel⟩, by decide⟩, tbm (k := 127) (by decide +kernel) (by decide +kernel), tbm (k := 1841) (by decide +kernel) (by decide +kernel)⟩, tbm (k := 1839) (by decide +kernel) (by decide +kernel), tbm (k := 1840) (by decide +kernel) (by decide +kernel)⟩
abbrev miX12_turn : MI := (cX12_turn, 2, (some .int), yX12_turn)
theorem moX12_turn : MokV miX12_turn 1 := ⟨⟨⟨⟨by decide, by decide, by decide +kernel⟩, by decide⟩, tbm (k := 127) (by decide +kernel) (by decide +kernel), tbm (k := 1862) (by decide +kernel) (by decide +kernel)⟩, tbm (k := 1860) (by decide +kernel) (by decide +kernel), tbm (k := 1861) (by decide +kernel) (by decide +kernel)⟩
abbrev miX12_moveTo : MI := (cX12_moveTo, 5, (some .int), yX12_moveTo)
theorem moX12_moveTo : MokV miX12_moveTo 2 := ⟨⟨⟨⟨by decide, by decide, by decide +kernel⟩, by decide⟩, tbm (k := 127) (by decide +kernel) (by decide +kernel), tbm (k := 1874) (by decide +kernel) (by decide +kernel)⟩, tbm (k := 1873) (by decide +kernel) (by decide +kernel), tbm (k := 97) (by decide +kernel) (by decide +kernel)⟩
abbrev miX12_order : MI := (cX12_order, 3, (some .int), yX12_order)
theorem moX12_order : MokV miX12_order 2 := ⟨⟨⟨⟨by decide, by decide, by decide +kernel⟩, by decide⟩, tbm (k := 127) (by decide +kernel) (by decide +kernel), tbm (k := 1866) (by decide +kernel) (by decide +kernel)⟩, tbm (k := 1864) (by decide +kernel) (by decide +kernel), tbm (k := 1865) (by decide +kernel) (by decide +kernel)⟩
abbrev miX12_exchange : MI := (cX12_exchange, 4, (some .boolean), yX12_exchange)
theorem moX12_exchange : MokV miX12_exchange 2 := ⟨⟨⟨⟨by decide, by decide, by decide +kernel⟩, by decide⟩, tbm (k := 127) (by decide +kernel) (by decide +kernel), tbm (k := 1878) (by decide +kernel) (by decide +kernel)⟩, tbm (k := 1876) (by decide +kernel) (by decide +kernel), tbm (k := 1877) (by decide +kernel) (by decide +kernel)⟩
abbrev miX12_market : MI := (cX12_market, 4, (some .int), yX12_market)
theorem moX12_market : MokV miX12_market 2 := ⟨⟨⟨⟨by decide, by decide, by decide +kernel⟩, by decide⟩, tbm (k := 127) (by decide +kernel) (by decide +kernel), tbm (k := 1886) (by decide +kernel) (by decide +kernel)⟩, tbm (k := 1884) (by decide +kernel) (by decide +kernel), tbm (k := 1885) (by decide +kernel) (by decide +kernel)⟩
abbrev miX12_years : MI := (cX12_years, 2, (some .int), yX12_years)
theorem moX12_years : MokV miX12_years 1 := ⟨⟨⟨⟨by decide, by decide, by decide +kernel⟩, by decide⟩, tbm (k := 127) (by decide +kernel) (by decide +kernel), tbm (k := 1891) (by decide +kernel) (by decide +kernel)⟩, tbm (k := 1889) (by decide +kernel) (by decide +kernel), tbm (k := 1890) (by decide +kernel) (by decide +kernel)⟩
abbrev miX12_undo : MI := (cX12_undo, 1, (some .int), yX12_undo)
theorem moX12_undo : MokV miX12_undo 0 := ⟨⟨⟨⟨by decide, by decide, by decide +kernel⟩, by decide⟩, tbm (k := 127) (by decide +kernel) (by decide +kernel), tbm (k := 1904) (by decide +kernel) (by decide +kernel)⟩, tbm (k := 1902) (by decide +kernel) (by decide +kernel), tbm (k := 1903) (by decide +kernel) (by decide +kernel)⟩
abbrev miX12_isRound : MI := (cX12_isRound, 7, (some .boolean), yX12_isRound)
theorem moX12_isRound : MokV miX12_isRound 2 := ⟨⟨⟨⟨by decide, by decide, by decide +kernel⟩, by decide⟩, tbm (k := 127) (by decide +kernel) (by decide +kernel), tbm (k := 1916) (by decide +kernel) (by decide +kernel)⟩, tbm (k := 1915) (by decide +kernel) (by decide +kernel), tbm (k := 102) (by decide +kernel) (by decide +kernel)⟩
abbrev miX12_ring : MI := (cX12_ring, 3, (some .int), yX12_ring)
theorem moX12_ring : MokV miX12_ring 0 := ⟨⟨⟨⟨by decide, by decide, by decide +kernel⟩, by decide⟩, tbm (k := 127) (by decide +kernel) (by decide +kernel), tbm (k := 1912) (by decide +kernel) (by decide +kernel)⟩, tbm (k := 1910) (by decide +kernel) (by decide +kernel), tbm (k := 1911) (by decide +kernel) (by decide +kernel)⟩
abbrev miX12_tellWorths : MI := (cX12_tellWorths, 3, none, yX12_tellWorths)
theorem moX12_tellWorths : MokV miX12_tellWorths 0 := ⟨⟨⟨⟨by decide, by decide, by decide +kernel⟩, by decide⟩, tbm (k := 127) (by decide +kernel) (by decide +kernel), tbm (k := 1929) (by decide +kernel) (by decide +kernel)⟩, tbm (k := 1928) (by decide +kernel) (by decide +kernel), tbm (k := 104) (by decide +kernel) (by decide +kernel)⟩
abbrev miX12_bestBy : MI := (cX12_bestBy, 6, (some .long), yX12_bestBy)
theorem moX12_bestBy : MokV miX12_bestBy 3 := ⟨⟨⟨⟨by decide, by decide, by decide +kernel⟩, by decide⟩, tbm (k := 127) (by decide +kernel) (by decide +kernel), tbm (k := 1937) (by decide +kernel) (by decide +kernel)⟩, tbm (k := 1936) (by decide +kernel) (by decide +kernel), tbm (k := 105) (by decide +kernel) (by decide +kernel)⟩
abbrev miX12_tellBest : MI := (cX12_tellBest, 7, none, yX12_tellBest)
theorem moX12_tellBest : MokV miX12_tellBest 0 := ⟨⟨⟨⟨by decide, by decide, by decide +kernel⟩, by decide⟩, tbm (k := 127) (by decide +kernel) (by decide +kernel), tbm (k := 1925) (by decide +kernel) (by decide +kernel)⟩, tbm (k := 1924) (by decide +kernel) (by decide +kernel), tbm (k := 103) (by decide +kernel) (by decide +kernel)⟩
abbrev miX12_best : MI := (cX12_best, 6, (some .long), yX12_best)
theorem moX12_best : MokV miX12_best 1 := ⟨⟨⟨⟨by decide, by decide, by decide +kernel⟩, by decide⟩, tbm (k := 127) (by decide +kernel) (by decide +kernel), tbm (k := 1920) (by decide +kernel) (by decide +kernel)⟩, tbm (k := 1918) (by decide +kernel) (by decide +kernel), tbm (k := 1919) (by decide +kernel) (by decide +kernel)⟩
abbrev miX12_canAll : MI := (cX12_canAll, 5, (some .boolean), yX12_canAll)
theorem moX12_canAll : MokV miX12_canAll 3 := ⟨⟨⟨⟨by decide, by decide, by decide +kernel⟩, by decide⟩, tbm (k := 127) (by decide +kernel) (by decide +kernel), tbm (k := 1947) (by decide +kernel) (by decide +kernel)⟩, tbm (k := 1946) (by decide +kernel) (by decide +kernel), tbm (k := 106) (by decide +kernel) (by decide +kernel)⟩
abbrev miX12_fairest : MI := (cX12_fairest, 4, (some .int), yX12_fairest)
theorem moX12_fairest : MokV miX12_fairest 1 := ⟨⟨⟨⟨by decide, by decide, by decide +kernel⟩, by decide⟩, tbm (k := 127) (by decide +kernel) (by decide +kernel), tbm (k := 1942) (by decide +kernel) (by decide +kernel)⟩, tbm (k := 1940) (by decide +kernel) (by decide +kernel), tbm (k := 1941) (by decide +kernel) (by decide +kernel)⟩
abbrev miX12_spreadFrom : MI := (cX12_spreadFrom, 4, (some .int), yX12_spreadFrom)
theorem moX12_spreadFrom : MokV miX12_spreadFrom 1 := ⟨⟨⟨⟨by decide, by decide, by decide +kernel⟩, by decide⟩, tbm (k := 127) (by decide +kernel) (by decide +kernel), tbm (k := 1955) (by decide +kernel) (by decide +kernel)⟩, tbm (k := 1954) (by decide +kernel) (by decide +kernel), tbm (k := 107) (by decide +kernel) (by decide +kernel)⟩
abbrev miX12_tribes : MI := (cX12_tribes, 2, (some .int), yX12_tribes)
theorem moX12_tribes : MokV miX12_tribes 0 := ⟨⟨⟨⟨by decide, by decide, by decide +kernel⟩, by decide⟩, tbm (k := 127) (by decide +kernel) (by decide +kernel), tbm (k := 1951) (by decide +kernel) (by decide +kernel)⟩, tbm (k := 1949) (by decide +kernel) (by decide +kernel), tbm (k := 1950) (by decide +kernel) (by decide +kernel)⟩
abbrev miX12_walksTo : MI := (cX12_walksTo, 5, (some .int), yX12_walksTo)
theorem moX12_walksTo : MokV miX12_walksTo 2 := ⟨⟨⟨⟨by decide, by decide, by decide +kernel⟩, by decide⟩, tbm (k := 127) (by decide +kernel) (by decide +kernel), tbm (k := 1964) (by decide +kernel) (by decide +kernel)⟩, tbm (k := 1963) (by decide +kernel) (by decide +kernel), tbm (k := 108) (by decide +kernel) (by decide +kernel)⟩
abbrev miX12_middle : MI := (cX12_middle, 4, (some .int), yX12_middle)
theorem moX12_middle : MokV miX12_middle 0 := ⟨⟨⟨⟨by decide, by decide, by decide +kernel⟩, by decide⟩, tbm (k := 127) (by decide +kernel) (by decide +kernel), tbm (k := 1960) (by decide +kernel) (by decide +kernel)⟩, tbm (k := 1958) (by decide +kernel) (by decide +kernel), tbm (k := 1959) (by decide +kernel) (by decide +kernel)⟩
abbrev miX12_then : MI := (cX12_then, 4, (some .int), yX12_then)
theorem moX12_then : MokV miX12_then 2 := ⟨⟨⟨⟨by decide, by decide, by decide +kernel⟩, by decide⟩, tbm (k := 127) (by decide +kernel) (by decide +kernel), tbm (k := 1968) (by decide +kernel) (by decide +kernel)⟩, tbm (k := 1966) (by decide +kernel) (by decide +kernel), tbm (k := 1967) (by decide +kernel) (by decide +kernel)⟩
abbrev miX12_starves : MI := (cX12_starves, 4, (some .int), yX12_starves)
theorem moX12_starves : MokV miX12_starves 1 := ⟨⟨⟨⟨by decide, by decide, by decide +kernel⟩, by decide⟩, tbm (k := 127) (by decide +kernel) (by decide +kernel), tbm (k := 1973) (by decide +kernel) (by decide +kernel)⟩, tbm (k := 1971) (by decide +kernel) (by decide +kernel), tbm (k := 1972) (by decide +kernel) (by decide +kernel)⟩
abbrev miX12_tithes : MI := (cX12_tithes, 4, (some .int), yX12_tithes)
theorem moX12_tithes : MokV miX12_tithes 1 := ⟨⟨⟨⟨by decide, by decide, by decide +kernel⟩, by decide⟩, tbm (k := 127) (by decide +kernel) (by decide +kernel), tbm (k := 1977) (by decide +kernel) (by decide +kernel)⟩, tbm (k := 1975) (by decide +kernel) (by decide +kernel), tbm (k := 1976) (by decide +kernel) (by decide +kernel)⟩
abbrev miX12_holdsOut : MI := (cX12_holdsOut, 4, (some .int), yX12_holdsOut)
theorem moX12_holdsOut : MokV miX12_holdsOut 0 := ⟨⟨⟨⟨by decide, by decide, by decide +kernel⟩, by decide⟩, tbm (k := 127) (by decide +kernel) (by decide +kernel), tbm (k := 1981) (by decide +kernel) (by decide +kernel)⟩, tbm (k := 1979) (by decide +kernel) (by decide +kernel), tbm (k := 1980) (by decide +kernel) (by decide +kernel)⟩
abbrev miX12_strengthBy : MI := (cX12_strengthBy, 4, (some .int), yX12_strengthBy)
theorem moX12_strengthBy : MokV miX12_strengthBy 1 := ⟨⟨⟨⟨by decide, by decide, by decide +kernel⟩, by decide⟩, tbm (k := 127) (by decide +kernel) (by decide +kernel), tbm (k := 1990) (by decide +kernel) (by decide +kernel)⟩, tbm (k := 1989) (by decide +kernel) (by decide +kernel), tbm (k := 109) (by decide +kernel) (by decide +kernel)⟩
abbrev miX12_lotsFor : MI := (cX12_lotsFor, 5, (some .int), yX12_lotsFor)
theorem moX12_lotsFor : MokV miX12_lotsFor 2 := ⟨⟨⟨⟨by decide, by decide, by decide +kernel⟩, by decide⟩, tbm (k := 127) (by decide +kernel) (by decide +kernel), tbm (k := 1985) (by decide +kernel) (by decide +kernel)⟩, tbm (k := 1983) (by decide +kernel) (by decide +kernel), tbm (k := 1984) (by decide +kernel) (by decide +kernel)⟩
abbrev miX12_allStored : MI := (cX12_allStored, 3, (some .int), yX12_allStored)
theorem moX12_allStored : MokV miX12_allStored 0 := ⟨⟨⟨⟨by decide, by decide, by decide +kernel⟩, by decide⟩, tbm (k := 127) (by decide +kernel) (by decide +kernel), tbm (k := 1998) (by decide +kernel) (by decide +kernel)⟩, tbm (k := 1997) (by decide +kernel) (by decide +kernel), tbm (k := 110) (by decide +kernel) (by decide +kernel)⟩
abbrev miX12_change : MI := (cX12_change, 6, (some .int), yX12_change)
theorem moX12_change : MokV miX12_change 1 := ⟨⟨⟨⟨by decide, by decide, by decide +kernel⟩, by decide⟩, tbm (k := 127) (by decide +kernel) (by decide +kernel), tbm (k := 1994) (by decide +kernel) (by decide +kernel)⟩, tbm (k := 1992) (by decide +kernel) (by decide +kernel), tbm (k := 1993) (by decide +kernel) (by decide +kernel)⟩
abbrev miX12_envied : MI := (cX12_envied, 7, (some .int), yX12_envied)
theorem moX12_envied : MokV miX12_envied 1 := ⟨⟨⟨⟨by decide, by decide, by decide +kernel⟩, by decide⟩, tbm (k := 127) (by decide +kernel) (by decide +kernel), tbm (k := 2002) (by decide +kernel) (by decide +kernel)⟩, tbm (k := 2000) (by decide +kernel) (by decide +kernel), tbm (k := 2001) (by decide +kernel) (by decide +kernel)⟩
abbrev miX12_without : MI := (cX12_without, 4, (some .int), yX12_without)
theorem moX12_without : MokV miX12_without 2 := ⟨⟨⟨⟨by decide, by decide, by decide +kernel⟩, by decide⟩, tbm (k := 127) (by decide +kernel) (by decide +kernel), tbm (k := 2006) (by decide +kernel) (by decide +kernel)⟩, tbm (k := 2004) (by decide +kernel) (by decide +kernel), tbm (k := 2005) (by decide +kernel) (by decide +kernel)⟩
abbrev miX12_lastPlace : MI := (cX12_lastPlace, 5, (some .int), yX12_lastPlace)
theorem moX12_lastPlace : MokV miX12_lastPlace 1 := ⟨⟨⟨⟨by decide, by decide, by decide +kernel⟩, by decide⟩, tbm (k := 127) (by decide +kernel) (by decide +kernel), tbm (k := 2010) (by decide +kernel) (by decide +kernel)⟩, tbm (k := 2008) (by decide +kernel) (by decide +kernel), tbm (k := 2009) (by decide +kernel) (by decide +kernel)⟩
abbrev miX12_famine : MI := (cX12_famine, 3, (some .int), yX12_famine)
theorem moX12_famine : MokV miX12_famine 1 := ⟨⟨⟨⟨by decide, by decide, by decide +kernel⟩, by decide⟩, tbm (k := 127) (by decide +kernel) (by decide +kernel), tbm (k := 2014) (by decide +kernel) (by decide +kernel)⟩, tbm (k := 2012) (by decide +kernel) (by decide +kernel), tbm (k := 2013) (by decide +kernel) (by decide +kernel)⟩
abbrev miX12_ownHarvest : MI := (cX12_ownHarvest, 3, (some .int), yX12_ownHarvest)
theorem moX12_ownHarvest : MokV miX12_ownHarvest 2 := ⟨⟨⟨⟨by decide, by decide, by decide +kernel⟩, by decide⟩, tbm (k := 127) (by decide +kernel) (by decide +kernel), tbm (k := 2022) (by decide +kernel) (by decide +kernel)⟩, tbm (k := 2021) (by decide +kernel) (by decide +kernel), tbm (k := 111) (by decide +kernel) (by decide +kernel)⟩
abbrev miX12_bushels : MI := (cX12_bushels, 5, (some .int), yX12_bushels)
theorem moX12_bushels : MokV miX12_bushels 2 := ⟨⟨⟨⟨by decide, by decide, by decide +kernel⟩, by decide⟩, tbm (k := 127) (by decide +kernel) (by decide +kernel), tbm (k := 2018) (by decide +kernel) (by decide +kernel)⟩, tbm (k := 2016) (by decide +kernel) (by decide +kernel), tbm (k := 2017) (by decide +kernel) (by decide +kernel)⟩
abbrev miX12_free : MI := (cX12_free, 3, (some .int), yX12_free)
theorem moX12_free : MokV miX12_free 0 := ⟨⟨⟨⟨by decide, by decide, by decide +kernel⟩, by decide⟩, tbm (k := 127) (by decide +kernel) (by decide +kernel), tbm (k := 2026) (by decide +kernel) (by decide +kernel)⟩, tbm (k := 2024) (by decide +kernel) (by decide +kernel), tbm (k := 2025) (by decide +kernel) (by decide +kernel)⟩
abbrev miX12_richest : MI := (cX12_richest, 4, (some .int), yX12_richest)
theorem moX12_richest : MokV miX12_richest 1 := ⟨⟨⟨⟨by decide, by decide, by decide +kernel⟩, by decide⟩, tbm (k := 127) (by decide +kernel) (by decide +kernel), tbm (k := 2030) (by decide +kernel) (by decide +kernel)⟩, tbm (k := 2028) (by decide +kernel) (by decide +kernel), tbm (k := 2029) (by decide +kernel) (by decide +kernel)⟩
abbrev miX12_see : MI := (cX12_see, 4, (some .int), yX12_see)
theorem moX12_see : MokV miX12_see 3 := ⟨⟨⟨⟨by decide, by decide, by decide +kernel⟩, by decide⟩, tbm (k := 127) (by decide +kernel) (by decide +kernel), tbm (k := 2034) (by decide +kernel) (by decide +kernel)⟩, tbm (k := 2032) (by decide +kernel) (by decide +kernel), tbm (k := 2033) (by decide +kernel) (by decide +kernel)⟩
abbrev miX12_isAsSeen : MI := (cX12_isAsSeen, 4, (some .boolean), yX12_isAsSeen)
theorem moX12_isAsSeen : MokV miX12_isAsSeen 1 := ⟨⟨⟨⟨by decide, by decide, by decide +kernel⟩, by decide⟩, tbm (k := 127) (by decide +kernel) (by decide +kernel), tbm (k := 2042) (by decide +kernel) (by decide +kernel)⟩, tbm (k := 2041) (by decide +kernel) (by decide +kernel), tbm (k := 112) (by decide +kernel) (by decide +kernel)⟩
abbrev miX12_brothers : MI := (cX12_brothers, 4, (some .int), yX12_brothers)
theorem moX12_brothers : MokV miX12_brothers 0 := ⟨⟨⟨⟨by decide, by decide, by decide +kernel⟩, by decide⟩, tbm (k := 127) (by decide +kernel) (by decide +kernel), tbm (k := 2038) (by decide +kernel) (by decide +kernel)⟩, tbm (k := 2036) (by decide +kernel) (by decide +kernel), tbm (k := 2037) (by decide +kernel) (by decide +kernel)⟩
abbrev miX12_look : MI := (cX12_look, 8, (some .int), yX12_look)
theorem moX12_look : MokV miX12_look 2 := ⟨⟨⟨⟨by decide, by decide, by decide +kernel⟩, by decide⟩, tbm (k := 127) (by decide +kernel) (by decide +kernel), tbm (k := 2046) (by decide +kernel) (by decide +kernel)⟩, tbm (k := 2044) (by decide +kernel) (by decide +kernel), tbm (k := 2045) (by decide +kernel) (by decide +kernel)⟩
abbrev miX12_forget : MI := (cX12_forget, 1, none, yX12_forget)
theorem moX12_forget : MokV miX12_forget 0 := ⟨⟨⟨⟨by decide, by decide, by decide +kernel⟩, by decide⟩, tbm (k := 127) (by decide +kernel) (by decide +kernel), tbm (k := 2050) (by decide +kernel) (by decide +kernel)⟩, tbm (k := 2048) (by decide +kernel) (by decide +kernel), tbm (k := 2049) (by decide +kernel) (by decide +kernel)⟩
abbrev miX12_gain : MI := (cX12_gain, 6, (some .long), yX12_gain)
theorem moX12_gain : MokV miX12_gain 5 := ⟨⟨⟨⟨by decide, by decide, by decide +kernel⟩, by decide⟩, tbm (k := 127) (by decide +kernel) (by decide +kernel), tbm (k := 2058) (by decide +kernel) (by decide +kernel)⟩, tbm (k := 2057) (by decide +kernel) (by decide +kernel), tbm (k := 113) (by decide +kernel) (by decide +kernel)⟩
abbrev miX12_game : MI := (cX12_game, 10, (some .int), yX12_game)
theorem moX12_game : MokV miX12_game 4 := ⟨⟨⟨⟨by decide, by decide, by decide +kernel⟩, by decide⟩, tbm (k := 127) (by decide +kernel) (by decide +kernel), tbm (k := 2054) (by decide +kernel) (by decide +kernel)⟩, tbm (k := 2052) (by decide +kernel) (by decide +kernel), tbm (k := 2053) (by decide +kernel) (by decide +kernel)⟩
abbrev miX12_founders : MI := (cX12_founders, 9, (some .int), yX12_founders)
theorem moX12_founders : MokV miX12_founders 3 := ⟨⟨⟨⟨by decide, by decide, by decide +kernel⟩, by decide⟩, tbm (k := 127) (by decide +kernel) (by decide +kernel), tbm (k := 2063) (by decide +kernel) (by decide +kernel)⟩, tbm (k := 2061) (by decide +kernel) (by decide +kernel), tbm (k := 2062) (by decide +kernel) (by decide +kernel)⟩
abbrev miX12_copyTo : MI := (cX12_copyTo, 3, none, yX12_copyTo)
theorem moX12_copyTo : MokS miX12_copyTo 2 := ⟨⟨⟨⟨by decide, by decide, by decide +kernel⟩, by decide⟩, tbm (k := 127) (by decide +kernel) (by decide +kernel), tbm (k := 2071) (by decide +kernel) (by decide +kernel)⟩, tbm (k := 2070) (by decide +kernel) (by decide +kernel)⟩
abbrev miX12_image : MI := (cX12_image, 1, none, yX12_image)
theorem moX12_image : MokV miX12_image 0 := ⟨⟨⟨⟨by decide, by decide, by decide +kernel⟩, by decide⟩, tbm (k := 127) (by decide +kernel) (by decide +kernel), tbm (k := 2068) (by decide +kernel) (by decide +kernel)⟩, tbm (k := 2066) (by decide +kernel) (by decide +kernel), tbm (k := 2067) (by decide +kernel) (by decide +kernel)⟩
abbrev miX12_restore : MI := (cX12_restore, 1, (some .boolean), yX12_restore)
theorem moX12_restore : MokV miX12_restore 0 := ⟨⟨⟨⟨by decide, by decide, by decide +kernel⟩, by decide⟩, tbm (k := 127) (by decide +kernel) (by decide +kernel), tbm (k := 2075) (by decide +kernel) (by decide +kernel)⟩, tbm (k := 2073) (by decide +kernel) (by decide +kernel), tbm (k := 2074) (by decide +kernel) (by decide +kernel)⟩
