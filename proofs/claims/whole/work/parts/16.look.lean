/-! what the tables answer, one by one -/
theorem zF_0_9 : zF 0 9 = some (3, 0, true, [0]) := by decide +kernel
theorem hl_63 : 63 < sg.1 := by decide +kernel
theorem ho_63_0 : (sg.2 63).1 ∈ [0] := by decide +kernel
theorem hr_63_0 {b : Bool} : rg b 63 0 = some 64 := by cases b <;> decide +kernel
theorem zMs_152 : zMs[152]? = some mJ7_fill_d0a16 := rfl
theorem zS_0_25 : zS 0 25 = some (2, 152) := by decide +kernel
theorem zF_0_31 : zF 0 31 = some (0, 0, false, [7]) := by decide +kernel
theorem zMs_46 : zMs[46]? = some mX9_isPlace := rfl
theorem zV_0_37 : zV 0 37 = some (1, [(9, 46, 0, [618, 473, 474, 51])]) := by decide +kernel
theorem zF_0_43 : zF 0 43 = some (3, 4, true, [7]) := by decide +kernel
theorem zF_0_21 : zF 0 21 = some (3, 3, true, [0]) := by decide +kernel
theorem hr_63_3 {b : Bool} : rg b 63 3 = some 67 := by cases b <;> decide +kernel
theorem zK_0_50 : zK 0 50 = some (.long (167961600000000)) := by decide +kernel
theorem hz_64 {i : Int32} : zin sg 64 22 i = vp_in i 6 := zin_at (by decide +kernel) (by decide +kernel)
theorem hk_63 : (sg.2 63).1 = 0 := by decide +kernel
theorem zMs_2 : zMs[2]? = some mX0_lastWeek := rfl
theorem zV_0_52 : zV 0 52 = some (3, [(0, 2, 0, [623, 625, 18, 53])]) := by decide +kernel
theorem zMs_5 : zMs[5]? = some mX0_firstWeek := rfl
theorem zS_0_56 : zS 0 56 = some (5, 5) := by decide +kernel
theorem zMs_48 : zMs[48]? = some mX9_isSeeker := rfl
theorem zV_0_60 : zV 0 60 = some (1, [(9, 48, 0, [640, 481, 482, 51])]) := by decide +kernel
theorem hz_67 {i : Int32} : zin sg 67 20 i = vp_in i 4 := zin_at (by decide +kernel) (by decide +kernel)
theorem zMs_54 : zMs[54]? = some mX9_finds := rfl
theorem zV_0_63 : zV 0 63 = some (3, [(9, 54, 0, [631, 568, 569, 51])]) := by decide +kernel
theorem zF_0_67 : zF 0 67 = some (3, 6, true, [9]) := by decide +kernel
theorem zMs_150 : zMs[150]? = some mJ6_bitCount_0f7a4 := rfl
theorem zS_0_70 : zS 0 70 = some (1, 150) := by decide +kernel
theorem zMs_55 : zMs[55]? = some mX9_stopsAt := rfl
theorem zV_0_76 : zV 0 76 = some (3, [(9, 55, 0, [641, 572, 573, 51])]) := by decide +kernel
theorem zF_0_80 : zF 0 80 = some (0, 0, false, [9]) := by decide +kernel
theorem zF_0_15 : zF 0 15 = some (3, 1, true, [0]) := by decide +kernel
theorem hr_63_1 {b : Bool} : rg b 63 1 = some 65 := by cases b <;> decide +kernel
theorem hz_65 {i : Int32} : zin sg 65 22 i = vp_in i 6 := zin_at (by decide +kernel) (by decide +kernel)
theorem zF_0_83 : zF 0 83 = some (0, 1, false, [9]) := by decide +kernel
theorem zMs_3 : zMs[3]? = some mX0_searchAll := rfl
theorem zV_0_86 : zV 0 86 = some (2, [(0, 3, 0, [627, 629, 19, 53])]) := by decide +kernel
theorem zF_0_18 : zF 0 18 = some (3, 2, true, [0]) := by decide +kernel
theorem hr_63_2 {b : Bool} : rg b 63 2 = some 66 := by cases b <;> decide +kernel
theorem hz_66 {i : Int32} : zin sg 66 22 i = vp_in i 6 := zin_at (by decide +kernel) (by decide +kernel)
theorem zMs_4 : zMs[4]? = some mX0_share := rfl
theorem zV_0_90 : zV 0 90 = some (2, [(0, 4, 0, [632, 634, 20, 53])]) := by decide +kernel
theorem zF_1_7 : zF 1 7 = some (2, 0, false, [1, 5]) := by decide +kernel
theorem hl_83 : 83 < sg.1 := by decide +kernel
theorem ho_83_1_5 : (sg.2 83).1 ∈ [1, 5] := by decide +kernel
theorem hl_85 : 85 < sg.1 := by decide +kernel
theorem ho_85_1_5 : (sg.2 85).1 ∈ [1, 5] := by decide +kernel
theorem zK_1_13 : zK 1 13 = some (.long (100)) := by decide +kernel
theorem hk_83 : (sg.2 83).1 = 1 := by decide +kernel
theorem zMs_17 : zMs[17]? = some mX6_worth := rfl
theorem zI_1_15 : zI 1 15 = some (3, 17, 1) := by decide +kernel
theorem zO_1_15 : zO 1 15 = false := by decide +kernel
theorem hk_85 : (sg.2 85).1 = 5 := by decide +kernel
theorem zF_1_19 : zF 1 19 = some (3, 11, true, [9]) := by decide +kernel
theorem zF_2_7 : zF 2 7 = some (2, 0, false, [2, 3]) := by decide +kernel
theorem hl_82 : 82 < sg.1 := by decide +kernel
theorem ho_82_2_3 : (sg.2 82).1 ∈ [2, 3] := by decide +kernel
theorem hl_84 : 84 < sg.1 := by decide +kernel
theorem ho_84_2_3 : (sg.2 84).1 ∈ [2, 3] := by decide +kernel
theorem zK_2_13 : zK 2 13 = some (.long (10)) := by decide +kernel
theorem hk_82 : (sg.2 82).1 = 2 := by decide +kernel
theorem zI_2_15 : zI 2 15 = some (3, 17, 1) := by decide +kernel
theorem zO_2_15 : zO 2 15 = false := by decide +kernel
theorem hk_84 : (sg.2 84).1 = 3 := by decide +kernel
theorem zF_2_19 : zF 2 19 = some (3, 5, true, [7]) := by decide +kernel
theorem zF_3_7 : zF 3 7 = some (2, 0, false, [3]) := by decide +kernel
theorem ho_84_3 : (sg.2 84).1 ∈ [3] := by decide +kernel
theorem zK_3_13 : zK 3 13 = some (.long (1000)) := by decide +kernel
theorem zMs_9 : zMs[9]? = some mX2_worth := rfl
theorem zI_3_15 : zI 3 15 = some (3, 9, 1) := by decide +kernel
theorem zO_3_15 : zO 3 15 = false := by decide +kernel
theorem zF_4_7 : zF 4 7 = some (2, 0, false, [4]) := by decide +kernel
theorem hl_86 : 86 < sg.1 := by decide +kernel
theorem ho_86_4 : (sg.2 86).1 ∈ [4] := by decide +kernel
theorem zK_4_13 : zK 4 13 = some (.long (100000)) := by decide +kernel
theorem hk_86 : (sg.2 86).1 = 4 := by decide +kernel
theorem zI_4_15 : zI 4 15 = some (3, 17, 1) := by decide +kernel
theorem zO_4_15 : zO 4 15 = false := by decide +kernel
theorem zF_4_19 : zF 4 19 = some (0, 1, false, [7]) := by decide +kernel
theorem zF_5_7 : zF 5 7 = some (2, 0, false, [5]) := by decide +kernel
theorem ho_85_5 : (sg.2 85).1 ∈ [5] := by decide +kernel
theorem zK_5_13 : zK 5 13 = some (.long (10000)) := by decide +kernel
theorem zMs_7 : zMs[7]? = some mX1_worth := rfl
theorem zI_5_15 : zI 5 15 = some (3, 7, 1) := by decide +kernel
theorem zO_5_15 : zO 5 15 = false := by decide +kernel
theorem zF_6_7 : zF 6 7 = some (2, 0, false, [1, 2, 3, 4, 5, 6]) := by decide +kernel
theorem hl_81 : 81 < sg.1 := by decide +kernel
theorem ho_81_1_2_3_4_5_6 : (sg.2 81).1 ∈ [1, 2, 3, 4, 5, 6] := by decide +kernel
theorem ho_82_1_2_3_4_5_6 : (sg.2 82).1 ∈ [1, 2, 3, 4, 5, 6] := by decide +kernel
theorem ho_83_1_2_3_4_5_6 : (sg.2 83).1 ∈ [1, 2, 3, 4, 5, 6] := by decide +kernel
theorem ho_84_1_2_3_4_5_6 : (sg.2 84).1 ∈ [1, 2, 3, 4, 5, 6] := by decide +kernel
theorem ho_85_1_2_3_4_5_6 : (sg.2 85).1 ∈ [1, 2, 3, 4, 5, 6] := by decide +kernel
theorem ho_86_1_2_3_4_5_6 : (sg.2 86).1 ∈ [1, 2, 3, 4, 5, 6] := by decide +kernel
theorem zF_6_13 : zF 6 13 = some (3, 10, true, [9]) := by decide +kernel
theorem zF_7_27 : zF 7 27 = some (0, 0, false, [7]) := by decide +kernel
theorem zF_7_34 : zF 7 34 = some (0, 1, false, [7]) := by decide +kernel
theorem zF_7_37 : zF 7 37 = some (0, 3, false, [7]) := by decide +kernel
theorem zF_7_9 : zF 7 9 = some (3, 4, true, [7]) := by decide +kernel
theorem zMs_151 : zMs[151]? = some mJ7_fill_53178 := rfl
theorem zS_7_40 : zS 7 40 = some (2, 151) := by decide +kernel
theorem zF_7_15 : zF 7 15 = some (3, 5, true, [7]) := by decide +kernel
theorem zF_7_31 : zF 7 31 = some (0, 2, false, [7]) := by decide +kernel
theorem zF_7_18 : zF 7 18 = some (3, 6, true, [7]) := by decide +kernel
theorem zF_7_21 : zF 7 21 = some (3, 7, true, [7]) := by decide +kernel
theorem zF_7_24 : zF 7 24 = some (3, 8, true, [7]) := by decide +kernel
theorem zF_7_46 : zF 7 46 = some (0, 1, false, [9]) := by decide +kernel
theorem zV_7_51 : zV 7 51 = some (3, [(9, 54, 0, [567, 568, 569, 51])]) := by decide +kernel
theorem zV_7_55 : zV 7 55 = some (3, [(9, 55, 0, [571, 572, 573, 51])]) := by decide +kernel
theorem zMs_20 : zMs[20]? = some mX7_foundBy := rfl
theorem zV_7_59 : zV 7 59 = some (3, [(7, 20, 0, [576, 543, 544, 52])]) := by decide +kernel
theorem zV_7_63 : zV 7 63 = some (1, [(9, 48, 0, [546, 481, 482, 51])]) := by decide +kernel
theorem zV_7_67 : zV 7 67 = some (1, [(9, 46, 0, [547, 473, 474, 51])]) := by decide +kernel
theorem zF_7_70 : zF 7 70 = some (3, 7, true, [9]) := by decide +kernel
theorem zF_7_73 : zF 7 73 = some (3, 8, true, [9]) := by decide +kernel
theorem zF_7_76 : zF 7 76 = some (3, 6, true, [9]) := by decide +kernel
theorem zMs_21 : zMs[21]? = some mX7_draw := rfl
theorem zV_7_79 : zV 7 79 = some (1, [(7, 21, 0, [548, 550, 16, 52])]) := by decide +kernel
theorem zS_7_83 : zS 7 83 = some (1, 150) := by decide +kernel
theorem zK_7_88 : zK 7 88 = some (.int (1103515245)) := by decide +kernel
theorem zF_8_15 : zF 8 15 = some (0, 0, false, [8]) := by decide +kernel
theorem hl_1 : 1 < sg.1 := by decide +kernel
theorem ho_1_8 : (sg.2 1).1 ∈ [8] := by decide +kernel
theorem zF_8_9 : zF 8 9 = some (3, 1, true, [8]) := by decide +kernel
theorem hr_1_1 {b : Bool} : rg b 1 1 = some 2 := by cases b <;> decide +kernel
theorem hz_2 {i : Int32} : zin sg 2 20 i = vp_in i 200 := zin_at (by decide +kernel) (by decide +kernel)
theorem zMs_43 : zMs[43]? = some mX9_empty := rfl
theorem zV_8_19 : zV 8 19 = some (0, [(9, 43, 0, [365, 366, 367, 51])]) := by decide +kernel
theorem zF_8_24 : zF 8 24 = some (0, 2, false, [8]) := by decide +kernel
theorem zF_8_27 : zF 8 27 = some (1, 6, false, [8]) := by decide +kernel
theorem zF_8_31 : zF 8 31 = some (1, 7, false, [8]) := by decide +kernel
theorem hk_1 : (sg.2 1).1 = 8 := by decide +kernel
theorem zMs_30 : zMs[30]? = some mX8_readToken := rfl
theorem zV_8_34 : zV 8 34 = some (0, [(8, 30, 0, [369, 371, 0, 50])]) := by decide +kernel
theorem zF_8_37 : zF 8 37 = some (0, 4, false, [8]) := by decide +kernel
theorem zMs_36 : zMs[36]? = some mX8_readsItem := rfl
theorem zV_8_40 : zV 8 40 = some (1, [(8, 36, 0, [448, 450, 6, 50])]) := by decide +kernel
theorem zF_8_44 : zF 8 44 = some (0, 3, false, [8]) := by decide +kernel
theorem zMs_49 : zMs[49]? = some mX9_settle := rfl
theorem zV_8_47 : zV 8 47 = some (0, [(9, 49, 0, [492, 493, 494, 51])]) := by decide +kernel
theorem zMs_37 : zMs[37]? = some mX8_readsPlace := rfl
theorem zV_8_50 : zV 8 50 = some (1, [(8, 37, 0, [452, 454, 7, 50])]) := by decide +kernel
theorem zMs_39 : zMs[39]? = some mX8_readsSeeker := rfl
theorem zV_8_53 : zV 8 53 = some (1, [(8, 39, 0, [464, 466, 9, 50])]) := by decide +kernel
theorem zMs_40 : zMs[40]? = some mX8_readsRing := rfl
theorem zV_8_56 : zV 8 56 = some (1, [(8, 40, 0, [484, 486, 10, 50])]) := by decide +kernel
theorem zMs_41 : zMs[41]? = some mX8_readsLaw := rfl
theorem zV_8_59 : zV 8 59 = some (1, [(8, 41, 0, [488, 490, 11, 50])]) := by decide +kernel
theorem zF_8_62 : zF 8 62 = some (0, 0, false, [9]) := by decide +kernel
theorem zMs_38 : zMs[38]? = some mX8_isNumber := rfl
theorem zV_8_65 : zV 8 65 = some (2, [(8, 38, 0, [456, 458, 8, 50])]) := by decide +kernel
theorem zF_8_69 : zF 8 69 = some (0, 5, false, [8]) := by decide +kernel
theorem zMs_44 : zMs[44]? = some mX9_addPlace := rfl
theorem zV_8_72 : zV 8 72 = some (1, [(9, 44, 0, [460, 461, 462, 51])]) := by decide +kernel
theorem zF_8_76 : zF 8 76 = some (0, 1, false, [9]) := by decide +kernel
theorem zMs_45 : zMs[45]? = some mX9_addSeeker := rfl
theorem zV_8_79 : zV 8 79 = some (1, [(9, 45, 0, [468, 469, 470, 51])]) := by decide +kernel
theorem zV_8_82 : zV 8 82 = some (1, [(9, 46, 0, [472, 473, 474, 51])]) := by decide +kernel
theorem zMs_47 : zMs[47]? = some mX9_addHabit := rfl
theorem zV_8_86 : zV 8 86 = some (1, [(9, 47, 0, [476, 477, 478, 51])]) := by decide +kernel
theorem zF_8_89 : zF 8 89 = some (0, 3, false, [9]) := by decide +kernel
theorem zF_8_92 : zF 8 92 = some (0, 2, false, [9]) := by decide +kernel
theorem zMs_31 : zMs[31]? = some mX8_isLetter := rfl
theorem zV_8_95 : zV 8 95 = some (1, [(8, 31, 0, [373, 375, 1, 50])]) := by decide +kernel
theorem zMs_32 : zMs[32]? = some mX8_readWord := rfl
theorem zV_8_98 : zV 8 98 = some (0, [(8, 32, 0, [377, 379, 2, 50])]) := by decide +kernel
theorem zMs_34 : zMs[34]? = some mX8_isDigit := rfl
theorem zV_8_101 : zV 8 101 = some (1, [(8, 34, 0, [437, 439, 4, 50])]) := by decide +kernel
theorem zMs_35 : zMs[35]? = some mX8_readDigits := rfl
theorem zV_8_104 : zV 8 104 = some (0, [(8, 35, 0, [441, 443, 5, 50])]) := by decide +kernel
theorem zK_8_107 : zK 8 107 = some (.ref 5000) := by decide +kernel
theorem zMs_33 : zMs[33]? = some mX8_isWord := rfl
theorem zV_8_109 : zV 8 109 = some (1, [(8, 33, 0, [382, 384, 3, 50])]) := by decide +kernel
theorem zK_8_113 : zK 8 113 = some (.ref 5001) := by decide +kernel
theorem zK_8_115 : zK 8 115 = some (.ref 5002) := by decide +kernel
theorem zK_8_116 : zK 8 116 = some (.ref 5003) := by decide +kernel
theorem zMs_144 : zMs[144]? = some mJ0_length_8abf5 := rfl
theorem zV_8_123 : zV 8 123 = some (0, [(20, 144, 0, [386, 387, 388, 61])]) := by decide +kernel
theorem zMs_146 : zMs[146]? = some mJ0_charAt_5068e := rfl
theorem zV_8_128 : zV 8 128 = some (1, [(20, 146, 0, [396, 397, 398, 61])]) := by decide +kernel
theorem zF_9_48 : zF 9 48 = some (0, 0, false, [9]) := by decide +kernel
theorem zF_9_51 : zF 9 51 = some (0, 1, false, [9]) := by decide +kernel
theorem zF_9_54 : zF 9 54 = some (0, 2, false, [9]) := by decide +kernel
theorem zF_9_44 : zF 9 44 = some (0, 3, false, [9]) := by decide +kernel
theorem zF_9_57 : zF 9 57 = some (0, 4, false, [9]) := by decide +kernel
theorem zF_9_9 : zF 9 9 = some (3, 5, true, [9]) := by decide +kernel
theorem zF_9_27 : zF 9 27 = some (3, 10, true, [9]) := by decide +kernel
theorem zF_9_30 : zF 9 30 = some (3, 11, true, [9]) := by decide +kernel
theorem zV_9_60 : zV 9 60 = some (1, [(9, 48, 0, [480, 481, 482, 51])]) := by decide +kernel
theorem zF_9_35 : zF 9 35 = some (3, 12, true, [9]) := by decide +kernel
theorem zMs_50 : zMs[50]? = some mX9_settleOrder := rfl
theorem zV_9_64 : zV 9 64 = some (0, [(9, 50, 0, [496, 498, 12, 51])]) := by decide +kernel
theorem zMs_51 : zMs[51]? = some mX9_settleNoWorse := rfl
theorem zV_9_67 : zV 9 67 = some (1, [(9, 51, 0, [500, 502, 13, 51])]) := by decide +kernel
theorem zMs_52 : zMs[52]? = some mX9_settleReach := rfl
theorem zV_9_71 : zV 9 71 = some (2, [(9, 52, 0, [504, 506, 14, 51])]) := by decide +kernel
theorem zF_9_24 : zF 9 24 = some (3, 9, true, [9]) := by decide +kernel
theorem zF_9_15 : zF 9 15 = some (3, 6, true, [9]) := by decide +kernel
theorem zF_9_18 : zF 9 18 = some (3, 7, true, [9]) := by decide +kernel
theorem zF_9_21 : zF 9 21 = some (3, 8, true, [9]) := by decide +kernel
theorem zMs_53 : zMs[53]? = some mX9_behind := rfl
theorem zV_9_75 : zV 9 75 = some (2, [(9, 53, 0, [508, 510, 15, 51])]) := by decide +kernel
theorem zF_9_38 : zF 9 38 = some (3, 13, true, [9]) := by decide +kernel
theorem zF_9_41 : zF 9 41 = some (3, 14, true, [9]) := by decide +kernel
theorem zV_9_79 : zV 9 79 = some (3, [(9, 54, 0, [575, 568, 569, 51])]) := by decide +kernel
theorem zF_10_10 : zF 10 10 = some (3, 0, true, [10]) := by decide +kernel
theorem hl_0 : 0 < sg.1 := by decide +kernel
theorem ho_0_10 : (sg.2 0).1 ∈ [10] := by decide +kernel
theorem hr_0_0 {b : Bool} : rg b 0 0 = some 1 := by cases b <;> decide +kernel
theorem zF_10_73 : zF 10 73 = some (0, 0, false, [8]) := by decide +kernel
theorem zMs_28 : zMs[28]? = some mX8_append := rfl
theorem zV_10_77 : zV 10 77 = some (2, [(8, 28, 0, [349, 350, 351, 50])]) := by decide +kernel
theorem zF_10_23 : zF 10 23 = some (3, 2, false, [10]) := by decide +kernel
theorem hr_0_2 {b : Bool} : rg b 0 2 = some (tc (!b) 0) := by cases b <;> decide +kernel
theorem zMs_29 : zMs[29]? = some mX8_tellTo := rfl
theorem zV_10_81 : zV 10 81 = some (1, [(8, 29, 0, [361, 362, 363, 50])]) := by decide +kernel
theorem zF_10_19 : zF 10 19 = some (3, 1, false, [10]) := by decide +kernel
theorem hr_0_1 {b : Bool} : rg b 0 1 = some (tc b 0) := by cases b <;> decide +kernel
theorem zF_10_29 : zF 10 29 = some (3, 3, true, [10]) := by decide +kernel
theorem hr_0_3 {b : Bool} : rg b 0 3 = some (sc 0 0) := by cases b <;> decide +kernel
theorem zF_10_85 : zF 10 85 = some (0, 3, false, [9]) := by decide +kernel
theorem zMs_19 : zMs[19]? = some mX7_begin := rfl
theorem zV_10_88 : zV 10 88 = some (1, [(7, 19, 0, [512, 513, 514, 52])]) := by decide +kernel
theorem zF_10_40 : zF 10 40 = some (3, 6, true, [10]) := by decide +kernel
theorem hr_0_6 {b : Bool} : rg b 0 6 = some 62 := by cases b <;> decide +kernel
theorem hz_62 {i : Int32} : zin sg 62 21 i = vp_in i 2 := zin_at (by decide +kernel) (by decide +kernel)
theorem zV_10_92 : zV 10 92 = some (1, [(9, 46, 0, [524, 473, 474, 51])]) := by decide +kernel
theorem zF_10_96 : zF 10 96 = some (3, 5, true, [9]) := by decide +kernel
theorem zF_10_100 : zF 10 100 = some (3, 6, true, [9]) := by decide +kernel
theorem zV_10_103 : zV 10 103 = some (1, [(9, 48, 0, [529, 481, 482, 51])]) := by decide +kernel
theorem zF_10_106 : zF 10 106 = some (3, 10, true, [9]) := by decide +kernel
theorem zF_10_109 : zF 10 109 = some (3, 11, true, [9]) := by decide +kernel
theorem zF_10_112 : zF 10 112 = some (3, 4, true, [7]) := by decide +kernel
theorem zF_10_115 : zF 10 115 = some (3, 5, true, [7]) := by decide +kernel
theorem zF_10_118 : zF 10 118 = some (3, 12, true, [9]) := by decide +kernel
theorem zF_10_122 : zF 10 122 = some (0, 0, false, [7]) := by decide +kernel
theorem zF_10_123 : zF 10 123 = some (0, 2, false, [9]) := by decide +kernel
theorem zV_10_126 : zV 10 126 = some (3, [(7, 20, 0, [542, 543, 544, 52])]) := by decide +kernel
theorem zF_10_130 : zF 10 130 = some (0, 1, false, [7]) := by decide +kernel
theorem zF_10_133 : zF 10 133 = some (0, 0, false, [9]) := by decide +kernel
theorem zMs_22 : zMs[22]? = some mX7_passWeek := rfl
theorem zV_10_136 : zV 10 136 = some (2, [(7, 22, 0, [563, 564, 565, 52])]) := by decide +kernel
theorem zS_10_140 : zS 10 140 = some (1, 150) := by decide +kernel
theorem zMs_23 : zMs[23]? = some mX7_hadByAll := rfl
theorem zV_10_146 : zV 10 146 = some (0, [(7, 23, 0, [582, 583, 584, 52])]) := by decide +kernel
theorem zF_10_150 : zF 10 150 = some (0, 2, false, [7]) := by decide +kernel
theorem hk_0 : (sg.2 0).1 = 10 := by decide +kernel
theorem zMs_70 : zMs[70]? = some mX10_weeksLying := rfl
theorem zV_10_153 : zV 10 153 = some (1, [(10, 70, 0, [594, 596, 17, 49])]) := by decide +kernel
theorem zK_10_156 : zK 10 156 = some (.long (-1)) := by decide +kernel
theorem zF_10_47 : zF 10 47 = some (3, 7, true, [10]) := by decide +kernel
theorem hr_0_7 {b : Bool} : rg b 0 7 = some 63 := by cases b <;> decide +kernel
theorem zMs_1 : zMs[1]? = some mX0_goOn := rfl
theorem zV_10_158 : zV 10 158 = some (3, [(0, 1, 0, [611, 612, 613, 53])]) := by decide +kernel
theorem zF_10_162 : zF 10 162 = some (3, 0, true, [0]) := by decide +kernel
theorem zK_10_166 : zK 10 166 = some (.long (167961600000000)) := by decide +kernel
theorem zMs_73 : zMs[73]? = some mX10_leastTerm := rfl
theorem zS_10_168 : zS 10 168 = some (3, 73) := by decide +kernel
theorem zF_10_172 : zF 10 172 = some (0, 4, false, [9]) := by decide +kernel
theorem zMs_56 : zMs[56]? = some mX9_minutesOfFirst := rfl
theorem zV_10_175 : zV 10 175 = some (0, [(9, 56, 0, [654, 655, 656, 51])]) := by decide +kernel
theorem zF_10_184 : zF 10 184 = some (3, 9, true, [9]) := by decide +kernel
theorem zF_10_187 : zF 10 187 = some (0, 3, false, [7]) := by decide +kernel
theorem zMs_25 : zMs[25]? = some mX7_addSeen := rfl
theorem zV_10_190 : zV 10 190 = some (3, [(7, 25, 0, [669, 670, 671, 52])]) := by decide +kernel
theorem zMs_80 : zMs[80]? = some mX10_canHaveBegunAt := rfl
theorem zV_10_194 : zV 10 194 = some (1, [(10, 80, 0, [681, 683, 21, 49])]) := by decide +kernel
theorem zF_10_33 : zF 10 33 = some (3, 4, true, [10]) := by decide +kernel
theorem hr_0_4 {b : Bool} : rg b 0 4 = some (sc 1 0) := by cases b <;> decide +kernel
theorem zF_10_53 : zF 10 53 = some (3, 8, true, [10]) := by decide +kernel
theorem hr_0_8 {b : Bool} : rg b 0 8 = some 68 := by cases b <;> decide +kernel
theorem zK_10_197 : zK 10 197 = some (.int (-1000000)) := by decide +kernel
theorem hl_68 : 68 < sg.1 := by decide +kernel
theorem hs_68 : sg.2 68 = (24, 6) := by decide +kernel
theorem hk_81 : (sg.2 81).1 = 6 := by decide +kernel
theorem zV_10_198 : zV 10 198 = some (3, [(1, 7, 1, [694, 697, 695, 698, 699, 56]), (2, 9, 1, [694, 697, 695, 703, 704, 55]), (3, 11, 1, [694, 697, 695, 708, 709, 57]), (4, 13, 1, [694, 697, 695, 713, 714, 59]), (5, 15, 1, [694, 697, 695, 718, 719, 58]), (6, 17, 0, [694, 695, 696, 54])]) := by decide +kernel
theorem zMs_11 : zMs[11]? = some mX3_worth := rfl
theorem zMs_15 : zMs[15]? = some mX5_worth := rfl
theorem zMs_13 : zMs[13]? = some mX4_worth := rfl
theorem zF_10_36 : zF 10 36 = some (3, 5, true, [10]) := by decide +kernel
theorem hr_0_5 {b : Bool} : rg b 0 5 = some 61 := by cases b <;> decide +kernel
theorem hl_61 : 61 < sg.1 := by decide +kernel
theorem hs_61 : sg.2 61 = (23, 2) := by decide +kernel
theorem zMs_24 : zMs[24]? = some mX7_becomeAs := rfl
theorem zV_10_202 : zV 10 202 = some (1, [(7, 24, 0, [598, 599, 600, 52])]) := by decide +kernel
theorem zF_10_206 : zF 10 206 = some (0, 1, false, [9]) := by decide +kernel
theorem zF_10_209 : zF 10 209 = some (2, 0, false, [1, 2, 3, 4, 5, 6]) := by decide +kernel
theorem zMs_26 : zMs[26]? = some mX7_sawNoOther := rfl
theorem zV_10_213 : zV 10 213 = some (2, [(7, 26, 0, [685, 686, 687, 52])]) := by decide +kernel
theorem zF_11_17 : zF 11 17 = some (3, 4, true, [11]) := by decide +kernel
theorem hl_87 : 87 < sg.1 := by decide +kernel
theorem ho_87_11 : (sg.2 87).1 ∈ [11] := by decide +kernel
theorem hr_87_4 {b : Bool} : rg b 87 4 = some 89 := by cases b <;> decide +kernel
theorem hz_89 {i : Int32} : zin sg 89 20 i = vp_in i 49 := zin_at (by decide +kernel) (by decide +kernel)
theorem zMs_88 : zMs[88]? = some mX11_in := rfl
theorem zS_11_46 : zS 11 46 = some (3, 88) := by decide +kernel
theorem zF_11_50 : zF 11 50 = some (0, 3, false, [11]) := by decide +kernel
theorem zF_11_13 : zF 11 13 = some (3, 2, true, [11]) := by decide +kernel
theorem hr_87_2 {b : Bool} : rg b 87 2 = some 88 := by cases b <;> decide +kernel
theorem zK_11_53 : zK 11 53 = some (.long (255)) := by decide +kernel
theorem hz_88 {i : Int32} : zin sg 88 20 i = vp_in i 200 := zin_at (by decide +kernel) (by decide +kernel)
theorem zF_11_55 : zF 11 55 = some (0, 9, false, [11]) := by decide +kernel
theorem hk_87 : (sg.2 87).1 = 11 := by decide +kernel
theorem zMs_93 : zMs[93]? = some mX11_byteAt := rfl
theorem zV_11_58 : zV 11 58 = some (1, [(11, 93, 0, [831, 833, 24, 60])]) := by decide +kernel
theorem zF_11_62 : zF 11 62 = some (0, 11, false, [11]) := by decide +kernel
theorem zMs_94 : zMs[94]? = some mX11_sortOf := rfl
theorem zS_11_65 : zS 11 65 = some (1, 94) := by decide +kernel
theorem zF_11_68 : zF 11 68 = some (0, 10, false, [11]) := by decide +kernel
theorem zF_11_71 : zF 11 71 = some (0, 12, false, [11]) := by decide +kernel
theorem zK_11_74 : zK 11 74 = some (.long (256)) := by decide +kernel
theorem zK_11_76 : zK 11 76 = some (.long (482854658917)) := by decide +kernel
theorem zK_11_78 : zK 11 78 = some (.long (126879330428274)) := by decide +kernel
theorem zK_11_80 : zK 11 80 = some (.long (1919512167)) := by decide +kernel
theorem zK_11_82 : zK 11 82 = some (.long (7102839)) := by decide +kernel
theorem zMs_92 : zMs[92]? = some mX11_token := rfl
theorem zV_11_84 : zV 11 84 = some (0, [(11, 92, 0, [827, 829, 23, 60])]) := by decide +kernel
theorem zMs_99 : zMs[99]? = some mX11_figure := rfl
theorem zV_11_87 : zV 11 87 = some (2, [(11, 99, 0, [859, 861, 29, 60])]) := by decide +kernel
theorem zF_11_20 : zF 11 20 = some (3, 5, true, [11]) := by decide +kernel
theorem hr_87_5 {b : Bool} : rg b 87 5 = some 90 := by cases b <;> decide +kernel
theorem hz_90 {i : Int32} : zin sg 90 20 i = vp_in i 49 := zin_at (by decide +kernel) (by decide +kernel)
theorem zMs_98 : zMs[98]? = some mX11_number := rfl
theorem zV_11_91 : zV 11 91 = some (2, [(11, 98, 0, [855, 857, 28, 60])]) := by decide +kernel
theorem zMs_97 : zMs[97]? = some mX11_readsPlace := rfl
theorem zV_11_94 : zV 11 94 = some (0, [(11, 97, 0, [851, 853, 27, 60])]) := by decide +kernel
theorem zMs_100 : zMs[100]? = some mX11_readsSeeker := rfl
theorem zV_11_98 : zV 11 98 = some (0, [(11, 100, 0, [863, 865, 30, 60])]) := by decide +kernel
theorem zMs_101 : zMs[101]? = some mX11_once := rfl
theorem zV_11_101 : zV 11 101 = some (3, [(11, 101, 0, [867, 869, 31, 60])]) := by decide +kernel
theorem zMs_95 : zMs[95]? = some mX11_verb := rfl
theorem zV_11_104 : zV 11 104 = some (0, [(11, 95, 0, [838, 840, 25, 60])]) := by decide +kernel
theorem zMs_96 : zMs[96]? = some mX11_readsItem := rfl
theorem zV_11_108 : zV 11 108 = some (1, [(11, 96, 0, [847, 849, 26, 60])]) := by decide +kernel
theorem zMs_91 : zMs[91]? = some mX11_reads := rfl
theorem zV_11_112 : zV 11 112 = some (0, [(11, 91, 0, [823, 825, 22, 60])]) := by decide +kernel
theorem zF_11_23 : zF 11 23 = some (3, 6, true, [11]) := by decide +kernel
theorem hr_87_6 {b : Bool} : rg b 87 6 = some 91 := by cases b <;> decide +kernel
theorem hz_91 {i : Int32} : zin sg 91 20 i = vp_in i 36 := zin_at (by decide +kernel) (by decide +kernel)
theorem zF_11_29 : zF 11 29 = some (3, 8, true, [11]) := by decide +kernel
theorem hr_87_8 {b : Bool} : rg b 87 8 = some 93 := by cases b <;> decide +kernel
theorem hz_93 {i : Int32} : zin sg 93 21 i = vp_in i 2 := zin_at (by decide +kernel) (by decide +kernel)
theorem zMs_103 : zMs[103]? = some mX11_isPlace := rfl
theorem zV_11_115 : zV 11 115 = some (1, [(11, 103, 0, [875, 877, 32, 60])]) := by decide +kernel
theorem zMs_104 : zMs[104]? = some mX11_noWorse := rfl
theorem zV_11_118 : zV 11 118 = some (1, [(11, 104, 0, [879, 881, 33, 60])]) := by decide +kernel
theorem zMs_106 : zMs[106]? = some mX11_isSeeker := rfl
theorem zV_11_121 : zV 11 121 = some (1, [(11, 106, 0, [887, 889, 34, 60])]) := by decide +kernel
theorem zF_11_124 : zF 11 124 = some (0, 13, false, [11]) := by decide +kernel
theorem zF_11_33 : zF 11 33 = some (3, 14, true, [11]) := by decide +kernel
theorem hr_87_14 {b : Bool} : rg b 87 14 = some 94 := by cases b <;> decide +kernel
theorem hz_94 {i : Int32} : zin sg 94 20 i = vp_in i 4 := zin_at (by decide +kernel) (by decide +kernel)
theorem zF_11_7 : zF 11 7 = some (0, 1, false, [11]) := by decide +kernel
theorem zK_11_127 : zK 11 127 = some (.int (1103515245)) := by decide +kernel
theorem zF_11_128 : zF 11 128 = some (0, 16, false, [11]) := by decide +kernel
theorem zMs_111 : zMs[111]? = some mX11_ones := rfl
theorem zS_11_131 : zS 11 131 = some (1, 111) := by decide +kernel
theorem zMs_112 : zMs[112]? = some mX11_drawn := rfl
theorem zV_11_134 : zV 11 134 = some (1, [(11, 112, 0, [910, 912, 36, 60])]) := by decide +kernel
theorem zMs_113 : zMs[113]? = some mX11_member := rfl
theorem zS_11_137 : zS 11 137 = some (2, 113) := by decide +kernel
theorem zF_11_140 : zF 11 140 = some (0, 15, false, [11]) := by decide +kernel
theorem zMs_117 : zMs[117]? = some mX11_finds := rfl
theorem zV_11_143 : zV 11 143 = some (1, [(11, 117, 0, [930, 932, 39, 60])]) := by decide +kernel
theorem zMs_110 : zMs[110]? = some mX11_hides := rfl
theorem zV_11_146 : zV 11 146 = some (0, [(11, 110, 0, [903, 905, 35, 60])]) := by decide +kernel
theorem zMs_115 : zMs[115]? = some mX11_starts := rfl
theorem zV_11_149 : zV 11 149 = some (2, [(11, 115, 0, [922, 924, 37, 60])]) := by decide +kernel
theorem zMs_116 : zMs[116]? = some mX11_plays := rfl
theorem zV_11_153 : zV 11 153 = some (0, [(11, 116, 0, [926, 928, 38, 60])]) := by decide +kernel
theorem zMs_121 : zMs[121]? = some mX11_firstWeek := rfl
theorem zV_11_156 : zV 11 156 = some (1, [(11, 121, 0, [946, 948, 40, 60])]) := by decide +kernel
theorem zMs_129 : zMs[129]? = some mX11_divisor := rfl
theorem zS_11_159 : zS 11 159 = some (2, 129) := by decide +kernel
theorem zMs_127 : zMs[127]? = some mX11_isAt := rfl
theorem zV_11_163 : zV 11 163 = some (1, [(11, 127, 0, [972, 974, 44, 60])]) := by decide +kernel
theorem zF_11_40 : zF 11 40 = some (3, 18, true, [11]) := by decide +kernel
theorem hr_87_18 {b : Bool} : rg b 87 18 = some 96 := by cases b <;> decide +kernel
theorem zMs_124 : zMs[124]? = some mX11_state := rfl
theorem zV_11_167 : zV 11 167 = some (0, [(11, 124, 0, [960, 962, 41, 60])]) := by decide +kernel
theorem hz_96 {i : Int32} : zin sg 96 22 i = vp_in i 3750 := zin_at (by decide +kernel) (by decide +kernel)
theorem zF_11_36 : zF 11 36 = some (3, 17, true, [11]) := by decide +kernel
theorem hr_87_17 {b : Bool} : rg b 87 17 = some 95 := by cases b <;> decide +kernel
theorem hz_95 {i : Int32} : zin sg 95 22 i = vp_in i 3750 := zin_at (by decide +kernel) (by decide +kernel)
theorem zMs_126 : zMs[126]? = some mX11_spreads := rfl
theorem zV_11_170 : zV 11 170 = some (2, [(11, 126, 0, [968, 970, 43, 60])]) := by decide +kernel
theorem zK_11_174 : zK 11 174 = some (.long (-1)) := by decide +kernel
theorem zK_11_176 : zK 11 176 = some (.long (167961600000000)) := by decide +kernel
theorem zMs_125 : zMs[125]? = some mX11_spreadsAll := rfl
theorem zV_11_178 : zV 11 178 = some (1, [(11, 125, 0, [964, 966, 42, 60])]) := by decide +kernel
theorem zMs_128 : zMs[128]? = some mX11_part := rfl
theorem zS_11_181 : zS 11 181 = some (3, 128) := by decide +kernel
theorem zMs_131 : zMs[131]? = some mX11_allHard := rfl
theorem zV_11_185 : zV 11 185 = some (0, [(11, 131, 0, [986, 988, 45, 60])]) := by decide +kernel
theorem zMs_133 : zMs[133]? = some mX11_rank := rfl
theorem zV_11_188 : zV 11 188 = some (1, [(11, 133, 0, [994, 996, 46, 60])]) := by decide +kernel
theorem zMs_138 : zMs[138]? = some mX11_began := rfl
theorem zV_11_191 : zV 11 191 = some (1, [(11, 138, 0, [1014, 1016, 47, 60])]) := by decide +kernel
theorem zK_11_194 : zK 11 194 = some (.int (-1000000)) := by decide +kernel
theorem zF_11_195 : zF 11 195 = some (2, 0, false, [11]) := by decide +kernel
theorem zK_11_199 : zK 11 199 = some (.long (11)) := by decide +kernel
theorem zK_11_201 : zK 11 201 = some (.long (101)) := by decide +kernel
theorem zK_11_203 : zK 11 203 = some (.long (1011)) := by decide +kernel
theorem zK_11_205 : zK 11 205 = some (.long (10101)) := by decide +kernel
theorem zK_11_207 : zK 11 207 = some (.long (100001)) := by decide +kernel
theorem zF_11_26 : zF 11 26 = some (3, 7, true, [11]) := by decide +kernel
theorem hr_87_7 {b : Bool} : rg b 87 7 = some 92 := by cases b <;> decide +kernel
theorem hz_92 {i : Int32} : zin sg 92 20 i = vp_in i 72 := zin_at (by decide +kernel) (by decide +kernel)
theorem zF_11_43 : zF 11 43 = some (3, 19, true, [11]) := by decide +kernel
theorem hr_87_19 {b : Bool} : rg b 87 19 = some 97 := by cases b <;> decide +kernel
theorem hz_97 {i : Int32} : zin sg 97 20 i = vp_in i 2 := zin_at (by decide +kernel) (by decide +kernel)
theorem zK_22_265 : zK 22 265 = some (.int (1431655765)) := by decide +kernel
theorem zK_22_266 : zK 22 266 = some (.int (858993459)) := by decide +kernel
theorem zK_22_267 : zK 22 267 = some (.int (252645135)) := by decide +kernel
theorem zMs_145 : zMs[145]? = some mJ0_coder_7d493 := rfl
theorem zV_20_335 : zV 20 335 = some (0, [(20, 145, 0, [390, 391, 392, 61])]) := by decide +kernel
theorem zMs_147 : zMs[147]? = some mJ0_isLatin1_aae02 := rfl
theorem zV_20_492 : zV 20 492 = some (0, [(20, 147, 0, [400, 401, 402, 61])]) := by decide +kernel
theorem zMs_149 : zMs[149]? = some mJ1_charAt_3b067 := rfl
theorem zS_20_495 : zS 20 495 = some (2, 149) := by decide +kernel
theorem zMs_153 : zMs[153]? = some mJ3_checkIndex_8e157 := rfl
theorem zS_20_1059 : zS 20 1059 = some (3, 153) := by decide +kernel
theorem zMs_148 : zMs[148]? = some mJ0_checkIndex_df160 := rfl
theorem zS_21_9 : zS 21 9 = some (2, 148) := by decide +kernel
