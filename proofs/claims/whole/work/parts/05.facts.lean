/-! THE TABLES, THE SHAPES: by program -/
set_option maxRecDepth 100000 in
def shC : List zSh := [(3, 8, [some 1, some 28, none, some 55, some 61, none, some 98, some 100, some 105, some 112, some 116, some 123, some 128]), (3, 7, [none, none, none, none, none, some 2, some 3, some 9, some 10, some 15, some 22, some 26, some 27]), (0, 6, []), (3, 2, [some 4, some 5, some 6, some 7, some 8, none, none, none]), (0, 64, []), (0, 64, []), (0, 6, []), (0, 6, []), (0, 6, []), (0, 150, []), (3, 6, [some 11, some 12, some 13, some 14, none]), (0, 360, []), (0, 6, []), (0, 6, []), (0, 6, []), (3, 1, [some 16, none, some 17, some 18, some 19, some 20, none, none, some 21]), (0, 400, []), (0, 16, []), (0, 16, []), (0, 16, []), (0, 16, []), (0, 64, []), (3, 3, [some 23, none, some 24, some 25, none]), (0, 8, []), (0, 10, []), (0, 10, []), (0, 6, []), (0, 64, []), (3, 7, [none, none, none, none, none, some 29, some 30, some 36, some 37, some 42, some 49, some 53, some 54]), (0, 6, []), (3, 2, [some 31, some 32, some 33, some 34, some 35, none, none, none]), (0, 64, []), (0, 64, []), (0, 6, []), (0, 6, []), (0, 6, []), (0, 150, []), (3, 6, [some 38, some 39, some 40, some 41, none]), (0, 360, []), (0, 6, []), (0, 6, []), (0, 6, []), (3, 1, [some 43, none, some 44, some 45, some 46, some 47, none, none, some 48]), (0, 400, []), (0, 16, []), (0, 16, []), (0, 16, []), (0, 16, []), (0, 64, []), (3, 3, [some 50, none, some 51, some 52, none]), (0, 8, []), (0, 10, []), (0, 10, []), (0, 6, []), (0, 64, []), (3, 2, [some 56, some 57, some 58, some 59, some 60, none, none, none]), (0, 64, []), (0, 64, []), (0, 6, []), (0, 6, []), (0, 6, []), (2, 6, []), (3, 2, [some 63, some 64, some 65, some 66, some 67, none, none, none]), (0, 64, []), (0, 64, []), (0, 6, []), (0, 6, []), (0, 6, []), (3, 2, [some 69, some 70, some 71, some 72, some 73, none, none, none]), (0, 64, []), (0, 64, []), (0, 6, []), (0, 6, []), (0, 6, []), (3, 2, [some 75, some 76, some 77, some 78, some 79, none, none, none]), (0, 64, []), (0, 64, []), (0, 6, []), (0, 6, []), (0, 6, []), (3, 2, [some 81, some 82, some 83, some 84, some 85, none, none, none]), (0, 64, []), (0, 64, []), (0, 6, []), (0, 6, []), (0, 6, []), (3, 2, [some 87, some 88, some 89, some 90, some 91, none, none, none]), (0, 64, []), (0, 64, []), (0, 6, []), (0, 6, []), (0, 6, []), (3, 2, [some 93, some 94, some 95, some 96, some 97, none, none, none]), (0, 64, []), (0, 64, []), (0, 6, []), (0, 6, []), (0, 6, []), (3, 5, [some 99, none, none, none, none, none, none, none]), (0, 400, []), (3, 6, [some 101, some 102, some 103, some 104, none]), (0, 360, []), (0, 6, []), (0, 6, []), (0, 6, []), (3, 1, [some 106, none, some 107, some 108, some 109, some 110, none, none, some 111]), (0, 400, []), (0, 16, []), (0, 16, []), (0, 16, []), (0, 16, []), (0, 64, []), (3, 3, [some 113, none, some 114, some 115, none]), (0, 8, []), (0, 10, []), (0, 10, []), (3, 4, [some 117, none, some 118, none, some 119, some 120, some 121, some 122]), (0, 9, []), (0, 4608, []), (0, 6, []), (0, 512, []), (0, 512, []), (0, 512, []), (3, 0, [some 124, some 125, some 126, some 127, none]), (0, 256, []), (0, 64, []), (0, 128, []), (0, 128, []), (0, 10, [])]
set_option maxRecDepth 100000 in
theorem shC_len : shC.length = 129 := rfl
theorem shC_0 : shC[0]? = some (3, 8, [some 1, some 28, none, some 55, some 61, none, some 98, some 100, some 105, some 112, some 116, some 123, some 128]) := rfl
theorem shC_1 : shC[1]? = some (3, 7, [none, none, none, none, none, some 2, some 3, some 9, some 10, some 15, some 22, some 26, some 27]) := rfl
theorem shC_2 : shC[2]? = some (0, 6, []) := rfl
theorem shC_3 : shC[3]? = some (3, 2, [some 4, some 5, some 6, some 7, some 8, none, none, none]) := rfl
theorem shC_4 : shC[4]? = some (0, 64, []) := rfl
theorem shC_5 : shC[5]? = some (0, 64, []) := rfl
theorem shC_6 : shC[6]? = some (0, 6, []) := rfl
theorem shC_7 : shC[7]? = some (0, 6, []) := rfl
theorem shC_8 : shC[8]? = some (0, 6, []) := rfl
theorem shC_9 : shC[9]? = some (0, 150, []) := rfl
theorem shC_10 : shC[10]? = some (3, 6, [some 11, some 12, some 13, some 14, none]) := rfl
theorem shC_11 : shC[11]? = some (0, 360, []) := rfl
theorem shC_12 : shC[12]? = some (0, 6, []) := rfl
theorem shC_13 : shC[13]? = some (0, 6, []) := rfl
theorem shC_14 : shC[14]? = some (0, 6, []) := rfl
theorem shC_15 : shC[15]? = some (3, 1, [some 16, none, some 17, some 18, some 19, some 20, none, none, some 21]) := rfl
theorem shC_16 : shC[16]? = some (0, 400, []) := rfl
theorem shC_17 : shC[17]? = some (0, 16, []) := rfl
theorem shC_18 : shC[18]? = some (0, 16, []) := rfl
theorem shC_19 : shC[19]? = some (0, 16, []) := rfl
theorem shC_20 : shC[20]? = some (0, 16, []) := rfl
theorem shC_21 : shC[21]? = some (0, 64, []) := rfl
theorem shC_22 : shC[22]? = some (3, 3, [some 23, none, some 24, some 25, none]) := rfl
theorem shC_23 : shC[23]? = some (0, 8, []) := rfl
theorem shC_24 : shC[24]? = some (0, 10, []) := rfl
theorem shC_25 : shC[25]? = some (0, 10, []) := rfl
theorem shC_26 : shC[26]? = some (0, 6, []) := rfl
theorem shC_27 : shC[27]? = some (0, 64, []) := rfl
theorem shC_28 : shC[28]? = some (3, 7, [none, none, none, none, none, some 29, some 30, some 36, some 37, some 42, some 49, some 53, some 54]) := rfl
theorem shC_29 : shC[29]? = some (0, 6, []) := rfl
theorem shC_30 : shC[30]? = some (3, 2, [some 31, some 32, some 33, some 34, some 35, none, none, none]) := rfl
theorem shC_31 : shC[31]? = some (0, 64, []) := rfl
theorem shC_32 : shC[32]? = some (0, 64, []) := rfl
theorem shC_33 : shC[33]? = some (0, 6, []) := rfl
theorem shC_34 : shC[34]? = some (0, 6, []) := rfl
theorem shC_35 : shC[35]? = some (0, 6, []) := rfl
theorem shC_36 : shC[36]? = some (0, 150, []) := rfl
theorem shC_37 : shC[37]? = some (3, 6, [some 38, some 39, some 40, some 41, none]) := rfl
theorem shC_38 : shC[38]? = some (0, 360, []) := rfl
theorem shC_39 : shC[39]? = some (0, 6, []) := rfl
theorem shC_40 : shC[40]? = some (0, 6, []) := rfl
theorem shC_41 : shC[41]? = some (0, 6, []) := rfl
theorem shC_42 : shC[42]? = some (3, 1, [some 43, none, some 44, some 45, some 46, some 47, none, none, some 48]) := rfl
theorem shC_43 : shC[43]? = some (0, 400, []) := rfl
theorem shC_44 : shC[44]? = some (0, 16, []) := rfl
theorem shC_45 : shC[45]? = some (0, 16, []) := rfl
theorem shC_46 : shC[46]? = some (0, 16, []) := rfl
theorem shC_47 : shC[47]? = some (0, 16, []) := rfl
theorem shC_48 : shC[48]? = some (0, 64, []) := rfl
theorem shC_49 : shC[49]? = some (3, 3, [some 50, none, some 51, some 52, none]) := rfl
theorem shC_50 : shC[50]? = some (0, 8, []) := rfl
theorem shC_51 : shC[51]? = some (0, 10, []) := rfl
theorem shC_52 : shC[52]? = some (0, 10, []) := rfl
theorem shC_53 : shC[53]? = some (0, 6, []) := rfl
theorem shC_54 : shC[54]? = some (0, 64, []) := rfl
theorem shC_55 : shC[55]? = some (3, 2, [some 56, some 57, some 58, some 59, some 60, none, none, none]) := rfl
theorem shC_56 : shC[56]? = some (0, 64, []) := rfl
theorem shC_57 : shC[57]? = some (0, 64, []) := rfl
theorem shC_58 : shC[58]? = some (0, 6, []) := rfl
theorem shC_59 : shC[59]? = some (0, 6, []) := rfl
theorem shC_60 : shC[60]? = some (0, 6, []) := rfl
theorem shC_61 : shC[61]? = some (2, 6, []) := rfl
theorem shC_62 : shC[62]? = some (3, 2, [some 63, some 64, some 65, some 66, some 67, none, none, none]) := rfl
theorem shC_63 : shC[63]? = some (0, 64, []) := rfl
theorem shC_64 : shC[64]? = some (0, 64, []) := rfl
theorem shC_65 : shC[65]? = some (0, 6, []) := rfl
theorem shC_66 : shC[66]? = some (0, 6, []) := rfl
theorem shC_67 : shC[67]? = some (0, 6, []) := rfl
theorem shC_68 : shC[68]? = some (3, 2, [some 69, some 70, some 71, some 72, some 73, none, none, none]) := rfl
theorem shC_69 : shC[69]? = some (0, 64, []) := rfl
theorem shC_70 : shC[70]? = some (0, 64, []) := rfl
theorem shC_71 : shC[71]? = some (0, 6, []) := rfl
theorem shC_72 : shC[72]? = some (0, 6, []) := rfl
theorem shC_73 : shC[73]? = some (0, 6, []) := rfl
theorem shC_74 : shC[74]? = some (3, 2, [some 75, some 76, some 77, some 78, some 79, none, none, none]) := rfl
theorem shC_75 : shC[75]? = some (0, 64, []) := rfl
theorem shC_76 : shC[76]? = some (0, 64, []) := rfl
theorem shC_77 : shC[77]? = some (0, 6, []) := rfl
theorem shC_78 : shC[78]? = some (0, 6, []) := rfl
theorem shC_79 : shC[79]? = some (0, 6, []) := rfl
theorem shC_80 : shC[80]? = some (3, 2, [some 81, some 82, some 83, some 84, some 85, none, none, none]) := rfl
theorem shC_81 : shC[81]? = some (0, 64, []) := rfl
theorem shC_82 : shC[82]? = some (0, 64, []) := rfl
theorem shC_83 : shC[83]? = some (0, 6, []) := rfl
theorem shC_84 : shC[84]? = some (0, 6, []) := rfl
theorem shC_85 : shC[85]? = some (0, 6, []) := rfl
theorem shC_86 : shC[86]? = some (3, 2, [some 87, some 88, some 89, some 90, some 91, none, none, none]) := rfl
theorem shC_87 : shC[87]? = some (0, 64, []) := rfl
theorem shC_88 : shC[88]? = some (0, 64, []) := rfl
theorem shC_89 : shC[89]? = some (0, 6, []) := rfl
theorem shC_90 : shC[90]? = some (0, 6, []) := rfl
theorem shC_91 : shC[91]? = some (0, 6, []) := rfl
theorem shC_92 : shC[92]? = some (3, 2, [some 93, some 94, some 95, some 96, some 97, none, none, none]) := rfl
theorem shC_93 : shC[93]? = some (0, 64, []) := rfl
theorem shC_94 : shC[94]? = some (0, 64, []) := rfl
theorem shC_95 : shC[95]? = some (0, 6, []) := rfl
theorem shC_96 : shC[96]? = some (0, 6, []) := rfl
theorem shC_97 : shC[97]? = some (0, 6, []) := rfl
theorem shC_98 : shC[98]? = some (3, 5, [some 99, none, none, none, none, none, none, none]) := rfl
theorem shC_99 : shC[99]? = some (0, 400, []) := rfl
theorem shC_100 : shC[100]? = some (3, 6, [some 101, some 102, some 103, some 104, none]) := rfl
theorem shC_101 : shC[101]? = some (0, 360, []) := rfl
theorem shC_102 : shC[102]? = some (0, 6, []) := rfl
theorem shC_103 : shC[103]? = some (0, 6, []) := rfl
theorem shC_104 : shC[104]? = some (0, 6, []) := rfl
theorem shC_105 : shC[105]? = some (3, 1, [some 106, none, some 107, some 108, some 109, some 110, none, none, some 111]) := rfl
theorem shC_106 : shC[106]? = some (0, 400, []) := rfl
theorem shC_107 : shC[107]? = some (0, 16, []) := rfl
theorem shC_108 : shC[108]? = some (0, 16, []) := rfl
theorem shC_109 : shC[109]? = some (0, 16, []) := rfl
theorem shC_110 : shC[110]? = some (0, 16, []) := rfl
theorem shC_111 : shC[111]? = some (0, 64, []) := rfl
theorem shC_112 : shC[112]? = some (3, 3, [some 113, none, some 114, some 115, none]) := rfl
theorem shC_113 : shC[113]? = some (0, 8, []) := rfl
theorem shC_114 : shC[114]? = some (0, 10, []) := rfl
theorem shC_115 : shC[115]? = some (0, 10, []) := rfl
theorem shC_116 : shC[116]? = some (3, 4, [some 117, none, some 118, none, some 119, some 120, some 121, some 122]) := rfl
theorem shC_117 : shC[117]? = some (0, 9, []) := rfl
theorem shC_118 : shC[118]? = some (0, 4608, []) := rfl
theorem shC_119 : shC[119]? = some (0, 6, []) := rfl
theorem shC_120 : shC[120]? = some (0, 512, []) := rfl
theorem shC_121 : shC[121]? = some (0, 512, []) := rfl
theorem shC_122 : shC[122]? = some (0, 512, []) := rfl
theorem shC_123 : shC[123]? = some (3, 0, [some 124, some 125, some 126, some 127, none]) := rfl
theorem shC_124 : shC[124]? = some (0, 256, []) := rfl
theorem shC_125 : shC[125]? = some (0, 64, []) := rfl
theorem shC_126 : shC[126]? = some (0, 128, []) := rfl
theorem shC_127 : shC[127]? = some (0, 128, []) := rfl
theorem shC_128 : shC[128]? = some (0, 10, []) := rfl
set_option maxRecDepth 100000 in
def shM : List zSh := [(3, 9, [some 1, some 2, some 3, some 4, none, none, some 5, some 6, some 7, some 8, some 9, some 10, some 11, some 12, some 13, some 14, none, none, none, none, none, none, none, none, none, none, none, none, none, none, none, none, none, none, some 15, some 16, some 17, some 18, none, some 19, some 20, some 21, some 22, some 23, some 24, none, some 25]), (0, 2200, []), (0, 2200, []), (0, 900, []), (0, 150, []), (0, 64, []), (0, 820, []), (0, 360, []), (0, 6, []), (0, 6, []), (0, 8, []), (0, 20, []), (0, 400, []), (0, 420, []), (0, 7, []), (0, 64, []), (0, 9, []), (0, 4608, []), (0, 3072, []), (1, 3584, []), (0, 6, []), (0, 128, []), (0, 128, []), (1, 64, []), (1, 256, []), (0, 10, [])]
set_option maxRecDepth 100000 in
theorem shM_len : shM.length = 26 := rfl
theorem shM_0 : shM[0]? = some (3, 9, [some 1, some 2, some 3, some 4, none, none, some 5, some 6, some 7, some 8, some 9, some 10, some 11, some 12, some 13, some 14, none, none, none, none, none, none, none, none, none, none, none, none, none, none, none, none, none, none, some 15, some 16, some 17, some 18, none, some 19, some 20, some 21, some 22, some 23, some 24, none, some 25]) := rfl
theorem shM_1 : shM[1]? = some (0, 2200, []) := rfl
theorem shM_2 : shM[2]? = some (0, 2200, []) := rfl
theorem shM_3 : shM[3]? = some (0, 900, []) := rfl
theorem shM_4 : shM[4]? = some (0, 150, []) := rfl
theorem shM_5 : shM[5]? = some (0, 64, []) := rfl
theorem shM_6 : shM[6]? = some (0, 820, []) := rfl
theorem shM_7 : shM[7]? = some (0, 360, []) := rfl
theorem shM_8 : shM[8]? = some (0, 6, []) := rfl
theorem shM_9 : shM[9]? = some (0, 6, []) := rfl
theorem shM_10 : shM[10]? = some (0, 8, []) := rfl
theorem shM_11 : shM[11]? = some (0, 20, []) := rfl
theorem shM_12 : shM[12]? = some (0, 400, []) := rfl
theorem shM_13 : shM[13]? = some (0, 420, []) := rfl
theorem shM_14 : shM[14]? = some (0, 7, []) := rfl
theorem shM_15 : shM[15]? = some (0, 64, []) := rfl
theorem shM_16 : shM[16]? = some (0, 9, []) := rfl
theorem shM_17 : shM[17]? = some (0, 4608, []) := rfl
theorem shM_18 : shM[18]? = some (0, 3072, []) := rfl
theorem shM_19 : shM[19]? = some (1, 3584, []) := rfl
theorem shM_20 : shM[20]? = some (0, 6, []) := rfl
theorem shM_21 : shM[21]? = some (0, 128, []) := rfl
theorem shM_22 : shM[22]? = some (0, 128, []) := rfl
theorem shM_23 : shM[23]? = some (1, 64, []) := rfl
theorem shM_24 : shM[24]? = some (1, 256, []) := rfl
theorem shM_25 : shM[25]? = some (0, 10, []) := rfl
abbrev mX0_init : zMi := (yX0_init, cX0_init, 1, none)
abbrev mX0_between : zMi := (yX0_between, cX0_between, 6, some .int)
theorem okX0_between : zOkV mX0_between 3 := ⟨⟨zat 1123 (by decide +kernel) rfl, zat 128 (by decide +kernel) rfl, ⟨by decide +kernel, by decide +kernel⟩, by decide +kernel, by decide +kernel⟩, zat 1121 (by decide +kernel) rfl, zat 1122 (by decide +kernel) rfl⟩
abbrev mX0_findsWay : zMi := (yX0_findsWay, cX0_findsWay, 5, some .boolean)
theorem okX0_findsWay : zOkV mX0_findsWay 3 := ⟨⟨zat 1128 (by decide +kernel) rfl, zat 128 (by decide +kernel) rfl, ⟨by decide +kernel, by decide +kernel⟩, by decide +kernel, by decide +kernel⟩, zat 1127 (by decide +kernel) rfl, zat 29 (by decide +kernel) rfl⟩
abbrev mX0_find : zMi := (yX0_find, cX0_find, 3, none)
theorem okX0_find : zOkV mX0_find 2 := ⟨⟨zat 1132 (by decide +kernel) rfl, zat 128 (by decide +kernel) rfl, ⟨by decide +kernel, by decide +kernel⟩, by decide +kernel, by decide +kernel⟩, zat 1131 (by decide +kernel) rfl, zat 30 (by decide +kernel) rfl⟩
abbrev mX0_leave : zMi := (yX0_leave, cX0_leave, 5, none)
theorem okX0_leave : zOkV mX0_leave 2 := ⟨⟨zat 1136 (by decide +kernel) rfl, zat 128 (by decide +kernel) rfl, ⟨by decide +kernel, by decide +kernel⟩, by decide +kernel, by decide +kernel⟩, zat 1135 (by decide +kernel) rfl, zat 31 (by decide +kernel) rfl⟩
abbrev mX0_enter : zMi := (yX0_enter, cX0_enter, 5, none)
theorem okX0_enter : zOkV mX0_enter 2 := ⟨⟨zat 1141 (by decide +kernel) rfl, zat 128 (by decide +kernel) rfl, ⟨by decide +kernel, by decide +kernel⟩, by decide +kernel, by decide +kernel⟩, zat 1140 (by decide +kernel) rfl, zat 32 (by decide +kernel) rfl⟩
abbrev mX0_back : zMi := (yX0_back, cX0_back, 1, some .int)
theorem okX0_back : zOkS mX0_back 1 := ⟨⟨zat 1144 (by decide +kernel) rfl, zat 128 (by decide +kernel) rfl, ⟨by decide +kernel, by decide +kernel⟩, by decide +kernel, by decide +kernel⟩, zat 1143 (by decide +kernel) rfl⟩
abbrev mX0_addWay : zMi := (yX0_addWay, cX0_addWay, 6, none)
theorem okX0_addWay : zOkV mX0_addWay 2 := ⟨⟨zat 1148 (by decide +kernel) rfl, zat 128 (by decide +kernel) rfl, ⟨by decide +kernel, by decide +kernel⟩, by decide +kernel, by decide +kernel⟩, zat 1147 (by decide +kernel) rfl, zat 33 (by decide +kernel) rfl⟩
abbrev mX0_turn : zMi := (yX0_turn, cX0_turn, 5, none)
theorem okX0_turn : zOkV mX0_turn 2 := ⟨⟨zat 1152 (by decide +kernel) rfl, zat 128 (by decide +kernel) rfl, ⟨by decide +kernel, by decide +kernel⟩, by decide +kernel, by decide +kernel⟩, zat 1151 (by decide +kernel) rfl, zat 34 (by decide +kernel) rfl⟩
abbrev mX0_direction : zMi := (yX0_direction, cX0_direction, 2, some .int)
theorem okX0_direction : zOkS mX0_direction 2 := ⟨⟨zat 1155 (by decide +kernel) rfl, zat 128 (by decide +kernel) rfl, ⟨by decide +kernel, by decide +kernel⟩, by decide +kernel, by decide +kernel⟩, zat 1154 (by decide +kernel) rfl⟩
abbrev mX1_init : zMi := (yX1_init, cX1_init, 1, none)
abbrev mX1_clear : zMi := (yX1_clear, cX1_clear, 1, none)
theorem okX1_clear : zOkV mX1_clear 0 := ⟨⟨zat 462 (by decide +kernel) rfl, zat 124 (by decide +kernel) rfl, ⟨by decide +kernel, by decide +kernel⟩, by decide +kernel, by decide +kernel⟩, zat 460 (by decide +kernel) rfl, zat 461 (by decide +kernel) rfl⟩
abbrev mX1_copy : zMi := (yX1_copy, cX1_copy, 2, none)
theorem okX1_copy : zOkV mX1_copy 1 := ⟨⟨zat 747 (by decide +kernel) rfl, zat 124 (by decide +kernel) rfl, ⟨by decide +kernel, by decide +kernel⟩, by decide +kernel, by decide +kernel⟩, zat 745 (by decide +kernel) rfl, zat 746 (by decide +kernel) rfl⟩
abbrev mX1_parse : zMi := (yX1_parse, cX1_parse, 3, some .boolean)
theorem okX1_parse : zOkV mX1_parse 1 := ⟨⟨zat 690 (by decide +kernel) rfl, zat 124 (by decide +kernel) rfl, ⟨by decide +kernel, by decide +kernel⟩, by decide +kernel, by decide +kernel⟩, zat 688 (by decide +kernel) rfl, zat 689 (by decide +kernel) rfl⟩
abbrev mX1_parseLine : zMi := (yX1_parseLine, cX1_parseLine, 3, some .boolean)
theorem okX1_parseLine : zOkV mX1_parseLine 1 := ⟨⟨zat 696 (by decide +kernel) rfl, zat 124 (by decide +kernel) rfl, ⟨by decide +kernel, by decide +kernel⟩, by decide +kernel, by decide +kernel⟩, zat 695 (by decide +kernel) rfl, zat 6 (by decide +kernel) rfl⟩
abbrev mX1_parseCondition : zMi := (yX1_parseCondition, cX1_parseCondition, 6, some .boolean)
theorem okX1_parseCondition : zOkV mX1_parseCondition 2 := ⟨⟨zat 733 (by decide +kernel) rfl, zat 124 (by decide +kernel) rfl, ⟨by decide +kernel, by decide +kernel⟩, by decide +kernel, by decide +kernel⟩, zat 732 (by decide +kernel) rfl, zat 10 (by decide +kernel) rfl⟩
abbrev mX1_parseClause : zMi := (yX1_parseClause, cX1_parseClause, 7, some .boolean)
theorem okX1_parseClause : zOkV mX1_parseClause 2 := ⟨⟨zat 737 (by decide +kernel) rfl, zat 124 (by decide +kernel) rfl, ⟨by decide +kernel, by decide +kernel⟩, by decide +kernel, by decide +kernel⟩, zat 736 (by decide +kernel) rfl, zat 11 (by decide +kernel) rfl⟩
abbrev mX1_comparisonTold : zMi := (yX1_comparisonTold, cX1_comparisonTold, 1, some .int)
theorem okX1_comparisonTold : zOkS mX1_comparisonTold 1 := ⟨⟨zat 741 (by decide +kernel) rfl, zat 124 (by decide +kernel) rfl, ⟨by decide +kernel, by decide +kernel⟩, by decide +kernel, by decide +kernel⟩, zat 740 (by decide +kernel) rfl⟩
abbrev mX1_parseSum : zMi := (yX1_parseSum, cX1_parseSum, 7, some .boolean)
theorem okX1_parseSum : zOkV mX1_parseSum 1 := ⟨⟨zat 705 (by decide +kernel) rfl, zat 124 (by decide +kernel) rfl, ⟨by decide +kernel, by decide +kernel⟩, by decide +kernel, by decide +kernel⟩, zat 704 (by decide +kernel) rfl, zat 7 (by decide +kernel) rfl⟩
abbrev mX1_factTold : zMi := (yX1_factTold, cX1_factTold, 1, some .int)
theorem okX1_factTold : zOkS mX1_factTold 1 := ⟨⟨zat 713 (by decide +kernel) rfl, zat 124 (by decide +kernel) rfl, ⟨by decide +kernel, by decide +kernel⟩, by decide +kernel, by decide +kernel⟩, zat 712 (by decide +kernel) rfl⟩
abbrev mX1_emit : zMi := (yX1_emit, cX1_emit, 3, none)
theorem okX1_emit : zOkV mX1_emit 2 := ⟨⟨zat 710 (by decide +kernel) rfl, zat 124 (by decide +kernel) rfl, ⟨by decide +kernel, by decide +kernel⟩, by decide +kernel, by decide +kernel⟩, zat 709 (by decide +kernel) rfl, zat 8 (by decide +kernel) rfl⟩
abbrev mX1_emitIf : zMi := (yX1_emitIf, cX1_emitIf, 3, none)
theorem okX1_emitIf : zOkV mX1_emitIf 2 := ⟨⟨zat 727 (by decide +kernel) rfl, zat 124 (by decide +kernel) rfl, ⟨by decide +kernel, by decide +kernel⟩, by decide +kernel, by decide +kernel⟩, zat 726 (by decide +kernel) rfl, zat 9 (by decide +kernel) rfl⟩
abbrev mX1_answer : zMi := (yX1_answer, cX1_answer, 6, some .int)
theorem okX1_answer : zOkV mX1_answer 3 := ⟨⟨zat 870 (by decide +kernel) rfl, zat 124 (by decide +kernel) rfl, ⟨by decide +kernel, by decide +kernel⟩, by decide +kernel, by decide +kernel⟩, zat 868 (by decide +kernel) rfl, zat 869 (by decide +kernel) rfl⟩
abbrev mX1_value : zMi := (yX1_value, cX1_value, 8, some .int)
theorem okX1_value : zOkV mX1_value 3 := ⟨⟨zat 874 (by decide +kernel) rfl, zat 124 (by decide +kernel) rfl, ⟨by decide +kernel, by decide +kernel⟩, by decide +kernel, by decide +kernel⟩, zat 873 (by decide +kernel) rfl, zat 19 (by decide +kernel) rfl⟩
abbrev mX1_joined : zMi := (yX1_joined, cX1_joined, 3, some .int)
theorem okX1_joined : zOkS mX1_joined 3 := ⟨⟨zat 877 (by decide +kernel) rfl, zat 124 (by decide +kernel) rfl, ⟨by decide +kernel, by decide +kernel⟩, by decide +kernel, by decide +kernel⟩, zat 876 (by decide +kernel) rfl⟩
abbrev mX2_init : zMi := (yX2_init, cX2_init, 1, none)
abbrev mX2_clear : zMi := (yX2_clear, cX2_clear, 1, none)
theorem okX2_clear : zOkV mX2_clear 0 := ⟨⟨zat 450 (by decide +kernel) rfl, zat 122 (by decide +kernel) rfl, ⟨by decide +kernel, by decide +kernel⟩, by decide +kernel, by decide +kernel⟩, zat 448 (by decide +kernel) rfl, zat 449 (by decide +kernel) rfl⟩
abbrev mX2_copy : zMi := (yX2_copy, cX2_copy, 2, none)
theorem okX2_copy : zOkV mX2_copy 1 := ⟨⟨zat 802 (by decide +kernel) rfl, zat 122 (by decide +kernel) rfl, ⟨by decide +kernel, by decide +kernel⟩, by decide +kernel, by decide +kernel⟩, zat 800 (by decide +kernel) rfl, zat 801 (by decide +kernel) rfl⟩
abbrev mX2_drawOf1000 : zMi := (yX2_drawOf1000, cX2_drawOf1000, 1, some .int)
theorem okX2_drawOf1000 : zOkV mX2_drawOf1000 0 := ⟨⟨zat 811 (by decide +kernel) rfl, zat 122 (by decide +kernel) rfl, ⟨by decide +kernel, by decide +kernel⟩, by decide +kernel, by decide +kernel⟩, zat 809 (by decide +kernel) rfl, zat 810 (by decide +kernel) rfl⟩
abbrev mX3_init : zMi := (yX3_init, cX3_init, 1, none)
abbrev mX3_clear : zMi := (yX3_clear, cX3_clear, 1, none)
theorem okX3_clear : zOkV mX3_clear 0 := ⟨⟨zat 466 (by decide +kernel) rfl, zat 125 (by decide +kernel) rfl, ⟨by decide +kernel, by decide +kernel⟩, by decide +kernel, by decide +kernel⟩, zat 464 (by decide +kernel) rfl, zat 465 (by decide +kernel) rfl⟩
abbrev mX3_copy : zMi := (yX3_copy, cX3_copy, 2, none)
theorem okX3_copy : zOkV mX3_copy 1 := ⟨⟨zat 768 (by decide +kernel) rfl, zat 125 (by decide +kernel) rfl, ⟨by decide +kernel, by decide +kernel⟩, by decide +kernel, by decide +kernel⟩, zat 766 (by decide +kernel) rfl, zat 767 (by decide +kernel) rfl⟩
abbrev mX3_isLetter : zMi := (yX3_isLetter, cX3_isLetter, 2, some .boolean)
theorem okX3_isLetter : zOkV mX3_isLetter 1 := ⟨⟨zat 923 (by decide +kernel) rfl, zat 125 (by decide +kernel) rfl, ⟨by decide +kernel, by decide +kernel⟩, by decide +kernel, by decide +kernel⟩, zat 921 (by decide +kernel) rfl, zat 922 (by decide +kernel) rfl⟩
abbrev mX3_isWant : zMi := (yX3_isWant, cX3_isWant, 2, some .boolean)
theorem okX3_isWant : zOkV mX3_isWant 1 := ⟨⟨zat 931 (by decide +kernel) rfl, zat 125 (by decide +kernel) rfl, ⟨by decide +kernel, by decide +kernel⟩, by decide +kernel, by decide +kernel⟩, zat 929 (by decide +kernel) rfl, zat 930 (by decide +kernel) rfl⟩
abbrev mX3_allLetters : zMi := (yX3_allLetters, cX3_allLetters, 1, some .int)
theorem okX3_allLetters : zOkV mX3_allLetters 0 := ⟨⟨zat 1092 (by decide +kernel) rfl, zat 125 (by decide +kernel) rfl, ⟨by decide +kernel, by decide +kernel⟩, by decide +kernel, by decide +kernel⟩, zat 1090 (by decide +kernel) rfl, zat 1091 (by decide +kernel) rfl⟩
abbrev mX3_having : zMi := (yX3_having, cX3_having, 5, some .int)
theorem okX3_having : zOkV mX3_having 2 := ⟨⟨zat 1096 (by decide +kernel) rfl, zat 125 (by decide +kernel) rfl, ⟨by decide +kernel, by decide +kernel⟩, by decide +kernel, by decide +kernel⟩, zat 1094 (by decide +kernel) rfl, zat 1095 (by decide +kernel) rfl⟩
abbrev mX3_differ : zMi := (yX3_differ, cX3_differ, 6, some .boolean)
theorem okX3_differ : zOkV mX3_differ 2 := ⟨⟨zat 1113 (by decide +kernel) rfl, zat 125 (by decide +kernel) rfl, ⟨by decide +kernel, by decide +kernel⟩, by decide +kernel, by decide +kernel⟩, zat 1111 (by decide +kernel) rfl, zat 1112 (by decide +kernel) rfl⟩
abbrev mX3_parseLetters : zMi := (yX3_parseLetters, cX3_parseLetters, 3, some .boolean)
theorem okX3_parseLetters : zOkV mX3_parseLetters 1 := ⟨⟨zat 752 (by decide +kernel) rfl, zat 125 (by decide +kernel) rfl, ⟨by decide +kernel, by decide +kernel⟩, by decide +kernel, by decide +kernel⟩, zat 750 (by decide +kernel) rfl, zat 751 (by decide +kernel) rfl⟩
abbrev mX3_parseLetter : zMi := (yX3_parseLetter, cX3_parseLetter, 5, some .boolean)
theorem okX3_parseLetter : zOkV mX3_parseLetter 1 := ⟨⟨zat 758 (by decide +kernel) rfl, zat 125 (by decide +kernel) rfl, ⟨by decide +kernel, by decide +kernel⟩, by decide +kernel, by decide +kernel⟩, zat 757 (by decide +kernel) rfl, zat 12 (by decide +kernel) rfl⟩
abbrev mX3_parseWants : zMi := (yX3_parseWants, cX3_parseWants, 4, some .boolean)
theorem okX3_parseWants : zOkV mX3_parseWants 2 := ⟨⟨zat 773 (by decide +kernel) rfl, zat 125 (by decide +kernel) rfl, ⟨by decide +kernel, by decide +kernel⟩, by decide +kernel, by decide +kernel⟩, zat 771 (by decide +kernel) rfl, zat 772 (by decide +kernel) rfl⟩
abbrev mX3_parseWant : zMi := (yX3_parseWant, cX3_parseWant, 5, some .boolean)
theorem okX3_parseWant : zOkV mX3_parseWant 2 := ⟨⟨zat 778 (by decide +kernel) rfl, zat 125 (by decide +kernel) rfl, ⟨by decide +kernel, by decide +kernel⟩, by decide +kernel, by decide +kernel⟩, zat 777 (by decide +kernel) rfl, zat 13 (by decide +kernel) rfl⟩
abbrev mX4_init : zMi := (yX4_init, cX4_init, 1, none)
abbrev mX4_take : zMi := (yX4_take, cX4_take, 4, some .boolean)
theorem okX4_take : zOkV mX4_take 1 := ⟨⟨zat 1003 (by decide +kernel) rfl, zat 127 (by decide +kernel) rfl, ⟨by decide +kernel, by decide +kernel⟩, by decide +kernel, by decide +kernel⟩, zat 1001 (by decide +kernel) rfl, zat 1002 (by decide +kernel) rfl⟩
abbrev mX4_all : zMi := (yX4_all, cX4_all, 1, some .int)
theorem okX4_all : zOkV mX4_all 0 := ⟨⟨zat 1017 (by decide +kernel) rfl, zat 127 (by decide +kernel) rfl, ⟨by decide +kernel, by decide +kernel⟩, by decide +kernel, by decide +kernel⟩, zat 1015 (by decide +kernel) rfl, zat 1016 (by decide +kernel) rfl⟩
abbrev mX4_fillTours : zMi := (yX4_fillTours, cX4_fillTours, 3, none)
theorem okX4_fillTours : zOkV mX4_fillTours 0 := ⟨⟨zat 1013 (by decide +kernel) rfl, zat 127 (by decide +kernel) rfl, ⟨by decide +kernel, by decide +kernel⟩, by decide +kernel, by decide +kernel⟩, zat 1012 (by decide +kernel) rfl, zat 22 (by decide +kernel) rfl⟩
abbrev mX4_lead : zMi := (yX4_lead, cX4_lead, 4, some .int)
theorem okX4_lead : zOkV mX4_lead 2 := ⟨⟨zat 1021 (by decide +kernel) rfl, zat 127 (by decide +kernel) rfl, ⟨by decide +kernel, by decide +kernel⟩, by decide +kernel, by decide +kernel⟩, zat 1019 (by decide +kernel) rfl, zat 1020 (by decide +kernel) rfl⟩
abbrev mX4_firstStop : zMi := (yX4_firstStop, cX4_firstStop, 7, some .int)
theorem okX4_firstStop : zOkV mX4_firstStop 2 := ⟨⟨zat 1025 (by decide +kernel) rfl, zat 127 (by decide +kernel) rfl, ⟨by decide +kernel, by decide +kernel⟩, by decide +kernel, by decide +kernel⟩, zat 1024 (by decide +kernel) rfl, zat 23 (by decide +kernel) rfl⟩
abbrev mX4_stop : zMi := (yX4_stop, cX4_stop, 7, some .int)
theorem okX4_stop : zOkV mX4_stop 2 := ⟨⟨zat 1038 (by decide +kernel) rfl, zat 127 (by decide +kernel) rfl, ⟨by decide +kernel, by decide +kernel⟩, by decide +kernel, by decide +kernel⟩, zat 1036 (by decide +kernel) rfl, zat 1037 (by decide +kernel) rfl⟩
abbrev mX4_begin : zMi := (yX4_begin, cX4_begin, 3, none)
theorem okX4_begin : zOkV mX4_begin 2 := ⟨⟨zat 1046 (by decide +kernel) rfl, zat 127 (by decide +kernel) rfl, ⟨by decide +kernel, by decide +kernel⟩, by decide +kernel, by decide +kernel⟩, zat 1044 (by decide +kernel) rfl, zat 1045 (by decide +kernel) rfl⟩
abbrev mX4_longest : zMi := (yX4_longest, cX4_longest, 3, some .int)
theorem okX4_longest : zOkV mX4_longest 0 := ⟨⟨zat 1052 (by decide +kernel) rfl, zat 127 (by decide +kernel) rfl, ⟨by decide +kernel, by decide +kernel⟩, by decide +kernel, by decide +kernel⟩, zat 1050 (by decide +kernel) rfl, zat 1051 (by decide +kernel) rfl⟩
abbrev mX4_taker : zMi := (yX4_taker, cX4_taker, 5, some .int)
theorem okX4_taker : zOkV mX4_taker 1 := ⟨⟨zat 1070 (by decide +kernel) rfl, zat 127 (by decide +kernel) rfl, ⟨by decide +kernel, by decide +kernel⟩, by decide +kernel, by decide +kernel⟩, zat 1068 (by decide +kernel) rfl, zat 1069 (by decide +kernel) rfl⟩
abbrev mX4_lastNeeded : zMi := (yX4_lastNeeded, cX4_lastNeeded, 2, some .int)
theorem okX4_lastNeeded : zOkV mX4_lastNeeded 1 := ⟨⟨zat 1061 (by decide +kernel) rfl, zat 127 (by decide +kernel) rfl, ⟨by decide +kernel, by decide +kernel⟩, by decide +kernel, by decide +kernel⟩, zat 1060 (by decide +kernel) rfl, zat 25 (by decide +kernel) rfl⟩
abbrev mX4_fillCosts : zMi := (yX4_fillCosts, cX4_fillCosts, 3, none)
theorem okX4_fillCosts : zOkV mX4_fillCosts 1 := ⟨⟨zat 1057 (by decide +kernel) rfl, zat 127 (by decide +kernel) rfl, ⟨by decide +kernel, by decide +kernel⟩, by decide +kernel, by decide +kernel⟩, zat 1056 (by decide +kernel) rfl, zat 24 (by decide +kernel) rfl⟩
abbrev mX4_fillDigits : zMi := (yX4_fillDigits, cX4_fillDigits, 4, none)
theorem okX4_fillDigits : zOkV mX4_fillDigits 0 := ⟨⟨zat 1075 (by decide +kernel) rfl, zat 127 (by decide +kernel) rfl, ⟨by decide +kernel, by decide +kernel⟩, by decide +kernel, by decide +kernel⟩, zat 1074 (by decide +kernel) rfl, zat 27 (by decide +kernel) rfl⟩
abbrev mX4_leastLongest : zMi := (yX4_leastLongest, cX4_leastLongest, 4, some .int)
theorem okX4_leastLongest : zOkV mX4_leastLongest 1 := ⟨⟨zat 1065 (by decide +kernel) rfl, zat 127 (by decide +kernel) rfl, ⟨by decide +kernel, by decide +kernel⟩, by decide +kernel, by decide +kernel⟩, zat 1064 (by decide +kernel) rfl, zat 26 (by decide +kernel) rfl⟩
abbrev mX4_leastTakers : zMi := (yX4_leastTakers, cX4_leastTakers, 6, some .int)
theorem okX4_leastTakers : zOkV mX4_leastTakers 3 := ⟨⟨zat 1079 (by decide +kernel) rfl, zat 127 (by decide +kernel) rfl, ⟨by decide +kernel, by decide +kernel⟩, by decide +kernel, by decide +kernel⟩, zat 1078 (by decide +kernel) rfl, zat 28 (by decide +kernel) rfl⟩
abbrev mX5_init : zMi := (yX5_init, cX5_init, 1, none)
abbrev mX5_put : zMi := (yX5_put, cX5_put, 3, none)
theorem okX5_put : zOkV mX5_put 1 := ⟨⟨zat 550 (by decide +kernel) rfl, zat 126 (by decide +kernel) rfl, ⟨by decide +kernel, by decide +kernel⟩, by decide +kernel, by decide +kernel⟩, zat 548 (by decide +kernel) rfl, zat 549 (by decide +kernel) rfl⟩
abbrev mX5_begin : zMi := (yX5_begin, cX5_begin, 1, none)
theorem okX5_begin : zOkV mX5_begin 0 := ⟨⟨zat 562 (by decide +kernel) rfl, zat 126 (by decide +kernel) rfl, ⟨by decide +kernel, by decide +kernel⟩, by decide +kernel, by decide +kernel⟩, zat 560 (by decide +kernel) rfl, zat 561 (by decide +kernel) rfl⟩
abbrev mX5_next : zMi := (yX5_next, cX5_next, 2, none)
theorem okX5_next : zOkV mX5_next 0 := ⟨⟨zat 566 (by decide +kernel) rfl, zat 126 (by decide +kernel) rfl, ⟨by decide +kernel, by decide +kernel⟩, by decide +kernel, by decide +kernel⟩, zat 564 (by decide +kernel) rfl, zat 565 (by decide +kernel) rfl⟩
abbrev mX5_kindOf : zMi := (yX5_kindOf, cX5_kindOf, 1, some .int)
theorem okX5_kindOf : zOkS mX5_kindOf 1 := ⟨⟨zat 569 (by decide +kernel) rfl, zat 126 (by decide +kernel) rfl, ⟨by decide +kernel, by decide +kernel⟩, by decide +kernel, by decide +kernel⟩, zat 568 (by decide +kernel) rfl⟩
abbrev mX5_isEnd : zMi := (yX5_isEnd, cX5_isEnd, 1, some .boolean)
theorem okX5_isEnd : zOkV mX5_isEnd 0 := ⟨⟨zat 578 (by decide +kernel) rfl, zat 126 (by decide +kernel) rfl, ⟨by decide +kernel, by decide +kernel⟩, by decide +kernel, by decide +kernel⟩, zat 576 (by decide +kernel) rfl, zat 577 (by decide +kernel) rfl⟩
abbrev mX5_isNumber : zMi := (yX5_isNumber, cX5_isNumber, 1, some .boolean)
theorem okX5_isNumber : zOkV mX5_isNumber 0 := ⟨⟨zat 723 (by decide +kernel) rfl, zat 126 (by decide +kernel) rfl, ⟨by decide +kernel, by decide +kernel⟩, by decide +kernel, by decide +kernel⟩, zat 721 (by decide +kernel) rfl, zat 722 (by decide +kernel) rfl⟩
abbrev mX5_isSign : zMi := (yX5_isSign, cX5_isSign, 2, some .boolean)
theorem okX5_isSign : zOkV mX5_isSign 1 := ⟨⟨zat 649 (by decide +kernel) rfl, zat 126 (by decide +kernel) rfl, ⟨by decide +kernel, by decide +kernel⟩, by decide +kernel, by decide +kernel⟩, zat 647 (by decide +kernel) rfl, zat 648 (by decide +kernel) rfl⟩
abbrev mX5_isWord : zMi := (yX5_isWord, cX5_isWord, 3, some .boolean)
theorem okX5_isWord : zOkV mX5_isWord 1 := ⟨⟨zat 587 (by decide +kernel) rfl, zat 126 (by decide +kernel) rfl, ⟨by decide +kernel, by decide +kernel⟩, by decide +kernel, by decide +kernel⟩, zat 585 (by decide +kernel) rfl, zat 586 (by decide +kernel) rfl⟩
abbrev mX5_number : zMi := (yX5_number, cX5_number, 3, some .int)
theorem okX5_number : zOkV mX5_number 2 := ⟨⟨zat 644 (by decide +kernel) rfl, zat 126 (by decide +kernel) rfl, ⟨by decide +kernel, by decide +kernel⟩, by decide +kernel, by decide +kernel⟩, zat 642 (by decide +kernel) rfl, zat 643 (by decide +kernel) rfl⟩
abbrev mX5_fail : zMi := (yX5_fail, cX5_fail, 2, some .boolean)
theorem okX5_fail : zOkV mX5_fail 1 := ⟨⟨zat 639 (by decide +kernel) rfl, zat 126 (by decide +kernel) rfl, ⟨by decide +kernel, by decide +kernel⟩, by decide +kernel, by decide +kernel⟩, zat 637 (by decide +kernel) rfl, zat 638 (by decide +kernel) rfl⟩
abbrev mX6_init : zMi := (yX6_init, cX6_init, 1, none)
abbrev mX6_clear : zMi := (yX6_clear, cX6_clear, 1, none)
theorem okX6_clear : zOkV mX6_clear 0 := ⟨⟨zat 457 (by decide +kernel) rfl, zat 123 (by decide +kernel) rfl, ⟨by decide +kernel, by decide +kernel⟩, by decide +kernel, by decide +kernel⟩, zat 455 (by decide +kernel) rfl, zat 456 (by decide +kernel) rfl⟩
abbrev mX6_copy : zMi := (yX6_copy, cX6_copy, 2, none)
theorem okX6_copy : zOkV mX6_copy 1 := ⟨⟨zat 678 (by decide +kernel) rfl, zat 123 (by decide +kernel) rfl, ⟨by decide +kernel, by decide +kernel⟩, by decide +kernel, by decide +kernel⟩, zat 676 (by decide +kernel) rfl, zat 677 (by decide +kernel) rfl⟩
abbrev mX6_wayOf : zMi := (yX6_wayOf, cX6_wayOf, 3, some .int)
theorem okX6_wayOf : zOkV mX6_wayOf 2 := ⟨⟨zat 835 (by decide +kernel) rfl, zat 123 (by decide +kernel) rfl, ⟨by decide +kernel, by decide +kernel⟩, by decide +kernel, by decide +kernel⟩, zat 833 (by decide +kernel) rfl, zat 834 (by decide +kernel) rfl⟩
abbrev mX6_downAt : zMi := (yX6_downAt, cX6_downAt, 4, some .int)
theorem okX6_downAt : zOkV mX6_downAt 3 := ⟨⟨zat 828 (by decide +kernel) rfl, zat 123 (by decide +kernel) rfl, ⟨by decide +kernel, by decide +kernel⟩, by decide +kernel, by decide +kernel⟩, zat 826 (by decide +kernel) rfl, zat 827 (by decide +kernel) rfl⟩
abbrev mX6_downBehind : zMi := (yX6_downBehind, cX6_downBehind, 3, some .int)
theorem okX6_downBehind : zOkV mX6_downBehind 2 := ⟨⟨zat 887 (by decide +kernel) rfl, zat 123 (by decide +kernel) rfl, ⟨by decide +kernel, by decide +kernel⟩, by decide +kernel, by decide +kernel⟩, zat 885 (by decide +kernel) rfl, zat 886 (by decide +kernel) rfl⟩
abbrev mX6_marked : zMi := (yX6_marked, cX6_marked, 2, some .int)
theorem okX6_marked : zOkS mX6_marked 2 := ⟨⟨zat 831 (by decide +kernel) rfl, zat 123 (by decide +kernel) rfl, ⟨by decide +kernel, by decide +kernel⟩, by decide +kernel, by decide +kernel⟩, zat 830 (by decide +kernel) rfl⟩
abbrev mX6_parse : zMi := (yX6_parse, cX6_parse, 4, some .boolean)
theorem okX6_parse : zOkV mX6_parse 2 := ⟨⟨zat 573 (by decide +kernel) rfl, zat 123 (by decide +kernel) rfl, ⟨by decide +kernel, by decide +kernel⟩, by decide +kernel, by decide +kernel⟩, zat 571 (by decide +kernel) rfl, zat 572 (by decide +kernel) rfl⟩
abbrev mX6_parseLine : zMi := (yX6_parseLine, cX6_parseLine, 5, some .boolean)
theorem okX6_parseLine : zOkV mX6_parseLine 2 := ⟨⟨zat 582 (by decide +kernel) rfl, zat 123 (by decide +kernel) rfl, ⟨by decide +kernel, by decide +kernel⟩, by decide +kernel, by decide +kernel⟩, zat 581 (by decide +kernel) rfl, zat 2 (by decide +kernel) rfl⟩
abbrev mX6_parsePart : zMi := (yX6_parsePart, cX6_parsePart, 6, some .boolean)
theorem okX6_parsePart : zOkV mX6_parsePart 2 := ⟨⟨zat 653 (by decide +kernel) rfl, zat 123 (by decide +kernel) rfl, ⟨by decide +kernel, by decide +kernel⟩, by decide +kernel, by decide +kernel⟩, zat 652 (by decide +kernel) rfl, zat 3 (by decide +kernel) rfl⟩
abbrev mX6_append : zMi := (yX6_append, cX6_append, 5, none)
theorem okX6_append : zOkV mX6_append 3 := ⟨⟨zat 670 (by decide +kernel) rfl, zat 123 (by decide +kernel) rfl, ⟨by decide +kernel, by decide +kernel⟩, by decide +kernel, by decide +kernel⟩, zat 669 (by decide +kernel) rfl, zat 4 (by decide +kernel) rfl⟩
abbrev mX6_markTold : zMi := (yX6_markTold, cX6_markTold, 1, some .int)
theorem okX6_markTold : zOkS mX6_markTold 1 := ⟨⟨zat 656 (by decide +kernel) rfl, zat 123 (by decide +kernel) rfl, ⟨by decide +kernel, by decide +kernel⟩, by decide +kernel, by decide +kernel⟩, zat 655 (by decide +kernel) rfl⟩
abbrev mX6_wayTold : zMi := (yX6_wayTold, cX6_wayTold, 1, some .int)
theorem okX6_wayTold : zOkS mX6_wayTold 1 := ⟨⟨zat 661 (by decide +kernel) rfl, zat 123 (by decide +kernel) rfl, ⟨by decide +kernel, by decide +kernel⟩, by decide +kernel, by decide +kernel⟩, zat 660 (by decide +kernel) rfl⟩
abbrev mX7_init : zMi := (yX7_init, cX7_init, 1, none)
abbrev mX7_restart : zMi := (yX7_restart, cX7_restart, 3, none)
theorem okX7_restart : zOkV mX7_restart 2 := ⟨⟨zat 446 (by decide +kernel) rfl, zat 121 (by decide +kernel) rfl, ⟨by decide +kernel, by decide +kernel⟩, by decide +kernel, by decide +kernel⟩, zat 444 (by decide +kernel) rfl, zat 445 (by decide +kernel) rfl⟩
abbrev mX7_copy : zMi := (yX7_copy, cX7_copy, 2, none)
theorem okX7_copy : zOkV mX7_copy 1 := ⟨⟨zat 1181 (by decide +kernel) rfl, zat 121 (by decide +kernel) rfl, ⟨by decide +kernel, by decide +kernel⟩, by decide +kernel, by decide +kernel⟩, zat 1179 (by decide +kernel) rfl, zat 1180 (by decide +kernel) rfl⟩
abbrev mX7_join : zMi := (yX7_join, cX7_join, 4, some .int)
theorem okX7_join : zOkV mX7_join 2 := ⟨⟨zat 530 (by decide +kernel) rfl, zat 121 (by decide +kernel) rfl, ⟨by decide +kernel, by decide +kernel⟩, by decide +kernel, by decide +kernel⟩, zat 528 (by decide +kernel) rfl, zat 529 (by decide +kernel) rfl⟩
abbrev mX7_beginWays : zMi := (yX7_beginWays, cX7_beginWays, 1, none)
theorem okX7_beginWays : zOkV mX7_beginWays 0 := ⟨⟨zat 685 (by decide +kernel) rfl, zat 121 (by decide +kernel) rfl, ⟨by decide +kernel, by decide +kernel⟩, by decide +kernel, by decide +kernel⟩, zat 683 (by decide +kernel) rfl, zat 684 (by decide +kernel) rfl⟩
abbrev mX7_isCell : zMi := (yX7_isCell, cX7_isCell, 2, some .boolean)
theorem okX7_isCell : zOkV mX7_isCell 1 := ⟨⟨zat 526 (by decide +kernel) rfl, zat 121 (by decide +kernel) rfl, ⟨by decide +kernel, by decide +kernel⟩, by decide +kernel, by decide +kernel⟩, zat 524 (by decide +kernel) rfl, zat 525 (by decide +kernel) rfl⟩
abbrev mX7_isBox : zMi := (yX7_isBox, cX7_isBox, 2, some .boolean)
theorem okX7_isBox : zOkV mX7_isBox 1 := ⟨⟨zat 784 (by decide +kernel) rfl, zat 121 (by decide +kernel) rfl, ⟨by decide +kernel, by decide +kernel⟩, by decide +kernel, by decide +kernel⟩, zat 782 (by decide +kernel) rfl, zat 783 (by decide +kernel) rfl⟩
abbrev mX7_isSkater : zMi := (yX7_isSkater, cX7_isSkater, 2, some .boolean)
theorem okX7_isSkater : zOkV mX7_isSkater 1 := ⟨⟨zat 542 (by decide +kernel) rfl, zat 121 (by decide +kernel) rfl, ⟨by decide +kernel, by decide +kernel⟩, by decide +kernel, by decide +kernel⟩, zat 540 (by decide +kernel) rfl, zat 541 (by decide +kernel) rfl⟩
abbrev mX7_areCells : zMi := (yX7_areCells, cX7_areCells, 4, some .boolean)
theorem okX7_areCells : zOkV mX7_areCells 1 := ⟨⟨zat 999 (by decide +kernel) rfl, zat 121 (by decide +kernel) rfl, ⟨by decide +kernel, by decide +kernel⟩, by decide +kernel, by decide +kernel⟩, zat 997 (by decide +kernel) rfl, zat 998 (by decide +kernel) rfl⟩
abbrev mX7_beside : zMi := (yX7_beside, cX7_beside, 5, some .int)
theorem okX7_beside : zOkV mX7_beside 2 := ⟨⟨zat 843 (by decide +kernel) rfl, zat 121 (by decide +kernel) rfl, ⟨by decide +kernel, by decide +kernel⟩, by decide +kernel, by decide +kernel⟩, zat 841 (by decide +kernel) rfl, zat 842 (by decide +kernel) rfl⟩
abbrev mX7_isSeen : zMi := (yX7_isSeen, cX7_isSeen, 3, some .boolean)
theorem okX7_isSeen : zOkV mX7_isSeen 2 := ⟨⟨zat 863 (by decide +kernel) rfl, zat 121 (by decide +kernel) rfl, ⟨by decide +kernel, by decide +kernel⟩, by decide +kernel, by decide +kernel⟩, zat 861 (by decide +kernel) rfl, zat 862 (by decide +kernel) rfl⟩
abbrev mX7_seenAround : zMi := (yX7_seenAround, cX7_seenAround, 6, some .int)
theorem okX7_seenAround : zOkV mX7_seenAround 2 := ⟨⟨zat 859 (by decide +kernel) rfl, zat 121 (by decide +kernel) rfl, ⟨by decide +kernel, by decide +kernel⟩, by decide +kernel, by decide +kernel⟩, zat 857 (by decide +kernel) rfl, zat 858 (by decide +kernel) rfl⟩
abbrev mX7_seenCells : zMi := (yX7_seenCells, cX7_seenCells, 5, some .long)
theorem okX7_seenCells : zOkV mX7_seenCells 1 := ⟨⟨zat 969 (by decide +kernel) rfl, zat 121 (by decide +kernel) rfl, ⟨by decide +kernel, by decide +kernel⟩, by decide +kernel, by decide +kernel⟩, zat 967 (by decide +kernel) rfl, zat 968 (by decide +kernel) rfl⟩
abbrev mX7_seenBox : zMi := (yX7_seenBox, cX7_seenBox, 5, some .int)
theorem okX7_seenBox : zOkV mX7_seenBox 2 := ⟨⟨zat 943 (by decide +kernel) rfl, zat 121 (by decide +kernel) rfl, ⟨by decide +kernel, by decide +kernel⟩, by decide +kernel, by decide +kernel⟩, zat 941 (by decide +kernel) rfl, zat 942 (by decide +kernel) rfl⟩
abbrev mX7_inBox : zMi := (yX7_inBox, cX7_inBox, 2, some .int)
theorem okX7_inBox : zOkS mX7_inBox 2 := ⟨⟨zat 946 (by decide +kernel) rfl, zat 121 (by decide +kernel) rfl, ⟨by decide +kernel, by decide +kernel⟩, by decide +kernel, by decide +kernel⟩, zat 945 (by decide +kernel) rfl⟩
abbrev mX7_readBox : zMi := (yX7_readBox, cX7_readBox, 5, some .int)
theorem okX7_readBox : zOkV mX7_readBox 2 := ⟨⟨zat 939 (by decide +kernel) rfl, zat 121 (by decide +kernel) rfl, ⟨by decide +kernel, by decide +kernel⟩, by decide +kernel, by decide +kernel⟩, zat 937 (by decide +kernel) rfl, zat 938 (by decide +kernel) rfl⟩
abbrev mX7_isReadSo : zMi := (yX7_isReadSo, cX7_isReadSo, 3, some .boolean)
theorem okX7_isReadSo : zOkV mX7_isReadSo 2 := ⟨⟨zat 935 (by decide +kernel) rfl, zat 121 (by decide +kernel) rfl, ⟨by decide +kernel, by decide +kernel⟩, by decide +kernel, by decide +kernel⟩, zat 933 (by decide +kernel) rfl, zat 934 (by decide +kernel) rfl⟩
abbrev mX7_wantsRead : zMi := (yX7_wantsRead, cX7_wantsRead, 4, some .int)
theorem okX7_wantsRead : zOkV mX7_wantsRead 1 := ⟨⟨zat 977 (by decide +kernel) rfl, zat 121 (by decide +kernel) rfl, ⟨by decide +kernel, by decide +kernel⟩, by decide +kernel, by decide +kernel⟩, zat 975 (by decide +kernel) rfl, zat 976 (by decide +kernel) rfl⟩
abbrev mX7_writtenBy : zMi := (yX7_writtenBy, cX7_writtenBy, 6, some .int)
theorem okX7_writtenBy : zOkV mX7_writtenBy 2 := ⟨⟨zat 1105 (by decide +kernel) rfl, zat 121 (by decide +kernel) rfl, ⟨by decide +kernel, by decide +kernel⟩, by decide +kernel, by decide +kernel⟩, zat 1103 (by decide +kernel) rfl, zat 1104 (by decide +kernel) rfl⟩
abbrev mX7_fillFacts : zMi := (yX7_fillFacts, cX7_fillFacts, 6, none)
theorem okX7_fillFacts : zOkV mX7_fillFacts 2 := ⟨⟨zat 855 (by decide +kernel) rfl, zat 121 (by decide +kernel) rfl, ⟨by decide +kernel, by decide +kernel⟩, by decide +kernel, by decide +kernel⟩, zat 854 (by decide +kernel) rfl, zat 18 (by decide +kernel) rfl⟩
abbrev mX7_cutOf : zMi := (yX7_cutOf, cX7_cutOf, 4, some .int)
theorem okX7_cutOf : zOkV mX7_cutOf 3 := ⟨⟨zat 851 (by decide +kernel) rfl, zat 121 (by decide +kernel) rfl, ⟨by decide +kernel, by decide +kernel⟩, by decide +kernel, by decide +kernel⟩, zat 849 (by decide +kernel) rfl, zat 850 (by decide +kernel) rfl⟩
abbrev mX7_thawOf : zMi := (yX7_thawOf, cX7_thawOf, 3, some .int)
theorem okX7_thawOf : zOkV mX7_thawOf 2 := ⟨⟨zat 895 (by decide +kernel) rfl, zat 121 (by decide +kernel) rfl, ⟨by decide +kernel, by decide +kernel⟩, by decide +kernel, by decide +kernel⟩, zat 893 (by decide +kernel) rfl, zat 894 (by decide +kernel) rfl⟩
abbrev mX7_isOther : zMi := (yX7_isOther, cX7_isOther, 2, some .boolean)
theorem okX7_isOther : zOkS mX7_isOther 2 := ⟨⟨zat 866 (by decide +kernel) rfl, zat 121 (by decide +kernel) rfl, ⟨by decide +kernel, by decide +kernel⟩, by decide +kernel, by decide +kernel⟩, zat 865 (by decide +kernel) rfl⟩
abbrev mX7_held : zMi := (yX7_held, cX7_held, 1, some .int)
theorem okX7_held : zOkS mX7_held 1 := ⟨⟨zat 880 (by decide +kernel) rfl, zat 121 (by decide +kernel) rfl, ⟨by decide +kernel, by decide +kernel⟩, by decide +kernel, by decide +kernel⟩, zat 879 (by decide +kernel) rfl⟩
abbrev mX7_pass : zMi := (yX7_pass, cX7_pass, 5, some .int)
theorem okX7_pass : zOkV mX7_pass 2 := ⟨⟨zat 807 (by decide +kernel) rfl, zat 121 (by decide +kernel) rfl, ⟨by decide +kernel, by decide +kernel⟩, by decide +kernel, by decide +kernel⟩, zat 805 (by decide +kernel) rfl, zat 806 (by decide +kernel) rfl⟩
abbrev mX7_step : zMi := (yX7_step, cX7_step, 6, none)
theorem okX7_step : zOkV mX7_step 3 := ⟨⟨zat 824 (by decide +kernel) rfl, zat 121 (by decide +kernel) rfl, ⟨by decide +kernel, by decide +kernel⟩, by decide +kernel, by decide +kernel⟩, zat 823 (by decide +kernel) rfl, zat 16 (by decide +kernel) rfl⟩
abbrev mX7_cellBehind : zMi := (yX7_cellBehind, cX7_cellBehind, 4, some .int)
theorem okX7_cellBehind : zOkV mX7_cellBehind 2 := ⟨⟨zat 839 (by decide +kernel) rfl, zat 121 (by decide +kernel) rfl, ⟨by decide +kernel, by decide +kernel⟩, by decide +kernel, by decide +kernel⟩, zat 838 (by decide +kernel) rfl, zat 17 (by decide +kernel) rfl⟩
abbrev mX7_deepen : zMi := (yX7_deepen, cX7_deepen, 8, none)
theorem okX7_deepen : zOkV mX7_deepen 5 := ⟨⟨zat 817 (by decide +kernel) rfl, zat 121 (by decide +kernel) rfl, ⟨by decide +kernel, by decide +kernel⟩, by decide +kernel, by decide +kernel⟩, zat 816 (by decide +kernel) rfl, zat 15 (by decide +kernel) rfl⟩
abbrev mX7_thaw : zMi := (yX7_thaw, cX7_thaw, 3, none)
theorem okX7_thaw : zOkV mX7_thaw 1 := ⟨⟨zat 891 (by decide +kernel) rfl, zat 121 (by decide +kernel) rfl, ⟨by decide +kernel, by decide +kernel⟩, by decide +kernel, by decide +kernel⟩, zat 890 (by decide +kernel) rfl, zat 20 (by decide +kernel) rfl⟩
abbrev mX7_crossings : zMi := (yX7_crossings, cX7_crossings, 7, some .int)
theorem okX7_crossings : zOkV mX7_crossings 1 := ⟨⟨zat 903 (by decide +kernel) rfl, zat 121 (by decide +kernel) rfl, ⟨by decide +kernel, by decide +kernel⟩, by decide +kernel, by decide +kernel⟩, zat 901 (by decide +kernel) rfl, zat 902 (by decide +kernel) rfl⟩
abbrev mX8_init : zMi := (yX8_init, cX8_init, 2, none)
abbrev mX8_state : zMi := (yX8_state, cX8_state, 3, some .int)
theorem okX8_state : zOkV mX8_state 1 := ⟨⟨zat 510 (by decide +kernel) rfl, zat 120 (by decide +kernel) rfl, ⟨by decide +kernel, by decide +kernel⟩, by decide +kernel, by decide +kernel⟩, zat 508 (by decide +kernel) rfl, zat 509 (by decide +kernel) rfl⟩
abbrev mX8_basin : zMi := (yX8_basin, cX8_basin, 3, some .boolean)
theorem okX8_basin : zOkV mX8_basin 2 := ⟨⟨zat 518 (by decide +kernel) rfl, zat 120 (by decide +kernel) rfl, ⟨by decide +kernel, by decide +kernel⟩, by decide +kernel, by decide +kernel⟩, zat 516 (by decide +kernel) rfl, zat 517 (by decide +kernel) rfl⟩
abbrev mX8_skater : zMi := (yX8_skater, cX8_skater, 3, some .int)
theorem okX8_skater : zOkV mX8_skater 2 := ⟨⟨zat 522 (by decide +kernel) rfl, zat 120 (by decide +kernel) rfl, ⟨by decide +kernel, by decide +kernel⟩, by decide +kernel, by decide +kernel⟩, zat 520 (by decide +kernel) rfl, zat 521 (by decide +kernel) rfl⟩
abbrev mX8_set : zMi := (yX8_set, cX8_set, 5, some .boolean)
theorem okX8_set : zOkV mX8_set 3 := ⟨⟨zat 534 (by decide +kernel) rfl, zat 120 (by decide +kernel) rfl, ⟨by decide +kernel, by decide +kernel⟩, by decide +kernel, by decide +kernel⟩, zat 532 (by decide +kernel) rfl, zat 533 (by decide +kernel) rfl⟩
abbrev mX8_tell : zMi := (yX8_tell, cX8_tell, 4, some .boolean)
theorem okX8_tell : zOkV mX8_tell 3 := ⟨⟨zat 538 (by decide +kernel) rfl, zat 120 (by decide +kernel) rfl, ⟨by decide +kernel, by decide +kernel⟩, by decide +kernel, by decide +kernel⟩, zat 537 (by decide +kernel) rfl, zat 1 (by decide +kernel) rfl⟩
abbrev mX8_feed : zMi := (yX8_feed, cX8_feed, 6, some .int)
theorem okX8_feed : zOkV mX8_feed 5 := ⟨⟨zat 546 (by decide +kernel) rfl, zat 120 (by decide +kernel) rfl, ⟨by decide +kernel, by decide +kernel⟩, by decide +kernel, by decide +kernel⟩, zat 544 (by decide +kernel) rfl, zat 545 (by decide +kernel) rfl⟩
abbrev mX8_end : zMi := (yX8_end, cX8_end, 2, some .boolean)
theorem okX8_end : zOkV mX8_end 1 := ⟨⟨zat 554 (by decide +kernel) rfl, zat 120 (by decide +kernel) rfl, ⟨by decide +kernel, by decide +kernel⟩, by decide +kernel, by decide +kernel⟩, zat 552 (by decide +kernel) rfl, zat 553 (by decide +kernel) rfl⟩
abbrev mX8_text : zMi := (yX8_text, cX8_text, 3, some .int)
theorem okX8_text : zOkV mX8_text 1 := ⟨⟨zat 558 (by decide +kernel) rfl, zat 120 (by decide +kernel) rfl, ⟨by decide +kernel, by decide +kernel⟩, by decide +kernel, by decide +kernel⟩, zat 556 (by decide +kernel) rfl, zat 557 (by decide +kernel) rfl⟩
abbrev mX8_takeWays : zMi := (yX8_takeWays, cX8_takeWays, 1, some .int)
theorem okX8_takeWays : zOkV mX8_takeWays 0 := ⟨⟨zat 674 (by decide +kernel) rfl, zat 120 (by decide +kernel) rfl, ⟨by decide +kernel, by decide +kernel⟩, by decide +kernel, by decide +kernel⟩, zat 673 (by decide +kernel) rfl, zat 5 (by decide +kernel) rfl⟩
abbrev mX8_fault : zMi := (yX8_fault, cX8_fault, 2, some .int)
theorem okX8_fault : zOkV mX8_fault 1 := ⟨⟨zat 790 (by decide +kernel) rfl, zat 120 (by decide +kernel) rfl, ⟨by decide +kernel, by decide +kernel⟩, by decide +kernel, by decide +kernel⟩, zat 788 (by decide +kernel) rfl, zat 789 (by decide +kernel) rfl⟩
abbrev mX8_minutes : zMi := (yX8_minutes, cX8_minutes, 4, some .int)
theorem okX8_minutes : zOkV mX8_minutes 1 := ⟨⟨zat 794 (by decide +kernel) rfl, zat 120 (by decide +kernel) rfl, ⟨by decide +kernel, by decide +kernel⟩, by decide +kernel, by decide +kernel⟩, zat 792 (by decide +kernel) rfl, zat 793 (by decide +kernel) rfl⟩
abbrev mX8_forgetPast : zMi := (yX8_forgetPast, cX8_forgetPast, 1, none)
theorem okX8_forgetPast : zOkV mX8_forgetPast 0 := ⟨⟨zat 514 (by decide +kernel) rfl, zat 120 (by decide +kernel) rfl, ⟨by decide +kernel, by decide +kernel⟩, by decide +kernel, by decide +kernel⟩, zat 513 (by decide +kernel) rfl, zat 0 (by decide +kernel) rfl⟩
abbrev mX8_keepPast : zMi := (yX8_keepPast, cX8_keepPast, 3, none)
theorem okX8_keepPast : zOkV mX8_keepPast 0 := ⟨⟨zat 798 (by decide +kernel) rfl, zat 120 (by decide +kernel) rfl, ⟨by decide +kernel, by decide +kernel⟩, by decide +kernel, by decide +kernel⟩, zat 797 (by decide +kernel) rfl, zat 14 (by decide +kernel) rfl⟩
abbrev mX8_of : zMi := (yX8_of, cX8_of, 4, some .int)
theorem okX8_of : zOkV mX8_of 2 := ⟨⟨zat 899 (by decide +kernel) rfl, zat 120 (by decide +kernel) rfl, ⟨by decide +kernel, by decide +kernel⟩, by decide +kernel, by decide +kernel⟩, zat 897 (by decide +kernel) rfl, zat 898 (by decide +kernel) rfl⟩
abbrev mX8_at : zMi := (yX8_at, cX8_at, 4, some .int)
theorem okX8_at : zOkV mX8_at 2 := ⟨⟨zat 907 (by decide +kernel) rfl, zat 120 (by decide +kernel) rfl, ⟨by decide +kernel, by decide +kernel⟩, by decide +kernel, by decide +kernel⟩, zat 905 (by decide +kernel) rfl, zat 906 (by decide +kernel) rfl⟩
abbrev mX8_cut : zMi := (yX8_cut, cX8_cut, 3, some .int)
theorem okX8_cut : zOkV mX8_cut 2 := ⟨⟨zat 914 (by decide +kernel) rfl, zat 120 (by decide +kernel) rfl, ⟨by decide +kernel, by decide +kernel⟩, by decide +kernel, by decide +kernel⟩, zat 912 (by decide +kernel) rfl, zat 913 (by decide +kernel) rfl⟩
abbrev mX8_letter : zMi := (yX8_letter, cX8_letter, 2, some .int)
theorem okX8_letter : zOkV mX8_letter 1 := ⟨⟨zat 919 (by decide +kernel) rfl, zat 120 (by decide +kernel) rfl, ⟨by decide +kernel, by decide +kernel⟩, by decide +kernel, by decide +kernel⟩, zat 917 (by decide +kernel) rfl, zat 918 (by decide +kernel) rfl⟩
abbrev mX8_want : zMi := (yX8_want, cX8_want, 3, some .int)
theorem okX8_want : zOkV mX8_want 2 := ⟨⟨zat 927 (by decide +kernel) rfl, zat 120 (by decide +kernel) rfl, ⟨by decide +kernel, by decide +kernel⟩, by decide +kernel, by decide +kernel⟩, zat 925 (by decide +kernel) rfl, zat 926 (by decide +kernel) rfl⟩
abbrev mX8_book : zMi := (yX8_book, cX8_book, 4, some .int)
theorem okX8_book : zOkV mX8_book 2 := ⟨⟨zat 950 (by decide +kernel) rfl, zat 120 (by decide +kernel) rfl, ⟨by decide +kernel, by decide +kernel⟩, by decide +kernel, by decide +kernel⟩, zat 948 (by decide +kernel) rfl, zat 949 (by decide +kernel) rfl⟩
abbrev mX8_read : zMi := (yX8_read, cX8_read, 2, some .int)
theorem okX8_read : zOkV mX8_read 1 := ⟨⟨zat 954 (by decide +kernel) rfl, zat 120 (by decide +kernel) rfl, ⟨by decide +kernel, by decide +kernel⟩, by decide +kernel, by decide +kernel⟩, zat 952 (by decide +kernel) rfl, zat 953 (by decide +kernel) rfl⟩
abbrev mX8_goes : zMi := (yX8_goes, cX8_goes, 2, some .long)
theorem okX8_goes : zOkV mX8_goes 1 := ⟨⟨zat 960 (by decide +kernel) rfl, zat 120 (by decide +kernel) rfl, ⟨by decide +kernel, by decide +kernel⟩, by decide +kernel, by decide +kernel⟩, zat 958 (by decide +kernel) rfl, zat 959 (by decide +kernel) rfl⟩
abbrev mX8_wants : zMi := (yX8_wants, cX8_wants, 2, some .int)
theorem okX8_wants : zOkV mX8_wants 1 := ⟨⟨zat 973 (by decide +kernel) rfl, zat 120 (by decide +kernel) rfl, ⟨by decide +kernel, by decide +kernel⟩, by decide +kernel, by decide +kernel⟩, zat 971 (by decide +kernel) rfl, zat 972 (by decide +kernel) rfl⟩
abbrev mX8_think : zMi := (yX8_think, cX8_think, 3, none)
theorem okX8_think : zOkV mX8_think 1 := ⟨⟨zat 965 (by decide +kernel) rfl, zat 120 (by decide +kernel) rfl, ⟨by decide +kernel, by decide +kernel⟩, by decide +kernel, by decide +kernel⟩, zat 964 (by decide +kernel) rfl, zat 21 (by decide +kernel) rfl⟩
abbrev mX8_spoilt : zMi := (yX8_spoilt, cX8_spoilt, 5, some .int)
theorem okX8_spoilt : zOkV mX8_spoilt 1 := ⟨⟨zat 988 (by decide +kernel) rfl, zat 120 (by decide +kernel) rfl, ⟨by decide +kernel, by decide +kernel⟩, by decide +kernel, by decide +kernel⟩, zat 986 (by decide +kernel) rfl, zat 987 (by decide +kernel) rfl⟩
abbrev mX8_leastOf : zMi := (yX8_leastOf, cX8_leastOf, 2, some .int)
theorem okX8_leastOf : zOkS mX8_leastOf 1 := ⟨⟨zat 991 (by decide +kernel) rfl, zat 120 (by decide +kernel) rfl, ⟨by decide +kernel, by decide +kernel⟩, by decide +kernel, by decide +kernel⟩, zat 990 (by decide +kernel) rfl⟩
abbrev mX8_route : zMi := (yX8_route, cX8_route, 7, some .int)
theorem okX8_route : zOkV mX8_route 3 := ⟨⟨zat 995 (by decide +kernel) rfl, zat 120 (by decide +kernel) rfl, ⟨by decide +kernel, by decide +kernel⟩, by decide +kernel, by decide +kernel⟩, zat 993 (by decide +kernel) rfl, zat 994 (by decide +kernel) rfl⟩
abbrev mX8_soonest : zMi := (yX8_soonest, cX8_soonest, 5, some .int)
theorem okX8_soonest : zOkV mX8_soonest 2 := ⟨⟨zat 1042 (by decide +kernel) rfl, zat 120 (by decide +kernel) rfl, ⟨by decide +kernel, by decide +kernel⟩, by decide +kernel, by decide +kernel⟩, zat 1040 (by decide +kernel) rfl, zat 1041 (by decide +kernel) rfl⟩
abbrev mX8_beneath : zMi := (yX8_beneath, cX8_beneath, 7, some .int)
theorem okX8_beneath : zOkV mX8_beneath 2 := ⟨⟨zat 1083 (by decide +kernel) rfl, zat 120 (by decide +kernel) rfl, ⟨by decide +kernel, by decide +kernel⟩, by decide +kernel, by decide +kernel⟩, zat 1081 (by decide +kernel) rfl, zat 1082 (by decide +kernel) rfl⟩
abbrev mX8_lookAt : zMi := (yX8_lookAt, cX8_lookAt, 8, some .int)
theorem okX8_lookAt : zOkV mX8_lookAt 1 := ⟨⟨zat 1088 (by decide +kernel) rfl, zat 120 (by decide +kernel) rfl, ⟨by decide +kernel, by decide +kernel⟩, by decide +kernel, by decide +kernel⟩, zat 1086 (by decide +kernel) rfl, zat 1087 (by decide +kernel) rfl⟩
abbrev mX8_who : zMi := (yX8_who, cX8_who, 8, some .int)
theorem okX8_who : zOkV mX8_who 2 := ⟨⟨zat 1101 (by decide +kernel) rfl, zat 120 (by decide +kernel) rfl, ⟨by decide +kernel, by decide +kernel⟩, by decide +kernel, by decide +kernel⟩, zat 1099 (by decide +kernel) rfl, zat 1100 (by decide +kernel) rfl⟩
abbrev mX8_holds : zMi := (yX8_holds, cX8_holds, 5, some .int)
theorem okX8_holds : zOkV mX8_holds 2 := ⟨⟨zat 1109 (by decide +kernel) rfl, zat 120 (by decide +kernel) rfl, ⟨by decide +kernel, by decide +kernel⟩, by decide +kernel, by decide +kernel⟩, zat 1107 (by decide +kernel) rfl, zat 1108 (by decide +kernel) rfl⟩
abbrev mX8_parts : zMi := (yX8_parts, cX8_parts, 3, some .int)
theorem okX8_parts : zOkV mX8_parts 2 := ⟨⟨zat 1118 (by decide +kernel) rfl, zat 120 (by decide +kernel) rfl, ⟨by decide +kernel, by decide +kernel⟩, by decide +kernel, by decide +kernel⟩, zat 1116 (by decide +kernel) rfl, zat 1117 (by decide +kernel) rfl⟩
abbrev mX8_yet : zMi := (yX8_yet, cX8_yet, 6, some .int)
theorem okX8_yet : zOkV mX8_yet 3 := ⟨⟨zat 1159 (by decide +kernel) rfl, zat 120 (by decide +kernel) rfl, ⟨by decide +kernel, by decide +kernel⟩, by decide +kernel, by decide +kernel⟩, zat 1157 (by decide +kernel) rfl, zat 1158 (by decide +kernel) rfl⟩
abbrev mX8_loseOne : zMi := (yX8_loseOne, cX8_loseOne, 4, none)
theorem okX8_loseOne : zOkV mX8_loseOne 1 := ⟨⟨zat 1165 (by decide +kernel) rfl, zat 120 (by decide +kernel) rfl, ⟨by decide +kernel, by decide +kernel⟩, by decide +kernel, by decide +kernel⟩, zat 1164 (by decide +kernel) rfl, zat 35 (by decide +kernel) rfl⟩
abbrev mX8_heard : zMi := (yX8_heard, cX8_heard, 7, some .long)
theorem okX8_heard : zOkV mX8_heard 2 := ⟨⟨zat 1169 (by decide +kernel) rfl, zat 120 (by decide +kernel) rfl, ⟨by decide +kernel, by decide +kernel⟩, by decide +kernel, by decide +kernel⟩, zat 1167 (by decide +kernel) rfl, zat 1168 (by decide +kernel) rfl⟩
abbrev mX8_undo : zMi := (yX8_undo, cX8_undo, 1, some .boolean)
theorem okX8_undo : zOkV mX8_undo 0 := ⟨⟨zat 1173 (by decide +kernel) rfl, zat 120 (by decide +kernel) rfl, ⟨by decide +kernel, by decide +kernel⟩, by decide +kernel, by decide +kernel⟩, zat 1171 (by decide +kernel) rfl, zat 1172 (by decide +kernel) rfl⟩
abbrev mX8_image : zMi := (yX8_image, cX8_image, 2, some .boolean)
theorem okX8_image : zOkV mX8_image 1 := ⟨⟨zat 1177 (by decide +kernel) rfl, zat 120 (by decide +kernel) rfl, ⟨by decide +kernel, by decide +kernel⟩, by decide +kernel, by decide +kernel⟩, zat 1175 (by decide +kernel) rfl, zat 1176 (by decide +kernel) rfl⟩
abbrev mX8_look : zMi := (yX8_look, cX8_look, 2, some .int)
theorem okX8_look : zOkV mX8_look 1 := ⟨⟨zat 1190 (by decide +kernel) rfl, zat 120 (by decide +kernel) rfl, ⟨by decide +kernel, by decide +kernel⟩, by decide +kernel, by decide +kernel⟩, zat 1188 (by decide +kernel) rfl, zat 1189 (by decide +kernel) rfl⟩
abbrev mX8_distance : zMi := (yX8_distance, cX8_distance, 2, some .int)
theorem okX8_distance : zOkS mX8_distance 2 := ⟨⟨zat 1029 (by decide +kernel) rfl, zat 120 (by decide +kernel) rfl, ⟨by decide +kernel, by decide +kernel⟩, by decide +kernel, by decide +kernel⟩, zat 1028 (by decide +kernel) rfl⟩
abbrev mX9_init : zMi := (yX9_init, cX9_init, 1, none)
abbrev mX9_begins : zMi := (yX9_begins, cX9_begins, 5, none)
theorem okX9_begins : zOkV mX9_begins 2 := ⟨⟨zat 1201 (by decide +kernel) rfl, zat 130 (by decide +kernel) rfl, ⟨by decide +kernel, by decide +kernel⟩, by decide +kernel, by decide +kernel⟩, zat 1200 (by decide +kernel) rfl, zat 36 (by decide +kernel) rfl⟩
abbrev mX9_isIn : zMi := (yX9_isIn, cX9_isIn, 3, some .boolean)
theorem okX9_isIn : zOkS mX9_isIn 3 := ⟨⟨zat 1359 (by decide +kernel) rfl, zat 130 (by decide +kernel) rfl, ⟨by decide +kernel, by decide +kernel⟩, by decide +kernel, by decide +kernel⟩, zat 1358 (by decide +kernel) rfl⟩
abbrev mX9_lesser : zMi := (yX9_lesser, cX9_lesser, 2, some .int)
theorem okX9_lesser : zOkS mX9_lesser 2 := ⟨⟨zat 1591 (by decide +kernel) rfl, zat 130 (by decide +kernel) rfl, ⟨by decide +kernel, by decide +kernel⟩, by decide +kernel, by decide +kernel⟩, zat 1590 (by decide +kernel) rfl⟩
abbrev mX9_greater : zMi := (yX9_greater, cX9_greater, 2, some .int)
theorem okX9_greater : zOkS mX9_greater 2 := ⟨⟨zat 1645 (by decide +kernel) rfl, zat 130 (by decide +kernel) rfl, ⟨by decide +kernel, by decide +kernel⟩, by decide +kernel, by decide +kernel⟩, zat 1644 (by decide +kernel) rfl⟩
abbrev mX9_isAt : zMi := (yX9_isAt, cX9_isAt, 3, some .boolean)
theorem okX9_isAt : zOkV mX9_isAt 2 := ⟨⟨zat 1371 (by decide +kernel) rfl, zat 130 (by decide +kernel) rfl, ⟨by decide +kernel, by decide +kernel⟩, by decide +kernel, by decide +kernel⟩, zat 1370 (by decide +kernel) rfl, zat 39 (by decide +kernel) rfl⟩
abbrev mX9_isCell : zMi := (yX9_isCell, cX9_isCell, 2, some .boolean)
theorem okX9_isCell : zOkV mX9_isCell 1 := ⟨⟨zat 1367 (by decide +kernel) rfl, zat 130 (by decide +kernel) rfl, ⟨by decide +kernel, by decide +kernel⟩, by decide +kernel, by decide +kernel⟩, zat 1366 (by decide +kernel) rfl, zat 38 (by decide +kernel) rfl⟩
abbrev mX9_isBox : zMi := (yX9_isBox, cX9_isBox, 2, some .boolean)
theorem okX9_isBox : zOkV mX9_isBox 1 := ⟨⟨zat 1538 (by decide +kernel) rfl, zat 130 (by decide +kernel) rfl, ⟨by decide +kernel, by decide +kernel⟩, by decide +kernel, by decide +kernel⟩, zat 1537 (by decide +kernel) rfl, zat 69 (by decide +kernel) rfl⟩
abbrev mX9_isSkater : zMi := (yX9_isSkater, cX9_isSkater, 2, some .boolean)
theorem okX9_isSkater : zOkV mX9_isSkater 1 := ⟨⟨zat 1383 (by decide +kernel) rfl, zat 130 (by decide +kernel) rfl, ⟨by decide +kernel, by decide +kernel⟩, by decide +kernel, by decide +kernel⟩, zat 1382 (by decide +kernel) rfl, zat 41 (by decide +kernel) rfl⟩
abbrev mX9_forgets : zMi := (yX9_forgets, cX9_forgets, 1, none)
theorem okX9_forgets : zOkV mX9_forgets 0 := ⟨⟨zat 1352 (by decide +kernel) rfl, zat 130 (by decide +kernel) rfl, ⟨by decide +kernel, by decide +kernel⟩, by decide +kernel, by decide +kernel⟩, zat 1351 (by decide +kernel) rfl, zat 37 (by decide +kernel) rfl⟩
abbrev mX9_state : zMi := (yX9_state, cX9_state, 3, some .int)
theorem okX9_state : zOkV mX9_state 1 := ⟨⟨zat 1348 (by decide +kernel) rfl, zat 130 (by decide +kernel) rfl, ⟨by decide +kernel, by decide +kernel⟩, by decide +kernel, by decide +kernel⟩, zat 1346 (by decide +kernel) rfl, zat 1347 (by decide +kernel) rfl⟩
abbrev mX9_draw : zMi := (yX9_draw, cX9_draw, 2, some .int)
theorem okX9_draw : zOkV mX9_draw 1 := ⟨⟨zat 1582 (by decide +kernel) rfl, zat 130 (by decide +kernel) rfl, ⟨by decide +kernel, by decide +kernel⟩, by decide +kernel, by decide +kernel⟩, zat 1581 (by decide +kernel) rfl, zat 77 (by decide +kernel) rfl⟩
abbrev mX9_basin : zMi := (yX9_basin, cX9_basin, 3, some .boolean)
theorem okX9_basin : zOkV mX9_basin 2 := ⟨⟨zat 1356 (by decide +kernel) rfl, zat 130 (by decide +kernel) rfl, ⟨by decide +kernel, by decide +kernel⟩, by decide +kernel, by decide +kernel⟩, zat 1354 (by decide +kernel) rfl, zat 1355 (by decide +kernel) rfl⟩
abbrev mX9_skater : zMi := (yX9_skater, cX9_skater, 4, some .int)
theorem okX9_skater : zOkV mX9_skater 2 := ⟨⟨zat 1363 (by decide +kernel) rfl, zat 130 (by decide +kernel) rfl, ⟨by decide +kernel, by decide +kernel⟩, by decide +kernel, by decide +kernel⟩, zat 1361 (by decide +kernel) rfl, zat 1362 (by decide +kernel) rfl⟩
abbrev mX9_canSet : zMi := (yX9_canSet, cX9_canSet, 4, some .boolean)
theorem okX9_canSet : zOkV mX9_canSet 3 := ⟨⟨zat 1379 (by decide +kernel) rfl, zat 130 (by decide +kernel) rfl, ⟨by decide +kernel, by decide +kernel⟩, by decide +kernel, by decide +kernel⟩, zat 1378 (by decide +kernel) rfl, zat 40 (by decide +kernel) rfl⟩
abbrev mX9_set : zMi := (yX9_set, cX9_set, 4, some .boolean)
theorem okX9_set : zOkV mX9_set 3 := ⟨⟨zat 1375 (by decide +kernel) rfl, zat 130 (by decide +kernel) rfl, ⟨by decide +kernel, by decide +kernel⟩, by decide +kernel, by decide +kernel⟩, zat 1373 (by decide +kernel) rfl, zat 1374 (by decide +kernel) rfl⟩
abbrev mX9_feed : zMi := (yX9_feed, cX9_feed, 8, some .int)
theorem okX9_feed : zOkV mX9_feed 5 := ⟨⟨zat 1387 (by decide +kernel) rfl, zat 130 (by decide +kernel) rfl, ⟨by decide +kernel, by decide +kernel⟩, by decide +kernel, by decide +kernel⟩, zat 1385 (by decide +kernel) rfl, zat 1386 (by decide +kernel) rfl⟩
abbrev mX9_end : zMi := (yX9_end, cX9_end, 2, some .boolean)
theorem okX9_end : zOkV mX9_end 1 := ⟨⟨zat 1391 (by decide +kernel) rfl, zat 130 (by decide +kernel) rfl, ⟨by decide +kernel, by decide +kernel⟩, by decide +kernel, by decide +kernel⟩, zat 1389 (by decide +kernel) rfl, zat 1390 (by decide +kernel) rfl⟩
abbrev mX9_see : zMi := (yX9_see, cX9_see, 2, some .int)
theorem okX9_see : zOkV mX9_see 1 := ⟨⟨zat 1403 (by decide +kernel) rfl, zat 130 (by decide +kernel) rfl, ⟨by decide +kernel, by decide +kernel⟩, by decide +kernel, by decide +kernel⟩, zat 1402 (by decide +kernel) rfl, zat 43 (by decide +kernel) rfl⟩
abbrev mX9_isLetter : zMi := (yX9_isLetter, cX9_isLetter, 1, some .boolean)
theorem okX9_isLetter : zOkS mX9_isLetter 1 := ⟨⟨zat 1406 (by decide +kernel) rfl, zat 130 (by decide +kernel) rfl, ⟨by decide +kernel, by decide +kernel⟩, by decide +kernel, by decide +kernel⟩, zat 1405 (by decide +kernel) rfl⟩
abbrev mX9_isDigit : zMi := (yX9_isDigit, cX9_isDigit, 1, some .boolean)
theorem okX9_isDigit : zOkS mX9_isDigit 1 := ⟨⟨zat 1454 (by decide +kernel) rfl, zat 130 (by decide +kernel) rfl, ⟨by decide +kernel, by decide +kernel⟩, by decide +kernel, by decide +kernel⟩, zat 1453 (by decide +kernel) rfl⟩
abbrev mX9_is : zMi := (yX9_is, cX9_is, 4, some .boolean)
theorem okX9_is : zOkV mX9_is 1 := ⟨⟨zat 1419 (by decide +kernel) rfl, zat 130 (by decide +kernel) rfl, ⟨by decide +kernel, by decide +kernel⟩, by decide +kernel, by decide +kernel⟩, zat 1418 (by decide +kernel) rfl, zat 46 (by decide +kernel) rfl⟩
abbrev mX9_wayWord : zMi := (yX9_wayWord, cX9_wayWord, 1, some .int)
theorem okX9_wayWord : zOkV mX9_wayWord 0 := ⟨⟨zat 1414 (by decide +kernel) rfl, zat 130 (by decide +kernel) rfl, ⟨by decide +kernel, by decide +kernel⟩, by decide +kernel, by decide +kernel⟩, zat 1413 (by decide +kernel) rfl, zat 45 (by decide +kernel) rfl⟩
abbrev mX9_iceWord : zMi := (yX9_iceWord, cX9_iceWord, 1, some .int)
theorem okX9_iceWord : zOkV mX9_iceWord 0 := ⟨⟨zat 1432 (by decide +kernel) rfl, zat 130 (by decide +kernel) rfl, ⟨by decide +kernel, by decide +kernel⟩, by decide +kernel, by decide +kernel⟩, zat 1431 (by decide +kernel) rfl, zat 47 (by decide +kernel) rfl⟩
abbrev mX9_wantWord : zMi := (yX9_wantWord, cX9_wantWord, 1, some .int)
theorem okX9_wantWord : zOkV mX9_wantWord 0 := ⟨⟨zat 1449 (by decide +kernel) rfl, zat 130 (by decide +kernel) rfl, ⟨by decide +kernel, by decide +kernel⟩, by decide +kernel, by decide +kernel⟩, zat 1448 (by decide +kernel) rfl, zat 48 (by decide +kernel) rfl⟩
abbrev mX9_word : zMi := (yX9_word, cX9_word, 1, some .int)
theorem okX9_word : zOkV mX9_word 0 := ⟨⟨zat 1410 (by decide +kernel) rfl, zat 130 (by decide +kernel) rfl, ⟨by decide +kernel, by decide +kernel⟩, by decide +kernel, by decide +kernel⟩, zat 1409 (by decide +kernel) rfl, zat 44 (by decide +kernel) rfl⟩
abbrev mX9_next0 : zMi := (yX9_next0, cX9_next0, 3, none)
theorem okX9_next0 : zOkV mX9_next0 0 := ⟨⟨zat 1399 (by decide +kernel) rfl, zat 130 (by decide +kernel) rfl, ⟨by decide +kernel, by decide +kernel⟩, by decide +kernel, by decide +kernel⟩, zat 1398 (by decide +kernel) rfl, zat 42 (by decide +kernel) rfl⟩
abbrev mX9_bad : zMi := (yX9_bad, cX9_bad, 2, some .boolean)
theorem okX9_bad : zOkV mX9_bad 1 := ⟨⟨zat 1466 (by decide +kernel) rfl, zat 130 (by decide +kernel) rfl, ⟨by decide +kernel, by decide +kernel⟩, by decide +kernel, by decide +kernel⟩, zat 1465 (by decide +kernel) rfl, zat 51 (by decide +kernel) rfl⟩
abbrev mX9_need : zMi := (yX9_need, cX9_need, 2, some .boolean)
theorem okX9_need : zOkV mX9_need 1 := ⟨⟨zat 1478 (by decide +kernel) rfl, zat 130 (by decide +kernel) rfl, ⟨by decide +kernel, by decide +kernel⟩, by decide +kernel, by decide +kernel⟩, zat 1477 (by decide +kernel) rfl, zat 54 (by decide +kernel) rfl⟩
abbrev mX9_lay : zMi := (yX9_lay, cX9_lay, 3, none)
theorem okX9_lay : zOkV mX9_lay 2 := ⟨⟨zat 1502 (by decide +kernel) rfl, zat 130 (by decide +kernel) rfl, ⟨by decide +kernel, by decide +kernel⟩, by decide +kernel, by decide +kernel⟩, zat 1501 (by decide +kernel) rfl, zat 60 (by decide +kernel) rfl⟩
abbrev mX9_opens : zMi := (yX9_opens, cX9_opens, 1, some .boolean)
theorem okX9_opens : zOkV mX9_opens 0 := ⟨⟨zat 1518 (by decide +kernel) rfl, zat 130 (by decide +kernel) rfl, ⟨by decide +kernel, by decide +kernel⟩, by decide +kernel, by decide +kernel⟩, zat 1517 (by decide +kernel) rfl, zat 64 (by decide +kernel) rfl⟩
abbrev mX9_sumUp : zMi := (yX9_sumUp, cX9_sumUp, 2, some .boolean)
theorem okX9_sumUp : zOkV mX9_sumUp 0 := ⟨⟨zat 1490 (by decide +kernel) rfl, zat 130 (by decide +kernel) rfl, ⟨by decide +kernel, by decide +kernel⟩, by decide +kernel, by decide +kernel⟩, zat 1489 (by decide +kernel) rfl, zat 57 (by decide +kernel) rfl⟩
abbrev mX9_product : zMi := (yX9_product, cX9_product, 3, some .boolean)
theorem okX9_product : zOkV mX9_product 0 := ⟨⟨zat 1494 (by decide +kernel) rfl, zat 130 (by decide +kernel) rfl, ⟨by decide +kernel, by decide +kernel⟩, by decide +kernel, by decide +kernel⟩, zat 1493 (by decide +kernel) rfl, zat 58 (by decide +kernel) rfl⟩
abbrev mX9_unit : zMi := (yX9_unit, cX9_unit, 2, some .boolean)
theorem okX9_unit : zOkV mX9_unit 0 := ⟨⟨zat 1498 (by decide +kernel) rfl, zat 130 (by decide +kernel) rfl, ⟨by decide +kernel, by decide +kernel⟩, by decide +kernel, by decide +kernel⟩, zat 1497 (by decide +kernel) rfl, zat 59 (by decide +kernel) rfl⟩
abbrev mX9_any : zMi := (yX9_any, cX9_any, 1, some .boolean)
theorem okX9_any : zOkV mX9_any 0 := ⟨⟨zat 1506 (by decide +kernel) rfl, zat 130 (by decide +kernel) rfl, ⟨by decide +kernel, by decide +kernel⟩, by decide +kernel, by decide +kernel⟩, zat 1505 (by decide +kernel) rfl, zat 61 (by decide +kernel) rfl⟩
abbrev mX9_every : zMi := (yX9_every, cX9_every, 1, some .boolean)
theorem okX9_every : zOkV mX9_every 0 := ⟨⟨zat 1510 (by decide +kernel) rfl, zat 130 (by decide +kernel) rfl, ⟨by decide +kernel, by decide +kernel⟩, by decide +kernel, by decide +kernel⟩, zat 1509 (by decide +kernel) rfl, zat 62 (by decide +kernel) rfl⟩
abbrev mX9_oneTest : zMi := (yX9_oneTest, cX9_oneTest, 2, some .boolean)
theorem okX9_oneTest : zOkV mX9_oneTest 0 := ⟨⟨zat 1514 (by decide +kernel) rfl, zat 130 (by decide +kernel) rfl, ⟨by decide +kernel, by decide +kernel⟩, by decide +kernel, by decide +kernel⟩, zat 1513 (by decide +kernel) rfl, zat 63 (by decide +kernel) rfl⟩
abbrev mX9_aLine : zMi := (yX9_aLine, cX9_aLine, 1, some .boolean)
theorem okX9_aLine : zOkV mX9_aLine 0 := ⟨⟨zat 1486 (by decide +kernel) rfl, zat 130 (by decide +kernel) rfl, ⟨by decide +kernel, by decide +kernel⟩, by decide +kernel, by decide +kernel⟩, zat 1485 (by decide +kernel) rfl, zat 56 (by decide +kernel) rfl⟩
abbrev mX9_readsLaw : zMi := (yX9_readsLaw, cX9_readsLaw, 2, some .boolean)
theorem okX9_readsLaw : zOkV mX9_readsLaw 0 := ⟨⟨zat 1482 (by decide +kernel) rfl, zat 130 (by decide +kernel) rfl, ⟨by decide +kernel, by decide +kernel⟩, by decide +kernel, by decide +kernel⟩, zat 1481 (by decide +kernel) rfl, zat 55 (by decide +kernel) rfl⟩
abbrev mX9_number : zMi := (yX9_number, cX9_number, 3, some .boolean)
theorem okX9_number : zOkV mX9_number 2 := ⟨⟨zat 1470 (by decide +kernel) rfl, zat 130 (by decide +kernel) rfl, ⟨by decide +kernel, by decide +kernel⟩, by decide +kernel, by decide +kernel⟩, zat 1469 (by decide +kernel) rfl, zat 52 (by decide +kernel) rfl⟩
abbrev mX9_someSteps : zMi := (yX9_someSteps, cX9_someSteps, 5, some .boolean)
theorem okX9_someSteps : zOkV mX9_someSteps 2 := ⟨⟨zat 1474 (by decide +kernel) rfl, zat 130 (by decide +kernel) rfl, ⟨by decide +kernel, by decide +kernel⟩, by decide +kernel, by decide +kernel⟩, zat 1473 (by decide +kernel) rfl, zat 53 (by decide +kernel) rfl⟩
abbrev mX9_aWay : zMi := (yX9_aWay, cX9_aWay, 3, some .boolean)
theorem okX9_aWay : zOkV mX9_aWay 0 := ⟨⟨zat 1462 (by decide +kernel) rfl, zat 130 (by decide +kernel) rfl, ⟨by decide +kernel, by decide +kernel⟩, by decide +kernel, by decide +kernel⟩, zat 1461 (by decide +kernel) rfl, zat 50 (by decide +kernel) rfl⟩
abbrev mX9_readsWays : zMi := (yX9_readsWays, cX9_readsWays, 2, some .boolean)
theorem okX9_readsWays : zOkV mX9_readsWays 0 := ⟨⟨zat 1458 (by decide +kernel) rfl, zat 130 (by decide +kernel) rfl, ⟨by decide +kernel, by decide +kernel⟩, by decide +kernel, by decide +kernel⟩, zat 1457 (by decide +kernel) rfl, zat 49 (by decide +kernel) rfl⟩
abbrev mX9_aLetter : zMi := (yX9_aLetter, cX9_aLetter, 3, some .boolean)
theorem okX9_aLetter : zOkV mX9_aLetter 0 := ⟨⟨zat 1526 (by decide +kernel) rfl, zat 130 (by decide +kernel) rfl, ⟨by decide +kernel, by decide +kernel⟩, by decide +kernel, by decide +kernel⟩, zat 1525 (by decide +kernel) rfl, zat 66 (by decide +kernel) rfl⟩
abbrev mX9_readsLetters : zMi := (yX9_readsLetters, cX9_readsLetters, 2, some .boolean)
theorem okX9_readsLetters : zOkV mX9_readsLetters 0 := ⟨⟨zat 1522 (by decide +kernel) rfl, zat 130 (by decide +kernel) rfl, ⟨by decide +kernel, by decide +kernel⟩, by decide +kernel, by decide +kernel⟩, zat 1521 (by decide +kernel) rfl, zat 65 (by decide +kernel) rfl⟩
abbrev mX9_aWant : zMi := (yX9_aWant, cX9_aWant, 1, some .boolean)
theorem okX9_aWant : zOkV mX9_aWant 0 := ⟨⟨zat 1534 (by decide +kernel) rfl, zat 130 (by decide +kernel) rfl, ⟨by decide +kernel, by decide +kernel⟩, by decide +kernel, by decide +kernel⟩, zat 1533 (by decide +kernel) rfl, zat 68 (by decide +kernel) rfl⟩
abbrev mX9_readsWants : zMi := (yX9_readsWants, cX9_readsWants, 2, some .boolean)
theorem okX9_readsWants : zOkV mX9_readsWants 0 := ⟨⟨zat 1530 (by decide +kernel) rfl, zat 130 (by decide +kernel) rfl, ⟨by decide +kernel, by decide +kernel⟩, by decide +kernel, by decide +kernel⟩, zat 1529 (by decide +kernel) rfl, zat 67 (by decide +kernel) rfl⟩
abbrev mX9_putsWays : zMi := (yX9_putsWays, cX9_putsWays, 2, some .int)
theorem okX9_putsWays : zOkV mX9_putsWays 0 := ⟨⟨zat 1542 (by decide +kernel) rfl, zat 130 (by decide +kernel) rfl, ⟨by decide +kernel, by decide +kernel⟩, by decide +kernel, by decide +kernel⟩, zat 1541 (by decide +kernel) rfl, zat 70 (by decide +kernel) rfl⟩
abbrev mX9_putsLaw : zMi := (yX9_putsLaw, cX9_putsLaw, 2, some .int)
theorem okX9_putsLaw : zOkV mX9_putsLaw 0 := ⟨⟨zat 1546 (by decide +kernel) rfl, zat 130 (by decide +kernel) rfl, ⟨by decide +kernel, by decide +kernel⟩, by decide +kernel, by decide +kernel⟩, zat 1545 (by decide +kernel) rfl, zat 71 (by decide +kernel) rfl⟩
abbrev mX9_putsLetters : zMi := (yX9_putsLetters, cX9_putsLetters, 2, some .int)
theorem okX9_putsLetters : zOkV mX9_putsLetters 0 := ⟨⟨zat 1550 (by decide +kernel) rfl, zat 130 (by decide +kernel) rfl, ⟨by decide +kernel, by decide +kernel⟩, by decide +kernel, by decide +kernel⟩, zat 1549 (by decide +kernel) rfl, zat 72 (by decide +kernel) rfl⟩
abbrev mX9_putsWants : zMi := (yX9_putsWants, cX9_putsWants, 2, some .int)
theorem okX9_putsWants : zOkV mX9_putsWants 0 := ⟨⟨zat 1554 (by decide +kernel) rfl, zat 130 (by decide +kernel) rfl, ⟨by decide +kernel, by decide +kernel⟩, by decide +kernel, by decide +kernel⟩, zat 1553 (by decide +kernel) rfl, zat 73 (by decide +kernel) rfl⟩
abbrev mX9_text : zMi := (yX9_text, cX9_text, 3, some .int)
theorem okX9_text : zOkV mX9_text 1 := ⟨⟨zat 1395 (by decide +kernel) rfl, zat 130 (by decide +kernel) rfl, ⟨by decide +kernel, by decide +kernel⟩, by decide +kernel, by decide +kernel⟩, zat 1393 (by decide +kernel) rfl, zat 1394 (by decide +kernel) rfl⟩
abbrev mX9_fault : zMi := (yX9_fault, cX9_fault, 2, some .int)
theorem okX9_fault : zOkV mX9_fault 1 := ⟨⟨zat 1558 (by decide +kernel) rfl, zat 130 (by decide +kernel) rfl, ⟨by decide +kernel, by decide +kernel⟩, by decide +kernel, by decide +kernel⟩, zat 1556 (by decide +kernel) rfl, zat 1557 (by decide +kernel) rfl⟩
abbrev mX9_both : zMi := (yX9_both, cX9_both, 3, some .int)
theorem okX9_both : zOkS mX9_both 3 := ⟨⟨zat 1642 (by decide +kernel) rfl, zat 130 (by decide +kernel) rfl, ⟨by decide +kernel, by decide +kernel⟩, by decide +kernel, by decide +kernel⟩, zat 1641 (by decide +kernel) rfl⟩
abbrev mX9_comesTo : zMi := (yX9_comesTo, cX9_comesTo, 8, some .int)
theorem okX9_comesTo : zOkV mX9_comesTo 3 := ⟨⟨zat 1639 (by decide +kernel) rfl, zat 130 (by decide +kernel) rfl, ⟨by decide +kernel, by decide +kernel⟩, by decide +kernel, by decide +kernel⟩, zat 1638 (by decide +kernel) rfl, zat 90 (by decide +kernel) rfl⟩
abbrev mX9_isSo : zMi := (yX9_isSo, cX9_isSo, 2, some .boolean)
theorem okX9_isSo : zOkV mX9_isSo 1 := ⟨⟨zat 1635 (by decide +kernel) rfl, zat 130 (by decide +kernel) rfl, ⟨by decide +kernel, by decide +kernel⟩, by decide +kernel, by decide +kernel⟩, zat 1634 (by decide +kernel) rfl, zat 89 (by decide +kernel) rfl⟩
abbrev mX9_says : zMi := (yX9_says, cX9_says, 4, some .int)
theorem okX9_says : zOkV mX9_says 2 := ⟨⟨zat 1631 (by decide +kernel) rfl, zat 130 (by decide +kernel) rfl, ⟨by decide +kernel, by decide +kernel⟩, by decide +kernel, by decide +kernel⟩, zat 1630 (by decide +kernel) rfl, zat 88 (by decide +kernel) rfl⟩
abbrev mX9_isSeen : zMi := (yX9_isSeen, cX9_isSeen, 2, some .boolean)
theorem okX9_isSeen : zOkV mX9_isSeen 1 := ⟨⟨zat 1623 (by decide +kernel) rfl, zat 130 (by decide +kernel) rfl, ⟨by decide +kernel, by decide +kernel⟩, by decide +kernel, by decide +kernel⟩, zat 1622 (by decide +kernel) rfl, zat 86 (by decide +kernel) rfl⟩
abbrev mX9_seenAt : zMi := (yX9_seenAt, cX9_seenAt, 3, some .int)
theorem okX9_seenAt : zOkV mX9_seenAt 2 := ⟨⟨zat 1619 (by decide +kernel) rfl, zat 130 (by decide +kernel) rfl, ⟨by decide +kernel, by decide +kernel⟩, by decide +kernel, by decide +kernel⟩, zat 1618 (by decide +kernel) rfl, zat 85 (by decide +kernel) rfl⟩
abbrev mX9_aroundOf : zMi := (yX9_aroundOf, cX9_aroundOf, 4, some .int)
theorem okX9_aroundOf : zOkV mX9_aroundOf 1 := ⟨⟨zat 1615 (by decide +kernel) rfl, zat 130 (by decide +kernel) rfl, ⟨by decide +kernel, by decide +kernel⟩, by decide +kernel, by decide +kernel⟩, zat 1614 (by decide +kernel) rfl, zat 84 (by decide +kernel) rfl⟩
abbrev mX9_lays : zMi := (yX9_lays, cX9_lays, 4, none)
theorem okX9_lays : zOkV mX9_lays 1 := ⟨⟨zat 1611 (by decide +kernel) rfl, zat 130 (by decide +kernel) rfl, ⟨by decide +kernel, by decide +kernel⟩, by decide +kernel, by decide +kernel⟩, zat 1610 (by decide +kernel) rfl, zat 83 (by decide +kernel) rfl⟩
abbrev mX9_isAnothers : zMi := (yX9_isAnothers, cX9_isAnothers, 3, some .boolean)
theorem okX9_isAnothers : zOkV mX9_isAnothers 2 := ⟨⟨zat 1627 (by decide +kernel) rfl, zat 130 (by decide +kernel) rfl, ⟨by decide +kernel, by decide +kernel⟩, by decide +kernel, by decide +kernel⟩, zat 1626 (by decide +kernel) rfl, zat 87 (by decide +kernel) rfl⟩
abbrev mX9_cutOf : zMi := (yX9_cutOf, cX9_cutOf, 3, some .int)
theorem okX9_cutOf : zOkV mX9_cutOf 2 := ⟨⟨zat 1607 (by decide +kernel) rfl, zat 130 (by decide +kernel) rfl, ⟨by decide +kernel, by decide +kernel⟩, by decide +kernel, by decide +kernel⟩, zat 1606 (by decide +kernel) rfl, zat 82 (by decide +kernel) rfl⟩
abbrev mX9_thawOf : zMi := (yX9_thawOf, cX9_thawOf, 2, some .int)
theorem okX9_thawOf : zOkV mX9_thawOf 1 := ⟨⟨zat 1649 (by decide +kernel) rfl, zat 130 (by decide +kernel) rfl, ⟨by decide +kernel, by decide +kernel⟩, by decide +kernel, by decide +kernel⟩, zat 1648 (by decide +kernel) rfl, zat 91 (by decide +kernel) rfl⟩
abbrev mX9_keeps : zMi := (yX9_keeps, cX9_keeps, 2, none)
theorem okX9_keeps : zOkV mX9_keeps 0 := ⟨⟨zat 1570 (by decide +kernel) rfl, zat 130 (by decide +kernel) rfl, ⟨by decide +kernel, by decide +kernel⟩, by decide +kernel, by decide +kernel⟩, zat 1569 (by decide +kernel) rfl, zat 74 (by decide +kernel) rfl⟩
abbrev mX9_undo : zMi := (yX9_undo, cX9_undo, 2, some .boolean)
theorem okX9_undo : zOkV mX9_undo 0 := ⟨⟨zat 1562 (by decide +kernel) rfl, zat 130 (by decide +kernel) rfl, ⟨by decide +kernel, by decide +kernel⟩, by decide +kernel, by decide +kernel⟩, zat 1560 (by decide +kernel) rfl, zat 1561 (by decide +kernel) rfl⟩
abbrev mX9_deepens : zMi := (yX9_deepens, cX9_deepens, 8, none)
theorem okX9_deepens : zOkV mX9_deepens 5 := ⟨⟨zat 1588 (by decide +kernel) rfl, zat 130 (by decide +kernel) rfl, ⟨by decide +kernel, by decide +kernel⟩, by decide +kernel, by decide +kernel⟩, zat 1587 (by decide +kernel) rfl, zat 78 (by decide +kernel) rfl⟩
abbrev mX9_stepOf : zMi := (yX9_stepOf, cX9_stepOf, 3, some .int)
theorem okX9_stepOf : zOkV mX9_stepOf 2 := ⟨⟨zat 1599 (by decide +kernel) rfl, zat 130 (by decide +kernel) rfl, ⟨by decide +kernel, by decide +kernel⟩, by decide +kernel, by decide +kernel⟩, zat 1598 (by decide +kernel) rfl, zat 80 (by decide +kernel) rfl⟩
abbrev mX9_wentTo : zMi := (yX9_wentTo, cX9_wentTo, 5, some .int)
theorem okX9_wentTo : zOkV mX9_wentTo 2 := ⟨⟨zat 1603 (by decide +kernel) rfl, zat 130 (by decide +kernel) rfl, ⟨by decide +kernel, by decide +kernel⟩, by decide +kernel, by decide +kernel⟩, zat 1602 (by decide +kernel) rfl, zat 81 (by decide +kernel) rfl⟩
abbrev mX9_goesOn : zMi := (yX9_goesOn, cX9_goesOn, 7, none)
theorem okX9_goesOn : zOkV mX9_goesOn 2 := ⟨⟨zat 1595 (by decide +kernel) rfl, zat 130 (by decide +kernel) rfl, ⟨by decide +kernel, by decide +kernel⟩, by decide +kernel, by decide +kernel⟩, zat 1594 (by decide +kernel) rfl, zat 79 (by decide +kernel) rfl⟩
abbrev mX9_falls : zMi := (yX9_falls, cX9_falls, 2, some .boolean)
theorem okX9_falls : zOkV mX9_falls 1 := ⟨⟨zat 1578 (by decide +kernel) rfl, zat 130 (by decide +kernel) rfl, ⟨by decide +kernel, by decide +kernel⟩, by decide +kernel, by decide +kernel⟩, zat 1577 (by decide +kernel) rfl, zat 76 (by decide +kernel) rfl⟩
abbrev mX9_aMinute : zMi := (yX9_aMinute, cX9_aMinute, 4, some .int)
theorem okX9_aMinute : zOkV mX9_aMinute 1 := ⟨⟨zat 1574 (by decide +kernel) rfl, zat 130 (by decide +kernel) rfl, ⟨by decide +kernel, by decide +kernel⟩, by decide +kernel, by decide +kernel⟩, zat 1573 (by decide +kernel) rfl, zat 75 (by decide +kernel) rfl⟩
abbrev mX9_minutes : zMi := (yX9_minutes, cX9_minutes, 4, some .int)
theorem okX9_minutes : zOkV mX9_minutes 1 := ⟨⟨zat 1566 (by decide +kernel) rfl, zat 130 (by decide +kernel) rfl, ⟨by decide +kernel, by decide +kernel⟩, by decide +kernel, by decide +kernel⟩, zat 1564 (by decide +kernel) rfl, zat 1565 (by decide +kernel) rfl⟩
abbrev mX9_laysAside : zMi := (yX9_laysAside, cX9_laysAside, 2, none)
theorem okX9_laysAside : zOkV mX9_laysAside 0 := ⟨⟨zat 1670 (by decide +kernel) rfl, zat 130 (by decide +kernel) rfl, ⟨by decide +kernel, by decide +kernel⟩, by decide +kernel, by decide +kernel⟩, zat 1669 (by decide +kernel) rfl, zat 94 (by decide +kernel) rfl⟩
abbrev mX9_putsBack : zMi := (yX9_putsBack, cX9_putsBack, 2, none)
theorem okX9_putsBack : zOkV mX9_putsBack 0 := ⟨⟨zat 1678 (by decide +kernel) rfl, zat 130 (by decide +kernel) rfl, ⟨by decide +kernel, by decide +kernel⟩, by decide +kernel, by decide +kernel⟩, zat 1677 (by decide +kernel) rfl, zat 96 (by decide +kernel) rfl⟩
abbrev mX9_shapeOf : zMi := (yX9_shapeOf, cX9_shapeOf, 4, some .int)
theorem okX9_shapeOf : zOkV mX9_shapeOf 1 := ⟨⟨zat 1661 (by decide +kernel) rfl, zat 130 (by decide +kernel) rfl, ⟨by decide +kernel, by decide +kernel⟩, by decide +kernel, by decide +kernel⟩, zat 1660 (by decide +kernel) rfl, zat 93 (by decide +kernel) rfl⟩
abbrev mX9_readIn : zMi := (yX9_readIn, cX9_readIn, 4, some .int)
theorem okX9_readIn : zOkV mX9_readIn 1 := ⟨⟨zat 1657 (by decide +kernel) rfl, zat 130 (by decide +kernel) rfl, ⟨by decide +kernel, by decide +kernel⟩, by decide +kernel, by decide +kernel⟩, zat 1656 (by decide +kernel) rfl, zat 92 (by decide +kernel) rfl⟩
abbrev mX9_isRead : zMi := (yX9_isRead, cX9_isRead, 2, some .boolean)
theorem okX9_isRead : zOkV mX9_isRead 1 := ⟨⟨zat 1690 (by decide +kernel) rfl, zat 130 (by decide +kernel) rfl, ⟨by decide +kernel, by decide +kernel⟩, by decide +kernel, by decide +kernel⟩, zat 1689 (by decide +kernel) rfl, zat 98 (by decide +kernel) rfl⟩
abbrev mX9_readMany : zMi := (yX9_readMany, cX9_readMany, 3, some .int)
theorem okX9_readMany : zOkV mX9_readMany 0 := ⟨⟨zat 1686 (by decide +kernel) rfl, zat 130 (by decide +kernel) rfl, ⟨by decide +kernel, by decide +kernel⟩, by decide +kernel, by decide +kernel⟩, zat 1685 (by decide +kernel) rfl, zat 97 (by decide +kernel) rfl⟩
abbrev mX9_seenAll : zMi := (yX9_seenAll, cX9_seenAll, 4, some .long)
theorem okX9_seenAll : zOkV mX9_seenAll 0 := ⟨⟨zat 1674 (by decide +kernel) rfl, zat 130 (by decide +kernel) rfl, ⟨by decide +kernel, by decide +kernel⟩, by decide +kernel, by decide +kernel⟩, zat 1673 (by decide +kernel) rfl, zat 95 (by decide +kernel) rfl⟩
abbrev mX9_read : zMi := (yX9_read, cX9_read, 2, some .int)
theorem okX9_read : zOkV mX9_read 1 := ⟨⟨zat 1653 (by decide +kernel) rfl, zat 130 (by decide +kernel) rfl, ⟨by decide +kernel, by decide +kernel⟩, by decide +kernel, by decide +kernel⟩, zat 1651 (by decide +kernel) rfl, zat 1652 (by decide +kernel) rfl⟩
abbrev mX9_goes : zMi := (yX9_goes, cX9_goes, 4, some .long)
theorem okX9_goes : zOkV mX9_goes 1 := ⟨⟨zat 1665 (by decide +kernel) rfl, zat 130 (by decide +kernel) rfl, ⟨by decide +kernel, by decide +kernel⟩, by decide +kernel, by decide +kernel⟩, zat 1663 (by decide +kernel) rfl, zat 1664 (by decide +kernel) rfl⟩
abbrev mX9_wants : zMi := (yX9_wants, cX9_wants, 3, some .int)
theorem okX9_wants : zOkV mX9_wants 1 := ⟨⟨zat 1682 (by decide +kernel) rfl, zat 130 (by decide +kernel) rfl, ⟨by decide +kernel, by decide +kernel⟩, by decide +kernel, by decide +kernel⟩, zat 1680 (by decide +kernel) rfl, zat 1681 (by decide +kernel) rfl⟩
abbrev mX9_readSet : zMi := (yX9_readSet, cX9_readSet, 3, some .int)
theorem okX9_readSet : zOkV mX9_readSet 0 := ⟨⟨zat 1698 (by decide +kernel) rfl, zat 130 (by decide +kernel) rfl, ⟨by decide +kernel, by decide +kernel⟩, by decide +kernel, by decide +kernel⟩, zat 1697 (by decide +kernel) rfl, zat 99 (by decide +kernel) rfl⟩
abbrev mX9_leastIn : zMi := (yX9_leastIn, cX9_leastIn, 2, some .int)
theorem okX9_leastIn : zOkS mX9_leastIn 1 := ⟨⟨zat 1701 (by decide +kernel) rfl, zat 130 (by decide +kernel) rfl, ⟨by decide +kernel, by decide +kernel⟩, by decide +kernel, by decide +kernel⟩, zat 1700 (by decide +kernel) rfl⟩
abbrev mX9_spoilt : zMi := (yX9_spoilt, cX9_spoilt, 6, some .int)
theorem okX9_spoilt : zOkV mX9_spoilt 1 := ⟨⟨zat 1694 (by decide +kernel) rfl, zat 130 (by decide +kernel) rfl, ⟨by decide +kernel, by decide +kernel⟩, by decide +kernel, by decide +kernel⟩, zat 1692 (by decide +kernel) rfl, zat 1693 (by decide +kernel) rfl⟩
abbrev mX9_laysGoals : zMi := (yX9_laysGoals, cX9_laysGoals, 4, some .boolean)
theorem okX9_laysGoals : zOkV mX9_laysGoals 1 := ⟨⟨zat 1709 (by decide +kernel) rfl, zat 130 (by decide +kernel) rfl, ⟨by decide +kernel, by decide +kernel⟩, by decide +kernel, by decide +kernel⟩, zat 1708 (by decide +kernel) rfl, zat 100 (by decide +kernel) rfl⟩
abbrev mX9_apart : zMi := (yX9_apart, cX9_apart, 4, some .int)
theorem okX9_apart : zOkS mX9_apart 2 := ⟨⟨zat 1725 (by decide +kernel) rfl, zat 130 (by decide +kernel) rfl, ⟨by decide +kernel, by decide +kernel⟩, by decide +kernel, by decide +kernel⟩, zat 1724 (by decide +kernel) rfl⟩
abbrev mX9_all : zMi := (yX9_all, cX9_all, 1, some .int)
theorem okX9_all : zOkV mX9_all 0 := ⟨⟨zat 1713 (by decide +kernel) rfl, zat 130 (by decide +kernel) rfl, ⟨by decide +kernel, by decide +kernel⟩, by decide +kernel, by decide +kernel⟩, zat 1712 (by decide +kernel) rfl, zat 101 (by decide +kernel) rfl⟩
abbrev mX9_laysRoutes : zMi := (yX9_laysRoutes, cX9_laysRoutes, 4, none)
theorem okX9_laysRoutes : zOkV mX9_laysRoutes 1 := ⟨⟨zat 1717 (by decide +kernel) rfl, zat 130 (by decide +kernel) rfl, ⟨by decide +kernel, by decide +kernel⟩, by decide +kernel, by decide +kernel⟩, zat 1716 (by decide +kernel) rfl, zat 102 (by decide +kernel) rfl⟩
abbrev mX9_leastOver : zMi := (yX9_leastOver, cX9_leastOver, 5, some .int)
theorem okX9_leastOver : zOkV mX9_leastOver 2 := ⟨⟨zat 1721 (by decide +kernel) rfl, zat 130 (by decide +kernel) rfl, ⟨by decide +kernel, by decide +kernel⟩, by decide +kernel, by decide +kernel⟩, zat 1720 (by decide +kernel) rfl, zat 103 (by decide +kernel) rfl⟩
abbrev mX9_route : zMi := (yX9_route, cX9_route, 9, some .int)
theorem okX9_route : zOkV mX9_route 3 := ⟨⟨zat 1705 (by decide +kernel) rfl, zat 130 (by decide +kernel) rfl, ⟨by decide +kernel, by decide +kernel⟩, by decide +kernel, by decide +kernel⟩, zat 1703 (by decide +kernel) rfl, zat 1704 (by decide +kernel) rfl⟩
abbrev mX9_laysCosts : zMi := (yX9_laysCosts, cX9_laysCosts, 3, none)
theorem okX9_laysCosts : zOkV mX9_laysCosts 0 := ⟨⟨zat 1733 (by decide +kernel) rfl, zat 130 (by decide +kernel) rfl, ⟨by decide +kernel, by decide +kernel⟩, by decide +kernel, by decide +kernel⟩, zat 1732 (by decide +kernel) rfl, zat 104 (by decide +kernel) rfl⟩
abbrev mX9_isDoneBy : zMi := (yX9_isDoneBy, cX9_isDoneBy, 5, some .boolean)
theorem okX9_isDoneBy : zOkV mX9_isDoneBy 2 := ⟨⟨zat 1741 (by decide +kernel) rfl, zat 130 (by decide +kernel) rfl, ⟨by decide +kernel, by decide +kernel⟩, by decide +kernel, by decide +kernel⟩, zat 1740 (by decide +kernel) rfl, zat 106 (by decide +kernel) rfl⟩
abbrev mX9_takesSome : zMi := (yX9_takesSome, cX9_takesSome, 5, some .boolean)
theorem okX9_takesSome : zOkV mX9_takesSome 3 := ⟨⟨zat 1745 (by decide +kernel) rfl, zat 130 (by decide +kernel) rfl, ⟨by decide +kernel, by decide +kernel⟩, by decide +kernel, by decide +kernel⟩, zat 1744 (by decide +kernel) rfl, zat 107 (by decide +kernel) rfl⟩
abbrev mX9_soonestSteps : zMi := (yX9_soonestSteps, cX9_soonestSteps, 2, some .int)
theorem okX9_soonestSteps : zOkV mX9_soonestSteps 0 := ⟨⟨zat 1737 (by decide +kernel) rfl, zat 130 (by decide +kernel) rfl, ⟨by decide +kernel, by decide +kernel⟩, by decide +kernel, by decide +kernel⟩, zat 1736 (by decide +kernel) rfl, zat 105 (by decide +kernel) rfl⟩
abbrev mX9_takerOf : zMi := (yX9_takerOf, cX9_takerOf, 7, some .int)
theorem okX9_takerOf : zOkV mX9_takerOf 2 := ⟨⟨zat 1749 (by decide +kernel) rfl, zat 130 (by decide +kernel) rfl, ⟨by decide +kernel, by decide +kernel⟩, by decide +kernel, by decide +kernel⟩, zat 1748 (by decide +kernel) rfl, zat 108 (by decide +kernel) rfl⟩
abbrev mX9_soonest : zMi := (yX9_soonest, cX9_soonest, 5, some .int)
theorem okX9_soonest : zOkV mX9_soonest 2 := ⟨⟨zat 1729 (by decide +kernel) rfl, zat 130 (by decide +kernel) rfl, ⟨by decide +kernel, by decide +kernel⟩, by decide +kernel, by decide +kernel⟩, zat 1727 (by decide +kernel) rfl, zat 1728 (by decide +kernel) rfl⟩
abbrev mX9_letter : zMi := (yX9_letter, cX9_letter, 2, some .int)
theorem okX9_letter : zOkV mX9_letter 1 := ⟨⟨zat 1753 (by decide +kernel) rfl, zat 130 (by decide +kernel) rfl, ⟨by decide +kernel, by decide +kernel⟩, by decide +kernel, by decide +kernel⟩, zat 1751 (by decide +kernel) rfl, zat 1752 (by decide +kernel) rfl⟩
abbrev mX9_want : zMi := (yX9_want, cX9_want, 3, some .int)
theorem okX9_want : zOkV mX9_want 2 := ⟨⟨zat 1757 (by decide +kernel) rfl, zat 130 (by decide +kernel) rfl, ⟨by decide +kernel, by decide +kernel⟩, by decide +kernel, by decide +kernel⟩, zat 1755 (by decide +kernel) rfl, zat 1756 (by decide +kernel) rfl⟩
abbrev mX9_beneath : zMi := (yX9_beneath, cX9_beneath, 5, some .int)
theorem okX9_beneath : zOkV mX9_beneath 2 := ⟨⟨zat 1761 (by decide +kernel) rfl, zat 130 (by decide +kernel) rfl, ⟨by decide +kernel, by decide +kernel⟩, by decide +kernel, by decide +kernel⟩, zat 1759 (by decide +kernel) rfl, zat 1760 (by decide +kernel) rfl⟩
abbrev mX9_count : zMi := (yX9_count, cX9_count, 3, some .int)
theorem okX9_count : zOkS mX9_count 1 := ⟨⟨zat 1768 (by decide +kernel) rfl, zat 130 (by decide +kernel) rfl, ⟨by decide +kernel, by decide +kernel⟩, by decide +kernel, by decide +kernel⟩, zat 1767 (by decide +kernel) rfl⟩
abbrev mX9_greaterPart : zMi := (yX9_greaterPart, cX9_greaterPart, 5, some .int)
theorem okX9_greaterPart : zOkV mX9_greaterPart 2 := ⟨⟨zat 1772 (by decide +kernel) rfl, zat 130 (by decide +kernel) rfl, ⟨by decide +kernel, by decide +kernel⟩, by decide +kernel, by decide +kernel⟩, zat 1771 (by decide +kernel) rfl, zat 109 (by decide +kernel) rfl⟩
abbrev mX9_lookAt : zMi := (yX9_lookAt, cX9_lookAt, 4, some .int)
theorem okX9_lookAt : zOkV mX9_lookAt 1 := ⟨⟨zat 1765 (by decide +kernel) rfl, zat 130 (by decide +kernel) rfl, ⟨by decide +kernel, by decide +kernel⟩, by decide +kernel, by decide +kernel⟩, zat 1763 (by decide +kernel) rfl, zat 1764 (by decide +kernel) rfl⟩
abbrev mX9_cutsOf : zMi := (yX9_cutsOf, cX9_cutsOf, 6, some .int)
theorem okX9_cutsOf : zOkV mX9_cutsOf 2 := ⟨⟨zat 1780 (by decide +kernel) rfl, zat 130 (by decide +kernel) rfl, ⟨by decide +kernel, by decide +kernel⟩, by decide +kernel, by decide +kernel⟩, zat 1779 (by decide +kernel) rfl, zat 110 (by decide +kernel) rfl⟩
abbrev mX9_who : zMi := (yX9_who, cX9_who, 8, some .int)
theorem okX9_who : zOkV mX9_who 2 := ⟨⟨zat 1776 (by decide +kernel) rfl, zat 130 (by decide +kernel) rfl, ⟨by decide +kernel, by decide +kernel⟩, by decide +kernel, by decide +kernel⟩, zat 1774 (by decide +kernel) rfl, zat 1775 (by decide +kernel) rfl⟩
abbrev mX9_areApart : zMi := (yX9_areApart, cX9_areApart, 5, some .boolean)
theorem okX9_areApart : zOkV mX9_areApart 2 := ⟨⟨zat 1788 (by decide +kernel) rfl, zat 130 (by decide +kernel) rfl, ⟨by decide +kernel, by decide +kernel⟩, by decide +kernel, by decide +kernel⟩, zat 1787 (by decide +kernel) rfl, zat 111 (by decide +kernel) rfl⟩
abbrev mX9_holds : zMi := (yX9_holds, cX9_holds, 5, some .int)
theorem okX9_holds : zOkV mX9_holds 2 := ⟨⟨zat 1784 (by decide +kernel) rfl, zat 130 (by decide +kernel) rfl, ⟨by decide +kernel, by decide +kernel⟩, by decide +kernel, by decide +kernel⟩, zat 1782 (by decide +kernel) rfl, zat 1783 (by decide +kernel) rfl⟩
abbrev mX9_comesBy : zMi := (yX9_comesBy, cX9_comesBy, 3, none)
theorem okX9_comesBy : zOkV mX9_comesBy 2 := ⟨⟨zat 1800 (by decide +kernel) rfl, zat 130 (by decide +kernel) rfl, ⟨by decide +kernel, by decide +kernel⟩, by decide +kernel, by decide +kernel⟩, zat 1799 (by decide +kernel) rfl, zat 113 (by decide +kernel) rfl⟩
abbrev mX9_spreads : zMi := (yX9_spreads, cX9_spreads, 6, none)
theorem okX9_spreads : zOkV mX9_spreads 2 := ⟨⟨zat 1804 (by decide +kernel) rfl, zat 130 (by decide +kernel) rfl, ⟨by decide +kernel, by decide +kernel⟩, by decide +kernel, by decide +kernel⟩, zat 1803 (by decide +kernel) rfl, zat 114 (by decide +kernel) rfl⟩
abbrev mX9_oneMore : zMi := (yX9_oneMore, cX9_oneMore, 4, some .boolean)
theorem okX9_oneMore : zOkV mX9_oneMore 2 := ⟨⟨zat 1796 (by decide +kernel) rfl, zat 130 (by decide +kernel) rfl, ⟨by decide +kernel, by decide +kernel⟩, by decide +kernel, by decide +kernel⟩, zat 1795 (by decide +kernel) rfl, zat 112 (by decide +kernel) rfl⟩
abbrev mX9_wayBetween : zMi := (yX9_wayBetween, cX9_wayBetween, 4, some .int)
theorem okX9_wayBetween : zOkV mX9_wayBetween 2 := ⟨⟨zat 1812 (by decide +kernel) rfl, zat 130 (by decide +kernel) rfl, ⟨by decide +kernel, by decide +kernel⟩, by decide +kernel, by decide +kernel⟩, zat 1811 (by decide +kernel) rfl, zat 116 (by decide +kernel) rfl⟩
abbrev mX9_turnsBack : zMi := (yX9_turnsBack, cX9_turnsBack, 7, none)
theorem okX9_turnsBack : zOkV mX9_turnsBack 2 := ⟨⟨zat 1808 (by decide +kernel) rfl, zat 130 (by decide +kernel) rfl, ⟨by decide +kernel, by decide +kernel⟩, by decide +kernel, by decide +kernel⟩, zat 1807 (by decide +kernel) rfl, zat 115 (by decide +kernel) rfl⟩
abbrev mX9_parts : zMi := (yX9_parts, cX9_parts, 4, some .int)
theorem okX9_parts : zOkV mX9_parts 2 := ⟨⟨zat 1792 (by decide +kernel) rfl, zat 130 (by decide +kernel) rfl, ⟨by decide +kernel, by decide +kernel⟩, by decide +kernel, by decide +kernel⟩, zat 1790 (by decide +kernel) rfl, zat 1791 (by decide +kernel) rfl⟩
abbrev mX9_yet : zMi := (yX9_yet, cX9_yet, 7, some .int)
theorem okX9_yet : zOkV mX9_yet 3 := ⟨⟨zat 1816 (by decide +kernel) rfl, zat 130 (by decide +kernel) rfl, ⟨by decide +kernel, by decide +kernel⟩, by decide +kernel, by decide +kernel⟩, zat 1814 (by decide +kernel) rfl, zat 1815 (by decide +kernel) rfl⟩
abbrev mX9_crossedBy : zMi := (yX9_crossedBy, cX9_crossedBy, 6, some .int)
theorem okX9_crossedBy : zOkV mX9_crossedBy 1 := ⟨⟨zat 1830 (by decide +kernel) rfl, zat 130 (by decide +kernel) rfl, ⟨by decide +kernel, by decide +kernel⟩, by decide +kernel, by decide +kernel⟩, zat 1829 (by decide +kernel) rfl, zat 117 (by decide +kernel) rfl⟩
abbrev mX9_heard : zMi := (yX9_heard, cX9_heard, 6, some .long)
theorem okX9_heard : zOkV mX9_heard 2 := ⟨⟨zat 1822 (by decide +kernel) rfl, zat 130 (by decide +kernel) rfl, ⟨by decide +kernel, by decide +kernel⟩, by decide +kernel, by decide +kernel⟩, zat 1820 (by decide +kernel) rfl, zat 1821 (by decide +kernel) rfl⟩
abbrev mX9_of : zMi := (yX9_of, cX9_of, 3, some .int)
theorem okX9_of : zOkV mX9_of 2 := ⟨⟨zat 1826 (by decide +kernel) rfl, zat 130 (by decide +kernel) rfl, ⟨by decide +kernel, by decide +kernel⟩, by decide +kernel, by decide +kernel⟩, zat 1824 (by decide +kernel) rfl, zat 1825 (by decide +kernel) rfl⟩
abbrev mX9_at : zMi := (yX9_at, cX9_at, 3, some .int)
theorem okX9_at : zOkV mX9_at 2 := ⟨⟨zat 1834 (by decide +kernel) rfl, zat 130 (by decide +kernel) rfl, ⟨by decide +kernel, by decide +kernel⟩, by decide +kernel, by decide +kernel⟩, zat 1832 (by decide +kernel) rfl, zat 1833 (by decide +kernel) rfl⟩
abbrev mX9_cut : zMi := (yX9_cut, cX9_cut, 3, some .int)
theorem okX9_cut : zOkV mX9_cut 2 := ⟨⟨zat 1838 (by decide +kernel) rfl, zat 130 (by decide +kernel) rfl, ⟨by decide +kernel, by decide +kernel⟩, by decide +kernel, by decide +kernel⟩, zat 1836 (by decide +kernel) rfl, zat 1837 (by decide +kernel) rfl⟩
abbrev mX9_book : zMi := (yX9_book, cX9_book, 3, some .int)
theorem okX9_book : zOkV mX9_book 2 := ⟨⟨zat 1842 (by decide +kernel) rfl, zat 130 (by decide +kernel) rfl, ⟨by decide +kernel, by decide +kernel⟩, by decide +kernel, by decide +kernel⟩, zat 1840 (by decide +kernel) rfl, zat 1841 (by decide +kernel) rfl⟩
abbrev mX9_image : zMi := (yX9_image, cX9_image, 3, some .boolean)
theorem okX9_image : zOkV mX9_image 1 := ⟨⟨zat 1846 (by decide +kernel) rfl, zat 130 (by decide +kernel) rfl, ⟨by decide +kernel, by decide +kernel⟩, by decide +kernel, by decide +kernel⟩, zat 1844 (by decide +kernel) rfl, zat 1845 (by decide +kernel) rfl⟩
abbrev mX9_seenMany : zMi := (yX9_seenMany, cX9_seenMany, 3, some .int)
theorem okX9_seenMany : zOkV mX9_seenMany 0 := ⟨⟨zat 1854 (by decide +kernel) rfl, zat 130 (by decide +kernel) rfl, ⟨by decide +kernel, by decide +kernel⟩, by decide +kernel, by decide +kernel⟩, zat 1853 (by decide +kernel) rfl, zat 118 (by decide +kernel) rfl⟩
abbrev mX9_look : zMi := (yX9_look, cX9_look, 2, some .int)
theorem okX9_look : zOkV mX9_look 1 := ⟨⟨zat 1850 (by decide +kernel) rfl, zat 130 (by decide +kernel) rfl, ⟨by decide +kernel, by decide +kernel⟩, by decide +kernel, by decide +kernel⟩, zat 1848 (by decide +kernel) rfl, zat 1849 (by decide +kernel) rfl⟩
abbrev mJ6_bitCount_0f7a4 : zMi := (yJ6_bitCount_0f7a4, cJ6_bitCount_0f7a4, 1, some .int)
theorem okJ6_bitCount_0f7a4 : zOkS mJ6_bitCount_0f7a4 1 := ⟨⟨zat 981 (by decide +kernel) rfl, zat 137 (by decide +kernel) rfl, ⟨by decide +kernel, by decide +kernel⟩, by decide +kernel, by decide +kernel⟩, zat 980 (by decide +kernel) rfl⟩
abbrev mJ13_bitCount_95d88 : zMi := (yJ13_bitCount_95d88, cJ13_bitCount_95d88, 2, some .int)
theorem okJ13_bitCount_95d88 : zOkS mJ13_bitCount_95d88 1 := ⟨⟨zat 1006 (by decide +kernel) rfl, zat 138 (by decide +kernel) rfl, ⟨by decide +kernel, by decide +kernel⟩, by decide +kernel, by decide +kernel⟩, zat 1005 (by decide +kernel) rfl⟩
abbrev mJ9_abs_0f7a4 : zMi := (yJ9_abs_0f7a4, cJ9_abs_0f7a4, 1, some .int)
theorem okJ9_abs_0f7a4 : zOkS mJ9_abs_0f7a4 1 := ⟨⟨zat 1032 (by decide +kernel) rfl, zat 136 (by decide +kernel) rfl, ⟨by decide +kernel, by decide +kernel⟩, by decide +kernel, by decide +kernel⟩, zat 1031 (by decide +kernel) rfl⟩
abbrev mJ9_max_7cf53 : zMi := (yJ9_max_7cf53, cJ9_max_7cf53, 2, some .int)
theorem okJ9_max_7cf53 : zOkS mJ9_max_7cf53 2 := ⟨⟨zat 883 (by decide +kernel) rfl, zat 136 (by decide +kernel) rfl, ⟨by decide +kernel, by decide +kernel⟩, by decide +kernel, by decide +kernel⟩, zat 882 (by decide +kernel) rfl⟩
abbrev mJ9_min_7cf53 : zMi := (yJ9_min_7cf53, cJ9_min_7cf53, 2, some .int)
theorem okJ9_min_7cf53 : zOkS mJ9_min_7cf53 2 := ⟨⟨zat 820 (by decide +kernel) rfl, zat 136 (by decide +kernel) rfl, ⟨by decide +kernel, by decide +kernel⟩, by decide +kernel, by decide +kernel⟩, zat 819 (by decide +kernel) rfl⟩
abbrev mJ0_length_8abf5 : zMi := (yJ0_length_8abf5, cJ0_length_8abf5, 1, some .int)
theorem okJ0_length_8abf5 : zOkV mJ0_length_8abf5 0 := ⟨⟨zat 591 (by decide +kernel) rfl, zat 131 (by decide +kernel) rfl, ⟨by decide +kernel, by decide +kernel⟩, by decide +kernel, by decide +kernel⟩, zat 589 (by decide +kernel) rfl, zat 590 (by decide +kernel) rfl⟩
abbrev mJ0_charAt_5068e : zMi := (yJ0_charAt_5068e, cJ0_charAt_5068e, 2, some .char)
theorem okJ0_charAt_5068e : zOkV mJ0_charAt_5068e 1 := ⟨⟨zat 601 (by decide +kernel) rfl, zat 131 (by decide +kernel) rfl, ⟨by decide +kernel, by decide +kernel⟩, by decide +kernel, by decide +kernel⟩, zat 599 (by decide +kernel) rfl, zat 600 (by decide +kernel) rfl⟩
abbrev mJ0_coder_7d493 : zMi := (yJ0_coder_7d493, cJ0_coder_7d493, 1, some .byte)
theorem okJ0_coder_7d493 : zOkV mJ0_coder_7d493 0 := ⟨⟨zat 595 (by decide +kernel) rfl, zat 131 (by decide +kernel) rfl, ⟨by decide +kernel, by decide +kernel⟩, by decide +kernel, by decide +kernel⟩, zat 593 (by decide +kernel) rfl, zat 594 (by decide +kernel) rfl⟩
abbrev mJ0_isLatin1_aae02 : zMi := (yJ0_isLatin1_aae02, cJ0_isLatin1_aae02, 1, some .boolean)
theorem okJ0_isLatin1_aae02 : zOkV mJ0_isLatin1_aae02 0 := ⟨⟨zat 605 (by decide +kernel) rfl, zat 131 (by decide +kernel) rfl, ⟨by decide +kernel, by decide +kernel⟩, by decide +kernel, by decide +kernel⟩, zat 603 (by decide +kernel) rfl, zat 604 (by decide +kernel) rfl⟩
abbrev mJ0_checkIndex_df160 : zMi := (yJ0_checkIndex_df160, cJ0_checkIndex_df160, 2, none)
theorem okJ0_checkIndex_df160 : zOkS mJ0_checkIndex_df160 2 := ⟨⟨zat 611 (by decide +kernel) rfl, zat 131 (by decide +kernel) rfl, ⟨by decide +kernel, by decide +kernel⟩, by decide +kernel, by decide +kernel⟩, zat 610 (by decide +kernel) rfl⟩
abbrev mJ1_charAt_3b067 : zMi := (yJ1_charAt_3b067, cJ1_charAt_3b067, 2, some .char)
theorem okJ1_charAt_3b067 : zOkS mJ1_charAt_3b067 2 := ⟨⟨zat 608 (by decide +kernel) rfl, zat 132 (by decide +kernel) rfl, ⟨by decide +kernel, by decide +kernel⟩, by decide +kernel, by decide +kernel⟩, zat 607 (by decide +kernel) rfl⟩
abbrev mJ2_getChar_3b067 : zMi := (yJ2_getChar_3b067, cJ2_getChar_3b067, 2, some .char)
theorem okJ2_getChar_3b067 : zOkS mJ2_getChar_3b067 2 := ⟨⟨zat 629 (by decide +kernel) rfl, zat 134 (by decide +kernel) rfl, ⟨by decide +kernel, by decide +kernel⟩, by decide +kernel, by decide +kernel⟩, zat 628 (by decide +kernel) rfl⟩
abbrev mJ2_length_9d52b : zMi := (yJ2_length_9d52b, cJ2_length_9d52b, 1, some .int)
theorem okJ2_length_9d52b : zOkS mJ2_length_9d52b 1 := ⟨⟨zat 625 (by decide +kernel) rfl, zat 134 (by decide +kernel) rfl, ⟨by decide +kernel, by decide +kernel⟩, by decide +kernel, by decide +kernel⟩, zat 624 (by decide +kernel) rfl⟩
abbrev mJ2_charAt_3b067 : zMi := (yJ2_charAt_3b067, cJ2_charAt_3b067, 2, some .char)
theorem okJ2_charAt_3b067 : zOkS mJ2_charAt_3b067 2 := ⟨⟨zat 619 (by decide +kernel) rfl, zat 134 (by decide +kernel) rfl, ⟨by decide +kernel, by decide +kernel⟩, by decide +kernel, by decide +kernel⟩, zat 618 (by decide +kernel) rfl⟩
abbrev mJ2_checkIndex_2214a : zMi := (yJ2_checkIndex_2214a, cJ2_checkIndex_2214a, 2, none)
theorem okJ2_checkIndex_2214a : zOkS mJ2_checkIndex_2214a 2 := ⟨⟨zat 622 (by decide +kernel) rfl, zat 134 (by decide +kernel) rfl, ⟨by decide +kernel, by decide +kernel⟩, by decide +kernel, by decide +kernel⟩, zat 621 (by decide +kernel) rfl⟩
abbrev mJ7_fill_53178 : zMi := (yJ7_fill_53178, cJ7_fill_53178, 4, none)
theorem okJ7_fill_53178 : zOkS mJ7_fill_53178 2 := ⟨⟨zat 453 (by decide +kernel) rfl, zat 129 (by decide +kernel) rfl, ⟨by decide +kernel, by decide +kernel⟩, by decide +kernel, by decide +kernel⟩, zat 452 (by decide +kernel) rfl⟩
abbrev mJ3_checkIndex_8e157 : zMi := (yJ3_checkIndex_8e157, cJ3_checkIndex_8e157, 3, some .int)
theorem okJ3_checkIndex_8e157 : zOkS mJ3_checkIndex_8e157 3 := ⟨⟨zat 616 (by decide +kernel) rfl, zat 133 (by decide +kernel) rfl, ⟨by decide +kernel, by decide +kernel⟩, by decide +kernel, by decide +kernel⟩, zat 615 (by decide +kernel) rfl⟩
theorem inzX0 : ∀ w ∈ u_ws RX0 TX0 5, w ∈ zTb := by decide +kernel
theorem inzX1 : ∀ w ∈ u_ws RX1 TX1 9, w ∈ zTb := by decide +kernel
theorem inzX2 : ∀ w ∈ u_ws RX2 TX2 8, w ∈ zTb := by decide +kernel
theorem inzX3 : ∀ w ∈ u_ws RX3 TX3 5, w ∈ zTb := by decide +kernel
theorem inzX4 : ∀ w ∈ u_ws RX4 TX4 8, w ∈ zTb := by decide +kernel
theorem inzX5 : ∀ w ∈ u_ws RX5 TX5 8, w ∈ zTb := by decide +kernel
theorem inzX6 : ∀ w ∈ u_ws RX6 TX6 5, w ∈ zTb := by decide +kernel
theorem inzX7 : ∀ w ∈ u_ws RX7 TX7 13, w ∈ zTb := by decide +kernel
theorem inzX8 : ∀ w ∈ u_ws RX8 TX8 13, w ∈ zTb := by decide +kernel
theorem inzX9 : ∀ w ∈ u_ws RX9 TX9 47, w ∈ zTb := by decide +kernel
theorem flX2_9 : zFl RX2 9 2 0 := ⟨RX2, TX2, 8, rfl, by decide, zat 159 (by decide +kernel) rfl, inzX2⟩
theorem flX8_118 : zFl RX8 118 2 0 := ⟨RX2, TX2, 8, rfl, by decide, zat 160 (by decide +kernel) rfl, inzX2⟩
theorem flX7_118 : zFl RX7 118 2 0 := ⟨RX2, TX2, 8, rfl, by decide, zat 161 (by decide +kernel) rfl, inzX2⟩
theorem flX2_15 : zFl RX2 15 2 1 := ⟨RX2, TX2, 8, rfl, by decide, zat 162 (by decide +kernel) rfl, inzX2⟩
theorem flX8_224 : zFl RX8 224 2 1 := ⟨RX2, TX2, 8, rfl, by decide, zat 163 (by decide +kernel) rfl, inzX2⟩
theorem flX7_157 : zFl RX7 157 2 1 := ⟨RX2, TX2, 8, rfl, by decide, zat 164 (by decide +kernel) rfl, inzX2⟩
theorem flX2_18 : zFl RX2 18 2 2 := ⟨RX2, TX2, 8, rfl, by decide, zat 165 (by decide +kernel) rfl, inzX2⟩
theorem flX7_93 : zFl RX7 93 2 2 := ⟨RX2, TX2, 8, rfl, by decide, zat 166 (by decide +kernel) rfl, inzX2⟩
theorem flX8_124 : zFl RX8 124 2 2 := ⟨RX2, TX2, 8, rfl, by decide, zat 167 (by decide +kernel) rfl, inzX2⟩
theorem flX2_21 : zFl RX2 21 2 3 := ⟨RX2, TX2, 8, rfl, by decide, zat 168 (by decide +kernel) rfl, inzX2⟩
theorem flX7_96 : zFl RX7 96 2 3 := ⟨RX2, TX2, 8, rfl, by decide, zat 169 (by decide +kernel) rfl, inzX2⟩
theorem flX8_214 : zFl RX8 214 2 3 := ⟨RX2, TX2, 8, rfl, by decide, zat 170 (by decide +kernel) rfl, inzX2⟩
theorem flX2_24 : zFl RX2 24 2 4 := ⟨RX2, TX2, 8, rfl, by decide, zat 171 (by decide +kernel) rfl, inzX2⟩
theorem flX7_99 : zFl RX7 99 2 4 := ⟨RX2, TX2, 8, rfl, by decide, zat 172 (by decide +kernel) rfl, inzX2⟩
theorem flX8_217 : zFl RX8 217 2 4 := ⟨RX2, TX2, 8, rfl, by decide, zat 173 (by decide +kernel) rfl, inzX2⟩
theorem flX2_27 : zFl RX2 27 2 5 := ⟨RX2, TX2, 8, rfl, by decide, zat 174 (by decide +kernel) rfl, inzX2⟩
theorem fpX2_27 : zFp RX2 27 2 5 (.int) := ⟨RX2, TX2, 8, tyX2, rfl, by decide, zat 174 (by decide +kernel) rfl, inzX2, tyX2_ok, nmX2, by decide +kernel, by decide +kernel⟩
theorem flX8_195 : zFl RX8 195 2 5 := ⟨RX2, TX2, 8, rfl, by decide, zat 175 (by decide +kernel) rfl, inzX2⟩
theorem fpX8_195 : zFp RX8 195 2 5 (.int) := ⟨RX2, TX2, 8, tyX2, rfl, by decide, zat 175 (by decide +kernel) rfl, inzX2, tyX2_ok, nmX2, by decide +kernel, by decide +kernel⟩
theorem flX7_160 : zFl RX7 160 2 5 := ⟨RX2, TX2, 8, rfl, by decide, zat 176 (by decide +kernel) rfl, inzX2⟩
theorem fpX7_160 : zFp RX7 160 2 5 (.int) := ⟨RX2, TX2, 8, tyX2, rfl, by decide, zat 176 (by decide +kernel) rfl, inzX2, tyX2_ok, nmX2, by decide +kernel, by decide +kernel⟩
theorem flX2_31 : zFl RX2 31 2 6 := ⟨RX2, TX2, 8, rfl, by decide, zat 177 (by decide +kernel) rfl, inzX2⟩
theorem fpX2_31 : zFp RX2 31 2 6 (.int) := ⟨RX2, TX2, 8, tyX2, rfl, by decide, zat 177 (by decide +kernel) rfl, inzX2, tyX2_ok, nmX2, by decide +kernel, by decide +kernel⟩
theorem flX8_91 : zFl RX8 91 2 6 := ⟨RX2, TX2, 8, rfl, by decide, zat 178 (by decide +kernel) rfl, inzX2⟩
theorem fpX8_91 : zFp RX8 91 2 6 (.int) := ⟨RX2, TX2, 8, tyX2, rfl, by decide, zat 178 (by decide +kernel) rfl, inzX2, tyX2_ok, nmX2, by decide +kernel, by decide +kernel⟩
theorem flX2_34 : zFl RX2 34 2 7 := ⟨RX2, TX2, 8, rfl, by decide, zat 179 (by decide +kernel) rfl, inzX2⟩
theorem fpX2_34 : zFp RX2 34 2 7 (.int) := ⟨RX2, TX2, 8, tyX2, rfl, by decide, zat 179 (by decide +kernel) rfl, inzX2, tyX2_ok, nmX2, by decide +kernel, by decide +kernel⟩
theorem flX8_260 : zFl RX8 260 2 7 := ⟨RX2, TX2, 8, rfl, by decide, zat 180 (by decide +kernel) rfl, inzX2⟩
theorem fpX8_260 : zFp RX8 260 2 7 (.int) := ⟨RX2, TX2, 8, tyX2, rfl, by decide, zat 180 (by decide +kernel) rfl, inzX2, tyX2_ok, nmX2, by decide +kernel, by decide +kernel⟩
theorem flX7_225 : zFl RX7 225 2 7 := ⟨RX2, TX2, 8, rfl, by decide, zat 181 (by decide +kernel) rfl, inzX2⟩
theorem fpX7_225 : zFp RX7 225 2 7 (.int) := ⟨RX2, TX2, 8, tyX2, rfl, by decide, zat 181 (by decide +kernel) rfl, inzX2, tyX2_ok, nmX2, by decide +kernel, by decide +kernel⟩
theorem flX6_9 : zFl RX6 9 6 0 := ⟨RX6, TX6, 5, rfl, by decide, zat 206 (by decide +kernel) rfl, inzX6⟩
theorem flX6_15 : zFl RX6 15 6 1 := ⟨RX6, TX6, 5, rfl, by decide, zat 207 (by decide +kernel) rfl, inzX6⟩
theorem flX8_211 : zFl RX8 211 6 1 := ⟨RX6, TX6, 5, rfl, by decide, zat 208 (by decide +kernel) rfl, inzX6⟩
theorem flX7_190 : zFl RX7 190 6 1 := ⟨RX6, TX6, 5, rfl, by decide, zat 209 (by decide +kernel) rfl, inzX6⟩
theorem flX6_18 : zFl RX6 18 6 2 := ⟨RX6, TX6, 5, rfl, by decide, zat 210 (by decide +kernel) rfl, inzX6⟩
theorem flX6_21 : zFl RX6 21 6 3 := ⟨RX6, TX6, 5, rfl, by decide, zat 211 (by decide +kernel) rfl, inzX6⟩
theorem flX6_24 : zFl RX6 24 6 4 := ⟨RX6, TX6, 5, rfl, by decide, zat 212 (by decide +kernel) rfl, inzX6⟩
theorem fpX6_24 : zFp RX6 24 6 4 (.int) := ⟨RX6, TX6, 5, tyX6, rfl, by decide, zat 212 (by decide +kernel) rfl, inzX6, tyX6_ok, nmX6, by decide +kernel, by decide +kernel⟩
theorem flX8_186 : zFl RX8 186 6 4 := ⟨RX6, TX6, 5, rfl, by decide, zat 213 (by decide +kernel) rfl, inzX6⟩
theorem fpX8_186 : zFp RX8 186 6 4 (.int) := ⟨RX6, TX6, 5, tyX6, rfl, by decide, zat 213 (by decide +kernel) rfl, inzX6, tyX6_ok, nmX6, by decide +kernel, by decide +kernel⟩
theorem flX1_9 : zFl RX1 9 1 0 := ⟨RX1, TX1, 9, rfl, by decide, zat 231 (by decide +kernel) rfl, inzX1⟩
theorem flX1_15 : zFl RX1 15 1 1 := ⟨RX1, TX1, 9, rfl, by decide, zat 232 (by decide +kernel) rfl, inzX1⟩
theorem fpX1_15 : zFp RX1 15 1 1 (.int) := ⟨RX1, TX1, 9, tyX1, rfl, by decide, zat 232 (by decide +kernel) rfl, inzX1, tyX1_ok, nmX1, by decide +kernel, by decide +kernel⟩
theorem flX1_19 : zFl RX1 19 1 2 := ⟨RX1, TX1, 9, rfl, by decide, zat 233 (by decide +kernel) rfl, inzX1⟩
theorem flX1_22 : zFl RX1 22 1 3 := ⟨RX1, TX1, 9, rfl, by decide, zat 234 (by decide +kernel) rfl, inzX1⟩
theorem flX1_25 : zFl RX1 25 1 4 := ⟨RX1, TX1, 9, rfl, by decide, zat 235 (by decide +kernel) rfl, inzX1⟩
theorem flX1_28 : zFl RX1 28 1 5 := ⟨RX1, TX1, 9, rfl, by decide, zat 236 (by decide +kernel) rfl, inzX1⟩
theorem flX1_31 : zFl RX1 31 1 6 := ⟨RX1, TX1, 9, rfl, by decide, zat 237 (by decide +kernel) rfl, inzX1⟩
theorem fpX1_31 : zFp RX1 31 1 6 (.int) := ⟨RX1, TX1, 9, tyX1, rfl, by decide, zat 237 (by decide +kernel) rfl, inzX1, tyX1_ok, nmX1, by decide +kernel, by decide +kernel⟩
theorem flX8_155 : zFl RX8 155 1 6 := ⟨RX1, TX1, 9, rfl, by decide, zat 238 (by decide +kernel) rfl, inzX1⟩
theorem fpX8_155 : zFp RX8 155 1 6 (.int) := ⟨RX1, TX1, 9, tyX1, rfl, by decide, zat 238 (by decide +kernel) rfl, inzX1, tyX1_ok, nmX1, by decide +kernel, by decide +kernel⟩
theorem flX1_34 : zFl RX1 34 1 7 := ⟨RX1, TX1, 9, rfl, by decide, zat 239 (by decide +kernel) rfl, inzX1⟩
theorem fpX1_34 : zFp RX1 34 1 7 (.int) := ⟨RX1, TX1, 9, tyX1, rfl, by decide, zat 239 (by decide +kernel) rfl, inzX1, tyX1_ok, nmX1, by decide +kernel, by decide +kernel⟩
theorem flX7_228 : zFl RX7 228 1 7 := ⟨RX1, TX1, 9, rfl, by decide, zat 240 (by decide +kernel) rfl, inzX1⟩
theorem fpX7_228 : zFp RX7 228 1 7 (.int) := ⟨RX1, TX1, 9, tyX1, rfl, by decide, zat 240 (by decide +kernel) rfl, inzX1, tyX1_ok, nmX1, by decide +kernel, by decide +kernel⟩
theorem flX1_37 : zFl RX1 37 1 8 := ⟨RX1, TX1, 9, rfl, by decide, zat 241 (by decide +kernel) rfl, inzX1⟩
theorem flX3_11 : zFl RX3 11 3 0 := ⟨RX3, TX3, 5, rfl, by decide, zat 267 (by decide +kernel) rfl, inzX3⟩
theorem flX7_139 : zFl RX7 139 3 0 := ⟨RX3, TX3, 5, rfl, by decide, zat 268 (by decide +kernel) rfl, inzX3⟩
theorem flX8_245 : zFl RX8 245 3 0 := ⟨RX3, TX3, 5, rfl, by decide, zat 269 (by decide +kernel) rfl, inzX3⟩
theorem flX3_15 : zFl RX3 15 3 1 := ⟨RX3, TX3, 5, rfl, by decide, zat 270 (by decide +kernel) rfl, inzX3⟩
theorem fpX3_15 : zFp RX3 15 3 1 (.int) := ⟨RX3, TX3, 5, tyX3, rfl, by decide, zat 270 (by decide +kernel) rfl, inzX3, tyX3_ok, nmX3, by decide +kernel, by decide +kernel⟩
theorem flX8_167 : zFl RX8 167 3 1 := ⟨RX3, TX3, 5, rfl, by decide, zat 271 (by decide +kernel) rfl, inzX3⟩
theorem fpX8_167 : zFp RX8 167 3 1 (.int) := ⟨RX3, TX3, 5, tyX3, rfl, by decide, zat 271 (by decide +kernel) rfl, inzX3, tyX3_ok, nmX3, by decide +kernel, by decide +kernel⟩
theorem flX7_136 : zFl RX7 136 3 1 := ⟨RX3, TX3, 5, rfl, by decide, zat 272 (by decide +kernel) rfl, inzX3⟩
theorem fpX7_136 : zFp RX7 136 3 1 (.int) := ⟨RX3, TX3, 5, tyX3, rfl, by decide, zat 272 (by decide +kernel) rfl, inzX3, tyX3_ok, nmX3, by decide +kernel, by decide +kernel⟩
theorem flX3_19 : zFl RX3 19 3 2 := ⟨RX3, TX3, 5, rfl, by decide, zat 273 (by decide +kernel) rfl, inzX3⟩
theorem flX7_148 : zFl RX7 148 3 2 := ⟨RX3, TX3, 5, rfl, by decide, zat 274 (by decide +kernel) rfl, inzX3⟩
theorem flX8_251 : zFl RX8 251 3 2 := ⟨RX3, TX3, 5, rfl, by decide, zat 275 (by decide +kernel) rfl, inzX3⟩
theorem flX3_22 : zFl RX3 22 3 3 := ⟨RX3, TX3, 5, rfl, by decide, zat 276 (by decide +kernel) rfl, inzX3⟩
theorem flX7_142 : zFl RX7 142 3 3 := ⟨RX3, TX3, 5, rfl, by decide, zat 277 (by decide +kernel) rfl, inzX3⟩
theorem flX8_254 : zFl RX8 254 3 3 := ⟨RX3, TX3, 5, rfl, by decide, zat 278 (by decide +kernel) rfl, inzX3⟩
theorem flX3_25 : zFl RX3 25 3 4 := ⟨RX3, TX3, 5, rfl, by decide, zat 279 (by decide +kernel) rfl, inzX3⟩
theorem fpX3_25 : zFp RX3 25 3 4 (.int) := ⟨RX3, TX3, 5, tyX3, rfl, by decide, zat 279 (by decide +kernel) rfl, inzX3, tyX3_ok, nmX3, by decide +kernel, by decide +kernel⟩
theorem flX8_174 : zFl RX8 174 3 4 := ⟨RX3, TX3, 5, rfl, by decide, zat 280 (by decide +kernel) rfl, inzX3⟩
theorem fpX8_174 : zFp RX8 174 3 4 (.int) := ⟨RX3, TX3, 5, tyX3, rfl, by decide, zat 280 (by decide +kernel) rfl, inzX3, tyX3_ok, nmX3, by decide +kernel, by decide +kernel⟩
theorem flX7_151 : zFl RX7 151 3 4 := ⟨RX3, TX3, 5, rfl, by decide, zat 281 (by decide +kernel) rfl, inzX3⟩
theorem fpX7_151 : zFp RX7 151 3 4 (.int) := ⟨RX3, TX3, 5, tyX3, rfl, by decide, zat 281 (by decide +kernel) rfl, inzX3, tyX3_ok, nmX3, by decide +kernel, by decide +kernel⟩
theorem flX7_9 : zFl RX7 9 7 0 := ⟨RX7, TX7, 13, rfl, by decide, zat 293 (by decide +kernel) rfl, inzX7⟩
theorem fpX7_9 : zFp RX7 9 7 0 (.int) := ⟨RX7, TX7, 13, tyX7, rfl, by decide, zat 293 (by decide +kernel) rfl, inzX7, tyX7_ok, nmX7, by decide +kernel, by decide +kernel⟩
theorem flX8_358 : zFl RX8 358 7 0 := ⟨RX7, TX7, 13, rfl, by decide, zat 294 (by decide +kernel) rfl, inzX7⟩
theorem fpX8_358 : zFp RX8 358 7 0 (.int) := ⟨RX7, TX7, 13, tyX7, rfl, by decide, zat 294 (by decide +kernel) rfl, inzX7, tyX7_ok, nmX7, by decide +kernel, by decide +kernel⟩
theorem flX7_15 : zFl RX7 15 7 1 := ⟨RX7, TX7, 13, rfl, by decide, zat 295 (by decide +kernel) rfl, inzX7⟩
theorem fpX7_15 : zFp RX7 15 7 1 (.int) := ⟨RX7, TX7, 13, tyX7, rfl, by decide, zat 295 (by decide +kernel) rfl, inzX7, tyX7_ok, nmX7, by decide +kernel, by decide +kernel⟩
theorem flX8_361 : zFl RX8 361 7 1 := ⟨RX7, TX7, 13, rfl, by decide, zat 296 (by decide +kernel) rfl, inzX7⟩
theorem fpX8_361 : zFp RX8 361 7 1 (.int) := ⟨RX7, TX7, 13, tyX7, rfl, by decide, zat 296 (by decide +kernel) rfl, inzX7, tyX7_ok, nmX7, by decide +kernel, by decide +kernel⟩
theorem flX7_18 : zFl RX7 18 7 2 := ⟨RX7, TX7, 13, rfl, by decide, zat 297 (by decide +kernel) rfl, inzX7⟩
theorem fpX7_18 : zFp RX7 18 7 2 (.int) := ⟨RX7, TX7, 13, tyX7, rfl, by decide, zat 297 (by decide +kernel) rfl, inzX7, tyX7_ok, nmX7, by decide +kernel, by decide +kernel⟩
theorem flX8_112 : zFl RX8 112 7 2 := ⟨RX7, TX7, 13, rfl, by decide, zat 298 (by decide +kernel) rfl, inzX7⟩
theorem fpX8_112 : zFp RX8 112 7 2 (.int) := ⟨RX7, TX7, 13, tyX7, rfl, by decide, zat 298 (by decide +kernel) rfl, inzX7, tyX7_ok, nmX7, by decide +kernel, by decide +kernel⟩
theorem flX7_21 : zFl RX7 21 7 3 := ⟨RX7, TX7, 13, rfl, by decide, zat 299 (by decide +kernel) rfl, inzX7⟩
theorem fpX7_21 : zFp RX7 21 7 3 (.int) := ⟨RX7, TX7, 13, tyX7, rfl, by decide, zat 299 (by decide +kernel) rfl, inzX7, tyX7_ok, nmX7, by decide +kernel, by decide +kernel⟩
theorem flX8_115 : zFl RX8 115 7 3 := ⟨RX7, TX7, 13, rfl, by decide, zat 300 (by decide +kernel) rfl, inzX7⟩
theorem fpX8_115 : zFp RX8 115 7 3 (.int) := ⟨RX7, TX7, 13, tyX7, rfl, by decide, zat 300 (by decide +kernel) rfl, inzX7, tyX7_ok, nmX7, by decide +kernel, by decide +kernel⟩
theorem flX7_24 : zFl RX7 24 7 4 := ⟨RX7, TX7, 13, rfl, by decide, zat 301 (by decide +kernel) rfl, inzX7⟩
theorem fpX7_24 : zFp RX7 24 7 4 (.int) := ⟨RX7, TX7, 13, tyX7, rfl, by decide, zat 301 (by decide +kernel) rfl, inzX7, tyX7_ok, nmX7, by decide +kernel, by decide +kernel⟩
theorem flX8_101 : zFl RX8 101 7 4 := ⟨RX7, TX7, 13, rfl, by decide, zat 302 (by decide +kernel) rfl, inzX7⟩
theorem fpX8_101 : zFp RX8 101 7 4 (.int) := ⟨RX7, TX7, 13, tyX7, rfl, by decide, zat 302 (by decide +kernel) rfl, inzX7, tyX7_ok, nmX7, by decide +kernel, by decide +kernel⟩
theorem flX7_27 : zFl RX7 27 7 5 := ⟨RX7, TX7, 13, rfl, by decide, zat 303 (by decide +kernel) rfl, inzX7⟩
theorem flX8_208 : zFl RX8 208 7 5 := ⟨RX7, TX7, 13, rfl, by decide, zat 304 (by decide +kernel) rfl, inzX7⟩
theorem flX7_34 : zFl RX7 34 7 6 := ⟨RX7, TX7, 13, rfl, by decide, zat 305 (by decide +kernel) rfl, inzX7⟩
theorem flX8_88 : zFl RX8 88 7 6 := ⟨RX7, TX7, 13, rfl, by decide, zat 306 (by decide +kernel) rfl, inzX7⟩
theorem flX7_38 : zFl RX7 38 7 7 := ⟨RX7, TX7, 13, rfl, by decide, zat 307 (by decide +kernel) rfl, inzX7⟩
theorem flX8_261 : zFl RX8 261 7 7 := ⟨RX7, TX7, 13, rfl, by decide, zat 308 (by decide +kernel) rfl, inzX7⟩
theorem flX7_44 : zFl RX7 44 7 8 := ⟨RX7, TX7, 13, rfl, by decide, zat 309 (by decide +kernel) rfl, inzX7⟩
theorem flX8_177 : zFl RX8 177 7 8 := ⟨RX7, TX7, 13, rfl, by decide, zat 310 (by decide +kernel) rfl, inzX7⟩
theorem flX7_51 : zFl RX7 51 7 9 := ⟨RX7, TX7, 13, rfl, by decide, zat 311 (by decide +kernel) rfl, inzX7⟩
theorem flX8_148 : zFl RX8 148 7 9 := ⟨RX7, TX7, 13, rfl, by decide, zat 312 (by decide +kernel) rfl, inzX7⟩
theorem flX7_58 : zFl RX7 58 7 10 := ⟨RX7, TX7, 13, rfl, by decide, zat 313 (by decide +kernel) rfl, inzX7⟩
theorem flX8_161 : zFl RX8 161 7 10 := ⟨RX7, TX7, 13, rfl, by decide, zat 314 (by decide +kernel) rfl, inzX7⟩
theorem flX3_74 : zFl RX3 74 7 10 := ⟨RX7, TX7, 13, rfl, by decide, zat 315 (by decide +kernel) rfl, inzX7⟩
theorem flX7_62 : zFl RX7 62 7 11 := ⟨RX7, TX7, 13, rfl, by decide, zat 316 (by decide +kernel) rfl, inzX7⟩
theorem flX7_65 : zFl RX7 65 7 12 := ⟨RX7, TX7, 13, rfl, by decide, zat 317 (by decide +kernel) rfl, inzX7⟩
theorem flX5_9 : zFl RX5 9 5 0 := ⟨RX5, TX5, 8, rfl, by decide, zat 354 (by decide +kernel) rfl, inzX5⟩
theorem flX5_15 : zFl RX5 15 5 1 := ⟨RX5, TX5, 8, rfl, by decide, zat 355 (by decide +kernel) rfl, inzX5⟩
theorem fpX5_15 : zFp RX5 15 5 1 (.int) := ⟨RX5, TX5, 8, tyX5, rfl, by decide, zat 355 (by decide +kernel) rfl, inzX5, tyX5_ok, nmX5, by decide +kernel, by decide +kernel⟩
theorem flX8_127 : zFl RX8 127 5 1 := ⟨RX5, TX5, 8, rfl, by decide, zat 356 (by decide +kernel) rfl, inzX5⟩
theorem fpX8_127 : zFp RX8 127 5 1 (.int) := ⟨RX5, TX5, 8, tyX5, rfl, by decide, zat 356 (by decide +kernel) rfl, inzX5, tyX5_ok, nmX5, by decide +kernel, by decide +kernel⟩
theorem flX5_19 : zFl RX5 19 5 2 := ⟨RX5, TX5, 8, rfl, by decide, zat 357 (by decide +kernel) rfl, inzX5⟩
theorem fpX5_19 : zFp RX5 19 5 2 (.int) := ⟨RX5, TX5, 8, tyX5, rfl, by decide, zat 357 (by decide +kernel) rfl, inzX5, tyX5_ok, nmX5, by decide +kernel, by decide +kernel⟩
theorem flX5_22 : zFl RX5 22 5 3 := ⟨RX5, TX5, 8, rfl, by decide, zat 358 (by decide +kernel) rfl, inzX5⟩
theorem fpX5_22 : zFp RX5 22 5 3 (.int) := ⟨RX5, TX5, 8, tyX5, rfl, by decide, zat 358 (by decide +kernel) rfl, inzX5, tyX5_ok, nmX5, by decide +kernel, by decide +kernel⟩
theorem flX5_25 : zFl RX5 25 5 4 := ⟨RX5, TX5, 8, rfl, by decide, zat 359 (by decide +kernel) rfl, inzX5⟩
theorem fpX5_25 : zFp RX5 25 5 4 (.int) := ⟨RX5, TX5, 8, tyX5, rfl, by decide, zat 359 (by decide +kernel) rfl, inzX5, tyX5_ok, nmX5, by decide +kernel, by decide +kernel⟩
theorem flX5_28 : zFl RX5 28 5 5 := ⟨RX5, TX5, 8, rfl, by decide, zat 360 (by decide +kernel) rfl, inzX5⟩
theorem fpX5_28 : zFp RX5 28 5 5 (.int) := ⟨RX5, TX5, 8, tyX5, rfl, by decide, zat 360 (by decide +kernel) rfl, inzX5, tyX5_ok, nmX5, by decide +kernel, by decide +kernel⟩
theorem flX1_118 : zFl RX1 118 5 5 := ⟨RX5, TX5, 8, rfl, by decide, zat 361 (by decide +kernel) rfl, inzX5⟩
theorem fpX1_118 : zFp RX1 118 5 5 (.int) := ⟨RX5, TX5, 8, tyX5, rfl, by decide, zat 361 (by decide +kernel) rfl, inzX5, tyX5_ok, nmX5, by decide +kernel, by decide +kernel⟩
theorem flX5_31 : zFl RX5 31 5 6 := ⟨RX5, TX5, 8, rfl, by decide, zat 362 (by decide +kernel) rfl, inzX5⟩
theorem fpX5_31 : zFp RX5 31 5 6 (.int) := ⟨RX5, TX5, 8, tyX5, rfl, by decide, zat 362 (by decide +kernel) rfl, inzX5, tyX5_ok, nmX5, by decide +kernel, by decide +kernel⟩
theorem flX8_189 : zFl RX8 189 5 6 := ⟨RX5, TX5, 8, rfl, by decide, zat 363 (by decide +kernel) rfl, inzX5⟩
theorem fpX8_189 : zFp RX8 189 5 6 (.int) := ⟨RX5, TX5, 8, tyX5, rfl, by decide, zat 363 (by decide +kernel) rfl, inzX5, tyX5_ok, nmX5, by decide +kernel, by decide +kernel⟩
theorem flX5_34 : zFl RX5 34 5 7 := ⟨RX5, TX5, 8, rfl, by decide, zat 364 (by decide +kernel) rfl, inzX5⟩
theorem fpX5_34 : zFp RX5 34 5 7 (.int) := ⟨RX5, TX5, 8, tyX5, rfl, by decide, zat 364 (by decide +kernel) rfl, inzX5, tyX5_ok, nmX5, by decide +kernel, by decide +kernel⟩
theorem flX8_192 : zFl RX8 192 5 7 := ⟨RX5, TX5, 8, rfl, by decide, zat 365 (by decide +kernel) rfl, inzX5⟩
theorem fpX8_192 : zFp RX8 192 5 7 (.int) := ⟨RX5, TX5, 8, tyX5, rfl, by decide, zat 365 (by decide +kernel) rfl, inzX5, tyX5_ok, nmX5, by decide +kernel, by decide +kernel⟩
theorem flX4_9 : zFl RX4 9 4 0 := ⟨RX4, TX4, 8, rfl, by decide, zat 395 (by decide +kernel) rfl, inzX4⟩
theorem flX4_15 : zFl RX4 15 4 1 := ⟨RX4, TX4, 8, rfl, by decide, zat 396 (by decide +kernel) rfl, inzX4⟩
theorem fpX4_15 : zFp RX4 15 4 1 (.int) := ⟨RX4, TX4, 8, tyX4, rfl, by decide, zat 396 (by decide +kernel) rfl, inzX4, tyX4_ok, nmX4, by decide +kernel, by decide +kernel⟩
theorem flX8_304 : zFl RX8 304 4 1 := ⟨RX4, TX4, 8, rfl, by decide, zat 397 (by decide +kernel) rfl, inzX4⟩
theorem fpX8_304 : zFp RX8 304 4 1 (.int) := ⟨RX4, TX4, 8, tyX4, rfl, by decide, zat 397 (by decide +kernel) rfl, inzX4, tyX4_ok, nmX4, by decide +kernel, by decide +kernel⟩
theorem flX4_19 : zFl RX4 19 4 2 := ⟨RX4, TX4, 8, rfl, by decide, zat 398 (by decide +kernel) rfl, inzX4⟩
theorem flX4_22 : zFl RX4 22 4 3 := ⟨RX4, TX4, 8, rfl, by decide, zat 399 (by decide +kernel) rfl, inzX4⟩
theorem fpX4_22 : zFp RX4 22 4 3 (.int) := ⟨RX4, TX4, 8, tyX4, rfl, by decide, zat 399 (by decide +kernel) rfl, inzX4, tyX4_ok, nmX4, by decide +kernel, by decide +kernel⟩
theorem flX4_25 : zFl RX4 25 4 4 := ⟨RX4, TX4, 8, rfl, by decide, zat 400 (by decide +kernel) rfl, inzX4⟩
theorem flX4_28 : zFl RX4 28 4 5 := ⟨RX4, TX4, 8, rfl, by decide, zat 401 (by decide +kernel) rfl, inzX4⟩
theorem flX4_31 : zFl RX4 31 4 6 := ⟨RX4, TX4, 8, rfl, by decide, zat 402 (by decide +kernel) rfl, inzX4⟩
theorem flX4_34 : zFl RX4 34 4 7 := ⟨RX4, TX4, 8, rfl, by decide, zat 403 (by decide +kernel) rfl, inzX4⟩
theorem flX0_9 : zFl RX0 9 0 0 := ⟨RX0, TX0, 5, rfl, by decide, zat 427 (by decide +kernel) rfl, inzX0⟩
theorem flX0_15 : zFl RX0 15 0 1 := ⟨RX0, TX0, 5, rfl, by decide, zat 428 (by decide +kernel) rfl, inzX0⟩
theorem flX0_18 : zFl RX0 18 0 2 := ⟨RX0, TX0, 5, rfl, by decide, zat 429 (by decide +kernel) rfl, inzX0⟩
theorem flX0_21 : zFl RX0 21 0 3 := ⟨RX0, TX0, 5, rfl, by decide, zat 430 (by decide +kernel) rfl, inzX0⟩
theorem flX0_24 : zFl RX0 24 0 4 := ⟨RX0, TX0, 5, rfl, by decide, zat 431 (by decide +kernel) rfl, inzX0⟩
theorem fpX0_24 : zFp RX0 24 0 4 (.int) := ⟨RX0, TX0, 5, tyX0, rfl, by decide, zat 431 (by decide +kernel) rfl, inzX0, tyX0_ok, nmX0, by decide +kernel, by decide +kernel⟩
theorem flX8_10 : zFl RX8 10 8 0 := ⟨RX8, TX8, 13, rfl, by decide, zat 467 (by decide +kernel) rfl, inzX8⟩
theorem flX8_16 : zFl RX8 16 8 1 := ⟨RX8, TX8, 13, rfl, by decide, zat 468 (by decide +kernel) rfl, inzX8⟩
theorem flX8_19 : zFl RX8 19 8 2 := ⟨RX8, TX8, 13, rfl, by decide, zat 469 (by decide +kernel) rfl, inzX8⟩
theorem fpX8_19 : zFp RX8 19 8 2 (.boolean) := ⟨RX8, TX8, 13, tyX8, rfl, by decide, zat 469 (by decide +kernel) rfl, inzX8, tyX8_ok, nmX8, by decide +kernel, by decide +kernel⟩
theorem flX8_26 : zFl RX8 26 8 3 := ⟨RX8, TX8, 13, rfl, by decide, zat 470 (by decide +kernel) rfl, inzX8⟩
theorem flX8_30 : zFl RX8 30 8 4 := ⟨RX8, TX8, 13, rfl, by decide, zat 471 (by decide +kernel) rfl, inzX8⟩
theorem flX8_34 : zFl RX8 34 8 5 := ⟨RX8, TX8, 13, rfl, by decide, zat 472 (by decide +kernel) rfl, inzX8⟩
theorem fpX8_34 : zFp RX8 34 8 5 (.int) := ⟨RX8, TX8, 13, tyX8, rfl, by decide, zat 472 (by decide +kernel) rfl, inzX8, tyX8_ok, nmX8, by decide +kernel, by decide +kernel⟩
theorem flX8_41 : zFl RX8 41 8 6 := ⟨RX8, TX8, 13, rfl, by decide, zat 473 (by decide +kernel) rfl, inzX8⟩
theorem flX8_48 : zFl RX8 48 8 7 := ⟨RX8, TX8, 13, rfl, by decide, zat 474 (by decide +kernel) rfl, inzX8⟩
theorem flX8_55 : zFl RX8 55 8 8 := ⟨RX8, TX8, 13, rfl, by decide, zat 475 (by decide +kernel) rfl, inzX8⟩
theorem flX8_62 : zFl RX8 62 8 9 := ⟨RX8, TX8, 13, rfl, by decide, zat 476 (by decide +kernel) rfl, inzX8⟩
theorem flX8_69 : zFl RX8 69 8 10 := ⟨RX8, TX8, 13, rfl, by decide, zat 477 (by decide +kernel) rfl, inzX8⟩
theorem flX8_76 : zFl RX8 76 8 11 := ⟨RX8, TX8, 13, rfl, by decide, zat 478 (by decide +kernel) rfl, inzX8⟩
theorem flX8_80 : zFl RX8 80 8 12 := ⟨RX8, TX8, 13, rfl, by decide, zat 479 (by decide +kernel) rfl, inzX8⟩
theorem flX9_7 : zFl RX9 7 9 0 := ⟨RX9, TX9, 47, rfl, by decide, zat 1202 (by decide +kernel) rfl, inzX9⟩
theorem flX9_13 : zFl RX9 13 9 1 := ⟨RX9, TX9, 47, rfl, by decide, zat 1203 (by decide +kernel) rfl, inzX9⟩
theorem flX9_16 : zFl RX9 16 9 2 := ⟨RX9, TX9, 47, rfl, by decide, zat 1204 (by decide +kernel) rfl, inzX9⟩
theorem flX9_19 : zFl RX9 19 9 3 := ⟨RX9, TX9, 47, rfl, by decide, zat 1205 (by decide +kernel) rfl, inzX9⟩
theorem flX9_94 : zFl RX9 94 9 4 := ⟨RX9, TX9, 47, rfl, by decide, zat 1206 (by decide +kernel) rfl, inzX9⟩
theorem fpX9_94 : zFp RX9 94 9 4 (.int) := ⟨RX9, TX9, 47, tyX9, rfl, by decide, zat 1206 (by decide +kernel) rfl, inzX9, tyX9_ok, nmX9, by decide +kernel, by decide +kernel⟩
theorem flX9_501 : zFl RX9 501 9 5 := ⟨RX9, TX9, 47, rfl, by decide, zat 1207 (by decide +kernel) rfl, inzX9⟩
theorem fpX9_501 : zFp RX9 501 9 5 (.boolean) := ⟨RX9, TX9, 47, tyX9, rfl, by decide, zat 1207 (by decide +kernel) rfl, inzX9, tyX9_ok, nmX9, by decide +kernel, by decide +kernel⟩
theorem flX9_22 : zFl RX9 22 9 6 := ⟨RX9, TX9, 47, rfl, by decide, zat 1208 (by decide +kernel) rfl, inzX9⟩
theorem flX9_25 : zFl RX9 25 9 7 := ⟨RX9, TX9, 47, rfl, by decide, zat 1209 (by decide +kernel) rfl, inzX9⟩
theorem flX9_28 : zFl RX9 28 9 8 := ⟨RX9, TX9, 47, rfl, by decide, zat 1210 (by decide +kernel) rfl, inzX9⟩
theorem flX9_31 : zFl RX9 31 9 9 := ⟨RX9, TX9, 47, rfl, by decide, zat 1211 (by decide +kernel) rfl, inzX9⟩
theorem flX9_34 : zFl RX9 34 9 10 := ⟨RX9, TX9, 47, rfl, by decide, zat 1212 (by decide +kernel) rfl, inzX9⟩
theorem flX9_37 : zFl RX9 37 9 11 := ⟨RX9, TX9, 47, rfl, by decide, zat 1213 (by decide +kernel) rfl, inzX9⟩
theorem flX9_40 : zFl RX9 40 9 12 := ⟨RX9, TX9, 47, rfl, by decide, zat 1214 (by decide +kernel) rfl, inzX9⟩
theorem flX9_43 : zFl RX9 43 9 13 := ⟨RX9, TX9, 47, rfl, by decide, zat 1215 (by decide +kernel) rfl, inzX9⟩
theorem flX9_46 : zFl RX9 46 9 14 := ⟨RX9, TX9, 47, rfl, by decide, zat 1216 (by decide +kernel) rfl, inzX9⟩
theorem flX9_49 : zFl RX9 49 9 15 := ⟨RX9, TX9, 47, rfl, by decide, zat 1217 (by decide +kernel) rfl, inzX9⟩
theorem flX9_186 : zFl RX9 186 9 16 := ⟨RX9, TX9, 47, rfl, by decide, zat 1218 (by decide +kernel) rfl, inzX9⟩
theorem fpX9_186 : zFp RX9 186 9 16 (.int) := ⟨RX9, TX9, 47, tyX9, rfl, by decide, zat 1218 (by decide +kernel) rfl, inzX9, tyX9_ok, nmX9, by decide +kernel, by decide +kernel⟩
theorem flX9_264 : zFl RX9 264 9 17 := ⟨RX9, TX9, 47, rfl, by decide, zat 1219 (by decide +kernel) rfl, inzX9⟩
theorem fpX9_264 : zFp RX9 264 9 17 (.int) := ⟨RX9, TX9, 47, tyX9, rfl, by decide, zat 1219 (by decide +kernel) rfl, inzX9, tyX9_ok, nmX9, by decide +kernel, by decide +kernel⟩
theorem flX9_231 : zFl RX9 231 9 18 := ⟨RX9, TX9, 47, rfl, by decide, zat 1220 (by decide +kernel) rfl, inzX9⟩
theorem fpX9_231 : zFp RX9 231 9 18 (.int) := ⟨RX9, TX9, 47, tyX9, rfl, by decide, zat 1220 (by decide +kernel) rfl, inzX9, tyX9_ok, nmX9, by decide +kernel, by decide +kernel⟩
theorem flX9_282 : zFl RX9 282 9 19 := ⟨RX9, TX9, 47, rfl, by decide, zat 1221 (by decide +kernel) rfl, inzX9⟩
theorem fpX9_282 : zFp RX9 282 9 19 (.int) := ⟨RX9, TX9, 47, tyX9, rfl, by decide, zat 1221 (by decide +kernel) rfl, inzX9, tyX9_ok, nmX9, by decide +kernel, by decide +kernel⟩
theorem flX9_276 : zFl RX9 276 9 20 := ⟨RX9, TX9, 47, rfl, by decide, zat 1222 (by decide +kernel) rfl, inzX9⟩
theorem fpX9_276 : zFp RX9 276 9 20 (.int) := ⟨RX9, TX9, 47, tyX9, rfl, by decide, zat 1222 (by decide +kernel) rfl, inzX9, tyX9_ok, nmX9, by decide +kernel, by decide +kernel⟩
theorem flX9_288 : zFl RX9 288 9 21 := ⟨RX9, TX9, 47, rfl, by decide, zat 1223 (by decide +kernel) rfl, inzX9⟩
theorem fpX9_288 : zFp RX9 288 9 21 (.int) := ⟨RX9, TX9, 47, tyX9, rfl, by decide, zat 1223 (by decide +kernel) rfl, inzX9, tyX9_ok, nmX9, by decide +kernel, by decide +kernel⟩
theorem flX9_294 : zFl RX9 294 9 22 := ⟨RX9, TX9, 47, rfl, by decide, zat 1224 (by decide +kernel) rfl, inzX9⟩
theorem fpX9_294 : zFp RX9 294 9 22 (.int) := ⟨RX9, TX9, 47, tyX9, rfl, by decide, zat 1224 (by decide +kernel) rfl, inzX9, tyX9_ok, nmX9, by decide +kernel, by decide +kernel⟩
theorem flX9_120 : zFl RX9 120 9 23 := ⟨RX9, TX9, 47, rfl, by decide, zat 1225 (by decide +kernel) rfl, inzX9⟩
theorem fpX9_120 : zFp RX9 120 9 23 (.int) := ⟨RX9, TX9, 47, tyX9, rfl, by decide, zat 1225 (by decide +kernel) rfl, inzX9, tyX9_ok, nmX9, by decide +kernel, by decide +kernel⟩
theorem flX9_123 : zFl RX9 123 9 24 := ⟨RX9, TX9, 47, rfl, by decide, zat 1226 (by decide +kernel) rfl, inzX9⟩
theorem fpX9_123 : zFp RX9 123 9 24 (.int) := ⟨RX9, TX9, 47, tyX9, rfl, by decide, zat 1226 (by decide +kernel) rfl, inzX9, tyX9_ok, nmX9, by decide +kernel, by decide +kernel⟩
theorem flX9_204 : zFl RX9 204 9 25 := ⟨RX9, TX9, 47, rfl, by decide, zat 1227 (by decide +kernel) rfl, inzX9⟩
theorem fpX9_204 : zFp RX9 204 9 25 (.int) := ⟨RX9, TX9, 47, tyX9, rfl, by decide, zat 1227 (by decide +kernel) rfl, inzX9, tyX9_ok, nmX9, by decide +kernel, by decide +kernel⟩
theorem flX9_126 : zFl RX9 126 9 26 := ⟨RX9, TX9, 47, rfl, by decide, zat 1228 (by decide +kernel) rfl, inzX9⟩
theorem fpX9_126 : zFp RX9 126 9 26 (.int) := ⟨RX9, TX9, 47, tyX9, rfl, by decide, zat 1228 (by decide +kernel) rfl, inzX9, tyX9_ok, nmX9, by decide +kernel, by decide +kernel⟩
theorem flX9_216 : zFl RX9 216 9 27 := ⟨RX9, TX9, 47, rfl, by decide, zat 1229 (by decide +kernel) rfl, inzX9⟩
theorem fpX9_216 : zFp RX9 216 9 27 (.int) := ⟨RX9, TX9, 47, tyX9, rfl, by decide, zat 1229 (by decide +kernel) rfl, inzX9, tyX9_ok, nmX9, by decide +kernel, by decide +kernel⟩
theorem flX9_219 : zFl RX9 219 9 28 := ⟨RX9, TX9, 47, rfl, by decide, zat 1230 (by decide +kernel) rfl, inzX9⟩
theorem fpX9_219 : zFp RX9 219 9 28 (.int) := ⟨RX9, TX9, 47, tyX9, rfl, by decide, zat 1230 (by decide +kernel) rfl, inzX9, tyX9_ok, nmX9, by decide +kernel, by decide +kernel⟩
theorem flX9_222 : zFl RX9 222 9 29 := ⟨RX9, TX9, 47, rfl, by decide, zat 1231 (by decide +kernel) rfl, inzX9⟩
theorem fpX9_222 : zFp RX9 222 9 29 (.int) := ⟨RX9, TX9, 47, tyX9, rfl, by decide, zat 1231 (by decide +kernel) rfl, inzX9, tyX9_ok, nmX9, by decide +kernel, by decide +kernel⟩
theorem flX9_303 : zFl RX9 303 9 30 := ⟨RX9, TX9, 47, rfl, by decide, zat 1232 (by decide +kernel) rfl, inzX9⟩
theorem fpX9_303 : zFp RX9 303 9 30 (.int) := ⟨RX9, TX9, 47, tyX9, rfl, by decide, zat 1232 (by decide +kernel) rfl, inzX9, tyX9_ok, nmX9, by decide +kernel, by decide +kernel⟩
theorem flX9_234 : zFl RX9 234 9 31 := ⟨RX9, TX9, 47, rfl, by decide, zat 1233 (by decide +kernel) rfl, inzX9⟩
theorem fpX9_234 : zFp RX9 234 9 31 (.int) := ⟨RX9, TX9, 47, tyX9, rfl, by decide, zat 1233 (by decide +kernel) rfl, inzX9, tyX9_ok, nmX9, by decide +kernel, by decide +kernel⟩
theorem flX9_52 : zFl RX9 52 9 32 := ⟨RX9, TX9, 47, rfl, by decide, zat 1234 (by decide +kernel) rfl, inzX9⟩
theorem fpX9_52 : zFp RX9 52 9 32 (.int) := ⟨RX9, TX9, 47, tyX9, rfl, by decide, zat 1234 (by decide +kernel) rfl, inzX9, tyX9_ok, nmX9, by decide +kernel, by decide +kernel⟩
theorem flX9_270 : zFl RX9 270 9 33 := ⟨RX9, TX9, 47, rfl, by decide, zat 1235 (by decide +kernel) rfl, inzX9⟩
theorem fpX9_270 : zFp RX9 270 9 33 (.int) := ⟨RX9, TX9, 47, tyX9, rfl, by decide, zat 1235 (by decide +kernel) rfl, inzX9, tyX9_ok, nmX9, by decide +kernel, by decide +kernel⟩
theorem flX9_56 : zFl RX9 56 9 34 := ⟨RX9, TX9, 47, rfl, by decide, zat 1236 (by decide +kernel) rfl, inzX9⟩
theorem flX9_59 : zFl RX9 59 9 35 := ⟨RX9, TX9, 47, rfl, by decide, zat 1237 (by decide +kernel) rfl, inzX9⟩
theorem flX9_62 : zFl RX9 62 9 36 := ⟨RX9, TX9, 47, rfl, by decide, zat 1238 (by decide +kernel) rfl, inzX9⟩
theorem flX9_65 : zFl RX9 65 9 37 := ⟨RX9, TX9, 47, rfl, by decide, zat 1239 (by decide +kernel) rfl, inzX9⟩
theorem flX9_430 : zFl RX9 430 9 38 := ⟨RX9, TX9, 47, rfl, by decide, zat 1240 (by decide +kernel) rfl, inzX9⟩
theorem fpX9_430 : zFp RX9 430 9 38 (.int) := ⟨RX9, TX9, 47, tyX9, rfl, by decide, zat 1240 (by decide +kernel) rfl, inzX9, tyX9_ok, nmX9, by decide +kernel, by decide +kernel⟩
theorem flX9_68 : zFl RX9 68 9 39 := ⟨RX9, TX9, 47, rfl, by decide, zat 1241 (by decide +kernel) rfl, inzX9⟩
theorem flX9_72 : zFl RX9 72 9 40 := ⟨RX9, TX9, 47, rfl, by decide, zat 1242 (by decide +kernel) rfl, inzX9⟩
theorem flX9_75 : zFl RX9 75 9 41 := ⟨RX9, TX9, 47, rfl, by decide, zat 1243 (by decide +kernel) rfl, inzX9⟩
theorem flX9_78 : zFl RX9 78 9 42 := ⟨RX9, TX9, 47, rfl, by decide, zat 1244 (by decide +kernel) rfl, inzX9⟩
theorem flX9_81 : zFl RX9 81 9 43 := ⟨RX9, TX9, 47, rfl, by decide, zat 1245 (by decide +kernel) rfl, inzX9⟩
theorem flX9_84 : zFl RX9 84 9 44 := ⟨RX9, TX9, 47, rfl, by decide, zat 1246 (by decide +kernel) rfl, inzX9⟩
theorem flX9_477 : zFl RX9 477 9 45 := ⟨RX9, TX9, 47, rfl, by decide, zat 1247 (by decide +kernel) rfl, inzX9⟩
theorem fpX9_477 : zFp RX9 477 9 45 (.int) := ⟨RX9, TX9, 47, tyX9, rfl, by decide, zat 1247 (by decide +kernel) rfl, inzX9, tyX9_ok, nmX9, by decide +kernel, by decide +kernel⟩
theorem flX9_87 : zFl RX9 87 9 46 := ⟨RX9, TX9, 47, rfl, by decide, zat 1248 (by decide +kernel) rfl, inzX9⟩
theorem lkX8_84 : Cond.methodLink RX8 84 yX7_restart ∈ zTb := zat 443 (by decide +kernel) rfl
theorem lkX7_68 : Cond.methodLink RX7 68 yX2_clear ∈ zTb := zat 447 (by decide +kernel) rfl
theorem lkX2_37 : Cond.methodLink RX2 37 yJ7_fill_53178 ∈ zTb := zat 451 (by decide +kernel) rfl
theorem lkX7_71 : Cond.methodLink RX7 71 yX6_clear ∈ zTb := zat 454 (by decide +kernel) rfl
theorem lkX6_28 : Cond.methodLink RX6 28 yJ7_fill_53178 ∈ zTb := zat 458 (by decide +kernel) rfl
theorem lkX7_72 : Cond.methodLink RX7 72 yX1_clear ∈ zTb := zat 459 (by decide +kernel) rfl
theorem lkX7_73 : Cond.methodLink RX7 73 yX3_clear ∈ zTb := zat 463 (by decide +kernel) rfl
theorem lkX8_94 : Cond.methodLink RX8 94 yX8_forgetPast ∈ zTb := zat 511 (by decide +kernel) rfl
theorem lkX8_97 : Cond.methodLink RX8 97 yX7_isCell ∈ zTb := zat 523 (by decide +kernel) rfl
theorem lkX8_104 : Cond.methodLink RX8 104 yX7_join ∈ zTb := zat 527 (by decide +kernel) rfl
theorem lkX8_108 : Cond.methodLink RX8 108 yX8_tell ∈ zTb := zat 535 (by decide +kernel) rfl
theorem lkX8_121 : Cond.methodLink RX8 121 yX7_isSkater ∈ zTb := zat 539 (by decide +kernel) rfl
theorem lkX8_130 : Cond.methodLink RX8 130 yX5_put ∈ zTb := zat 547 (by decide +kernel) rfl
theorem lkX8_134 : Cond.methodLink RX8 134 yX5_begin ∈ zTb := zat 559 (by decide +kernel) rfl
theorem lkX5_37 : Cond.methodLink RX5 37 yX5_next ∈ zTb := zat 563 (by decide +kernel) rfl
theorem lkX5_40 : Cond.methodLink RX5 40 yX5_kindOf ∈ zTb := zat 567 (by decide +kernel) rfl
theorem lkX8_137 : Cond.methodLink RX8 137 yX6_parse ∈ zTb := zat 570 (by decide +kernel) rfl
theorem lkX6_44 : Cond.methodLink RX6 44 yX6_clear ∈ zTb := zat 574 (by decide +kernel) rfl
theorem lkX6_47 : Cond.methodLink RX6 47 yX5_isEnd ∈ zTb := zat 575 (by decide +kernel) rfl
theorem lkX6_53 : Cond.methodLink RX6 53 yX6_parseLine ∈ zTb := zat 579 (by decide +kernel) rfl
theorem lkX6_59 : Cond.methodLink RX6 59 yX5_isWord ∈ zTb := zat 584 (by decide +kernel) rfl
theorem lkX5_44 : Cond.methodLink RX5 44 yJ0_length_8abf5 ∈ zTb := zat 588 (by decide +kernel) rfl
theorem lkJ0_335 : Cond.methodLink RJ0 335 yJ0_coder_7d493 ∈ zTb := zat 592 (by decide +kernel) rfl
theorem lkX5_49 : Cond.methodLink RX5 49 yJ0_charAt_5068e ∈ zTb := zat 598 (by decide +kernel) rfl
theorem lkJ0_492 : Cond.methodLink RJ0 492 yJ0_isLatin1_aae02 ∈ zTb := zat 602 (by decide +kernel) rfl
theorem lkJ0_495 : Cond.methodLink RJ0 495 yJ1_charAt_3b067 ∈ zTb := zat 606 (by decide +kernel) rfl
theorem lkJ1_9 : Cond.methodLink RJ1 9 yJ0_checkIndex_df160 ∈ zTb := zat 609 (by decide +kernel) rfl
theorem lkJ0_1059 : Cond.methodLink RJ0 1059 yJ3_checkIndex_8e157 ∈ zTb := zat 614 (by decide +kernel) rfl
theorem lkJ0_498 : Cond.methodLink RJ0 498 yJ2_charAt_3b067 ∈ zTb := zat 617 (by decide +kernel) rfl
theorem lkJ2_67 : Cond.methodLink RJ2 67 yJ2_checkIndex_2214a ∈ zTb := zat 620 (by decide +kernel) rfl
theorem lkJ2_48 : Cond.methodLink RJ2 48 yJ2_length_9d52b ∈ zTb := zat 623 (by decide +kernel) rfl
theorem lkJ2_414 : Cond.methodLink RJ2 414 yJ0_checkIndex_df160 ∈ zTb := zat 626 (by decide +kernel) rfl
theorem lkJ2_71 : Cond.methodLink RJ2 71 yJ2_getChar_3b067 ∈ zTb := zat 627 (by decide +kernel) rfl
theorem lkX6_63 : Cond.methodLink RX6 63 yX5_fail ∈ zTb := zat 636 (by decide +kernel) rfl
theorem lkX6_67 : Cond.methodLink RX6 67 yX5_next ∈ zTb := zat 640 (by decide +kernel) rfl
theorem lkX6_70 : Cond.methodLink RX6 70 yX5_number ∈ zTb := zat 641 (by decide +kernel) rfl
theorem lkX5_53 : Cond.methodLink RX5 53 yX5_fail ∈ zTb := zat 645 (by decide +kernel) rfl
theorem lkX6_73 : Cond.methodLink RX6 73 yX5_isSign ∈ zTb := zat 646 (by decide +kernel) rfl
theorem lkX6_77 : Cond.methodLink RX6 77 yX6_parsePart ∈ zTb := zat 650 (by decide +kernel) rfl
theorem lkX6_80 : Cond.methodLink RX6 80 yX6_markTold ∈ zTb := zat 654 (by decide +kernel) rfl
theorem lkX6_84 : Cond.methodLink RX6 84 yX6_wayTold ∈ zTb := zat 659 (by decide +kernel) rfl
theorem lkX6_87 : Cond.methodLink RX6 87 yX6_append ∈ zTb := zat 667 (by decide +kernel) rfl
theorem lkX8_141 : Cond.methodLink RX8 141 yX8_takeWays ∈ zTb := zat 671 (by decide +kernel) rfl
theorem lkX8_180 : Cond.methodLink RX8 180 yX6_copy ∈ zTb := zat 675 (by decide +kernel) rfl
theorem lkX8_183 : Cond.methodLink RX8 183 yX7_beginWays ∈ zTb := zat 682 (by decide +kernel) rfl
theorem lkX7_102 : Cond.methodLink RX7 102 yJ7_fill_53178 ∈ zTb := zat 686 (by decide +kernel) rfl
theorem lkX8_145 : Cond.methodLink RX8 145 yX1_parse ∈ zTb := zat 687 (by decide +kernel) rfl
theorem lkX1_46 : Cond.methodLink RX1 46 yX1_clear ∈ zTb := zat 691 (by decide +kernel) rfl
theorem lkX1_49 : Cond.methodLink RX1 49 yX5_isEnd ∈ zTb := zat 692 (by decide +kernel) rfl
theorem lkX1_55 : Cond.methodLink RX1 55 yX1_parseLine ∈ zTb := zat 693 (by decide +kernel) rfl
theorem lkX1_61 : Cond.methodLink RX1 61 yX5_isWord ∈ zTb := zat 698 (by decide +kernel) rfl
theorem lkX1_67 : Cond.methodLink RX1 67 yX5_fail ∈ zTb := zat 700 (by decide +kernel) rfl
theorem lkX1_71 : Cond.methodLink RX1 71 yX5_next ∈ zTb := zat 701 (by decide +kernel) rfl
theorem lkX1_74 : Cond.methodLink RX1 74 yX1_parseSum ∈ zTb := zat 702 (by decide +kernel) rfl
theorem lkX1_104 : Cond.methodLink RX1 104 yX5_number ∈ zTb := zat 706 (by decide +kernel) rfl
theorem lkX1_108 : Cond.methodLink RX1 108 yX1_emit ∈ zTb := zat 707 (by decide +kernel) rfl
theorem lkX1_112 : Cond.methodLink RX1 112 yX1_factTold ∈ zTb := zat 711 (by decide +kernel) rfl
theorem lkX1_115 : Cond.methodLink RX1 115 yX5_isNumber ∈ zTb := zat 720 (by decide +kernel) rfl
theorem lkX1_90 : Cond.methodLink RX1 90 yX1_emitIf ∈ zTb := zat 724 (by decide +kernel) rfl
theorem lkX1_83 : Cond.methodLink RX1 83 yX5_isSign ∈ zTb := zat 728 (by decide +kernel) rfl
theorem lkX1_79 : Cond.methodLink RX1 79 yX1_parseCondition ∈ zTb := zat 730 (by decide +kernel) rfl
theorem lkX1_87 : Cond.methodLink RX1 87 yX1_parseClause ∈ zTb := zat 734 (by decide +kernel) rfl
theorem lkX1_100 : Cond.methodLink RX1 100 yX1_comparisonTold ∈ zTb := zat 739 (by decide +kernel) rfl
theorem lkX8_151 : Cond.methodLink RX8 151 yX1_copy ∈ zTb := zat 744 (by decide +kernel) rfl
theorem lkX8_158 : Cond.methodLink RX8 158 yX3_parseLetters ∈ zTb := zat 749 (by decide +kernel) rfl
theorem lkX3_40 : Cond.methodLink RX3 40 yX3_clear ∈ zTb := zat 753 (by decide +kernel) rfl
theorem lkX3_43 : Cond.methodLink RX3 43 yX5_isEnd ∈ zTb := zat 754 (by decide +kernel) rfl
theorem lkX3_49 : Cond.methodLink RX3 49 yX3_parseLetter ∈ zTb := zat 755 (by decide +kernel) rfl
theorem lkX3_55 : Cond.methodLink RX3 55 yX5_isWord ∈ zTb := zat 760 (by decide +kernel) rfl
theorem lkX3_59 : Cond.methodLink RX3 59 yX5_fail ∈ zTb := zat 761 (by decide +kernel) rfl
theorem lkX3_63 : Cond.methodLink RX3 63 yX5_next ∈ zTb := zat 762 (by decide +kernel) rfl
theorem lkX3_66 : Cond.methodLink RX3 66 yX5_number ∈ zTb := zat 763 (by decide +kernel) rfl
theorem lkX3_70 : Cond.methodLink RX3 70 yX5_isSign ∈ zTb := zat 764 (by decide +kernel) rfl
theorem lkX8_164 : Cond.methodLink RX8 164 yX3_copy ∈ zTb := zat 765 (by decide +kernel) rfl
theorem lkX8_170 : Cond.methodLink RX8 170 yX3_parseWants ∈ zTb := zat 770 (by decide +kernel) rfl
theorem lkX3_80 : Cond.methodLink RX3 80 yX3_copy ∈ zTb := zat 774 (by decide +kernel) rfl
theorem lkX3_84 : Cond.methodLink RX3 84 yX3_parseWant ∈ zTb := zat 775 (by decide +kernel) rfl
theorem lkX3_92 : Cond.methodLink RX3 92 yX7_isBox ∈ zTb := zat 781 (by decide +kernel) rfl
theorem lkX7_108 : Cond.methodLink RX7 108 yX7_isCell ∈ zTb := zat 785 (by decide +kernel) rfl
theorem lkX8_198 : Cond.methodLink RX8 198 yX8_keepPast ∈ zTb := zat 795 (by decide +kernel) rfl
theorem lkX8_205 : Cond.methodLink RX8 205 yX2_copy ∈ zTb := zat 799 (by decide +kernel) rfl
theorem lkX8_201 : Cond.methodLink RX8 201 yX7_pass ∈ zTb := zat 804 (by decide +kernel) rfl
theorem lkX7_193 : Cond.methodLink RX7 193 yX2_drawOf1000 ∈ zTb := zat 808 (by decide +kernel) rfl
theorem lkX7_197 : Cond.methodLink RX7 197 yX7_deepen ∈ zTb := zat 814 (by decide +kernel) rfl
theorem lkX7_182 : Cond.methodLink RX7 182 yJ9_min_7cf53 ∈ zTb := zat 818 (by decide +kernel) rfl
theorem lkX7_201 : Cond.methodLink RX7 201 yX7_step ∈ zTb := zat 821 (by decide +kernel) rfl
theorem lkX7_208 : Cond.methodLink RX7 208 yX6_downAt ∈ zTb := zat 825 (by decide +kernel) rfl
theorem lkX6_40 : Cond.methodLink RX6 40 yX6_marked ∈ zTb := zat 829 (by decide +kernel) rfl
theorem lkX7_212 : Cond.methodLink RX7 212 yX6_wayOf ∈ zTb := zat 832 (by decide +kernel) rfl
theorem lkX7_215 : Cond.methodLink RX7 215 yX7_cellBehind ∈ zTb := zat 836 (by decide +kernel) rfl
theorem lkX7_121 : Cond.methodLink RX7 121 yX7_beside ∈ zTb := zat 840 (by decide +kernel) rfl
theorem lkX7_218 : Cond.methodLink RX7 218 yX7_cutOf ∈ zTb := zat 848 (by decide +kernel) rfl
theorem lkX7_166 : Cond.methodLink RX7 166 yX7_fillFacts ∈ zTb := zat 852 (by decide +kernel) rfl
theorem lkX7_163 : Cond.methodLink RX7 163 yX7_seenAround ∈ zTb := zat 856 (by decide +kernel) rfl
theorem lkX7_125 : Cond.methodLink RX7 125 yX7_isSeen ∈ zTb := zat 860 (by decide +kernel) rfl
theorem lkX7_170 : Cond.methodLink RX7 170 yX7_isOther ∈ zTb := zat 864 (by decide +kernel) rfl
theorem lkX7_174 : Cond.methodLink RX7 174 yX1_answer ∈ zTb := zat 867 (by decide +kernel) rfl
theorem lkX1_133 : Cond.methodLink RX1 133 yX1_value ∈ zTb := zat 871 (by decide +kernel) rfl
theorem lkX1_136 : Cond.methodLink RX1 136 yX1_joined ∈ zTb := zat 875 (by decide +kernel) rfl
theorem lkX7_178 : Cond.methodLink RX7 178 yX7_held ∈ zTb := zat 878 (by decide +kernel) rfl
theorem lkX7_187 : Cond.methodLink RX7 187 yJ9_max_7cf53 ∈ zTb := zat 881 (by decide +kernel) rfl
theorem lkX7_222 : Cond.methodLink RX7 222 yX6_downBehind ∈ zTb := zat 884 (by decide +kernel) rfl
theorem lkX7_205 : Cond.methodLink RX7 205 yX7_thaw ∈ zTb := zat 888 (by decide +kernel) rfl
theorem lkX7_231 : Cond.methodLink RX7 231 yX7_thawOf ∈ zTb := zat 892 (by decide +kernel) rfl
theorem lkX8_220 : Cond.methodLink RX8 220 yX7_crossings ∈ zTb := zat 900 (by decide +kernel) rfl
theorem lkX8_227 : Cond.methodLink RX8 227 yX7_isSeen ∈ zTb := zat 908 (by decide +kernel) rfl
theorem lkX8_231 : Cond.methodLink RX8 231 yX7_thawOf ∈ zTb := zat 909 (by decide +kernel) rfl
theorem lkX8_235 : Cond.methodLink RX8 235 yX7_seenAround ∈ zTb := zat 910 (by decide +kernel) rfl
theorem lkX8_238 : Cond.methodLink RX8 238 yX7_cutOf ∈ zTb := zat 915 (by decide +kernel) rfl
theorem lkX8_242 : Cond.methodLink RX8 242 yX3_isLetter ∈ zTb := zat 920 (by decide +kernel) rfl
theorem lkX8_248 : Cond.methodLink RX8 248 yX3_isWant ∈ zTb := zat 928 (by decide +kernel) rfl
theorem lkX8_257 : Cond.methodLink RX8 257 yX7_isReadSo ∈ zTb := zat 932 (by decide +kernel) rfl
theorem lkX7_145 : Cond.methodLink RX7 145 yX7_readBox ∈ zTb := zat 936 (by decide +kernel) rfl
theorem lkX7_132 : Cond.methodLink RX7 132 yX7_seenBox ∈ zTb := zat 940 (by decide +kernel) rfl
theorem lkX7_129 : Cond.methodLink RX7 129 yX7_inBox ∈ zTb := zat 944 (by decide +kernel) rfl
theorem lkX8_264 : Cond.methodLink RX8 264 yX7_isBox ∈ zTb := zat 955 (by decide +kernel) rfl
theorem lkX8_267 : Cond.methodLink RX8 267 yX7_readBox ∈ zTb := zat 956 (by decide +kernel) rfl
theorem lkX8_272 : Cond.methodLink RX8 272 yX8_think ∈ zTb := zat 962 (by decide +kernel) rfl
theorem lkX8_275 : Cond.methodLink RX8 275 yX7_seenCells ∈ zTb := zat 966 (by decide +kernel) rfl
theorem lkX8_279 : Cond.methodLink RX8 279 yX7_wantsRead ∈ zTb := zat 974 (by decide +kernel) rfl
theorem lkX7_154 : Cond.methodLink RX7 154 yX7_isReadSo ∈ zTb := zat 978 (by decide +kernel) rfl
theorem lkX8_283 : Cond.methodLink RX8 283 yJ6_bitCount_0f7a4 ∈ zTb := zat 979 (by decide +kernel) rfl
theorem lkX8_288 : Cond.methodLink RX8 288 yX8_leastOf ∈ zTb := zat 989 (by decide +kernel) rfl
theorem lkX8_291 : Cond.methodLink RX8 291 yX7_areCells ∈ zTb := zat 996 (by decide +kernel) rfl
theorem lkX8_295 : Cond.methodLink RX8 295 yX4_take ∈ zTb := zat 1000 (by decide +kernel) rfl
theorem lkX4_37 : Cond.methodLink RX4 37 yJ13_bitCount_95d88 ∈ zTb := zat 1004 (by decide +kernel) rfl
theorem lkX4_43 : Cond.methodLink RX4 43 yX4_fillTours ∈ zTb := zat 1010 (by decide +kernel) rfl
theorem lkX4_46 : Cond.methodLink RX4 46 yX4_all ∈ zTb := zat 1014 (by decide +kernel) rfl
theorem lkX4_50 : Cond.methodLink RX4 50 yX4_lead ∈ zTb := zat 1018 (by decide +kernel) rfl
theorem lkX4_54 : Cond.methodLink RX4 54 yX4_firstStop ∈ zTb := zat 1022 (by decide +kernel) rfl
theorem lkX8_369 : Cond.methodLink RX8 369 yJ9_abs_0f7a4 ∈ zTb := zat 1030 (by decide +kernel) rfl
theorem lkX8_298 : Cond.methodLink RX8 298 yX4_all ∈ zTb := zat 1033 (by decide +kernel) rfl
theorem lkX8_301 : Cond.methodLink RX8 301 yX4_lead ∈ zTb := zat 1034 (by decide +kernel) rfl
theorem lkX8_306 : Cond.methodLink RX8 306 yX4_stop ∈ zTb := zat 1035 (by decide +kernel) rfl
theorem lkX8_309 : Cond.methodLink RX8 309 yX4_begin ∈ zTb := zat 1043 (by decide +kernel) rfl
theorem lkX4_61 : Cond.methodLink RX4 61 yJ9_min_7cf53 ∈ zTb := zat 1047 (by decide +kernel) rfl
theorem lkX8_312 : Cond.methodLink RX8 312 yX4_longest ∈ zTb := zat 1049 (by decide +kernel) rfl
theorem lkX4_72 : Cond.methodLink RX4 72 yJ7_fill_53178 ∈ zTb := zat 1053 (by decide +kernel) rfl
theorem lkX4_78 : Cond.methodLink RX4 78 yX4_fillCosts ∈ zTb := zat 1054 (by decide +kernel) rfl
theorem lkX4_82 : Cond.methodLink RX4 82 yX4_lastNeeded ∈ zTb := zat 1058 (by decide +kernel) rfl
theorem lkX4_86 : Cond.methodLink RX4 86 yX4_leastLongest ∈ zTb := zat 1062 (by decide +kernel) rfl
theorem lkX4_99 : Cond.methodLink RX4 99 yJ9_max_7cf53 ∈ zTb := zat 1066 (by decide +kernel) rfl
theorem lkX8_315 : Cond.methodLink RX8 315 yX4_taker ∈ zTb := zat 1067 (by decide +kernel) rfl
theorem lkX4_89 : Cond.methodLink RX4 89 yX4_longest ∈ zTb := zat 1071 (by decide +kernel) rfl
theorem lkX4_92 : Cond.methodLink RX4 92 yX4_fillDigits ∈ zTb := zat 1072 (by decide +kernel) rfl
theorem lkX4_95 : Cond.methodLink RX4 95 yX4_leastTakers ∈ zTb := zat 1076 (by decide +kernel) rfl
theorem lkX8_318 : Cond.methodLink RX8 318 yX7_seenBox ∈ zTb := zat 1084 (by decide +kernel) rfl
theorem lkX8_321 : Cond.methodLink RX8 321 yX3_allLetters ∈ zTb := zat 1089 (by decide +kernel) rfl
theorem lkX8_324 : Cond.methodLink RX8 324 yX3_having ∈ zTb := zat 1093 (by decide +kernel) rfl
theorem lkX8_327 : Cond.methodLink RX8 327 yJ9_max_7cf53 ∈ zTb := zat 1097 (by decide +kernel) rfl
theorem lkX8_332 : Cond.methodLink RX8 332 yX7_writtenBy ∈ zTb := zat 1102 (by decide +kernel) rfl
theorem lkX8_335 : Cond.methodLink RX8 335 yX3_differ ∈ zTb := zat 1110 (by decide +kernel) rfl
theorem lkX3_34 : Cond.methodLink RX3 34 yJ6_bitCount_0f7a4 ∈ zTb := zat 1114 (by decide +kernel) rfl
theorem lkX8_339 : Cond.methodLink RX8 339 yX8_distance ∈ zTb := zat 1119 (by decide +kernel) rfl
theorem lkX8_342 : Cond.methodLink RX8 342 yX0_between ∈ zTb := zat 1120 (by decide +kernel) rfl
theorem lkX0_28 : Cond.methodLink RX0 28 yJ7_fill_53178 ∈ zTb := zat 1124 (by decide +kernel) rfl
theorem lkX0_34 : Cond.methodLink RX0 34 yX0_findsWay ∈ zTb := zat 1125 (by decide +kernel) rfl
theorem lkX0_42 : Cond.methodLink RX0 42 yX0_find ∈ zTb := zat 1129 (by decide +kernel) rfl
theorem lkX0_45 : Cond.methodLink RX0 45 yX0_leave ∈ zTb := zat 1133 (by decide +kernel) rfl
theorem lkX0_52 : Cond.methodLink RX0 52 yX7_beside ∈ zTb := zat 1137 (by decide +kernel) rfl
theorem lkX0_49 : Cond.methodLink RX0 49 yX0_enter ∈ zTb := zat 1138 (by decide +kernel) rfl
theorem lkX0_58 : Cond.methodLink RX0 58 yX0_back ∈ zTb := zat 1142 (by decide +kernel) rfl
theorem lkX0_38 : Cond.methodLink RX0 38 yX0_addWay ∈ zTb := zat 1145 (by decide +kernel) rfl
theorem lkX0_62 : Cond.methodLink RX0 62 yX0_turn ∈ zTb := zat 1149 (by decide +kernel) rfl
theorem lkX0_65 : Cond.methodLink RX0 65 yX0_direction ∈ zTb := zat 1153 (by decide +kernel) rfl
theorem lkX8_346 : Cond.methodLink RX8 346 yJ7_fill_53178 ∈ zTb := zat 1160 (by decide +kernel) rfl
theorem lkX8_352 : Cond.methodLink RX8 352 yX8_loseOne ∈ zTb := zat 1162 (by decide +kernel) rfl
theorem lkX8_355 : Cond.methodLink RX8 355 yX7_copy ∈ zTb := zat 1178 (by decide +kernel) rfl
theorem lkX7_80 : Cond.methodLink RX7 80 yX2_copy ∈ zTb := zat 1183 (by decide +kernel) rfl
theorem lkX7_84 : Cond.methodLink RX7 84 yX6_copy ∈ zTb := zat 1184 (by decide +kernel) rfl
theorem lkX7_87 : Cond.methodLink RX7 87 yX1_copy ∈ zTb := zat 1185 (by decide +kernel) rfl
theorem lkX7_90 : Cond.methodLink RX7 90 yX3_copy ∈ zTb := zat 1186 (by decide +kernel) rfl
theorem lkX8_364 : Cond.methodLink RX8 364 yJ13_bitCount_95d88 ∈ zTb := zat 1191 (by decide +kernel) rfl
theorem lkX9_90 : Cond.methodLink RX9 90 yX9_begins ∈ zTb := zat 1198 (by decide +kernel) rfl
theorem lkX9_109 : Cond.methodLink RX9 109 yX9_forgets ∈ zTb := zat 1349 (by decide +kernel) rfl
theorem lkX9_97 : Cond.methodLink RX9 97 yX9_isIn ∈ zTb := zat 1357 (by decide +kernel) rfl
theorem lkX9_105 : Cond.methodLink RX9 105 yX9_isCell ∈ zTb := zat 1364 (by decide +kernel) rfl
theorem lkX9_101 : Cond.methodLink RX9 101 yX9_isAt ∈ zTb := zat 1368 (by decide +kernel) rfl
theorem lkX9_117 : Cond.methodLink RX9 117 yX9_canSet ∈ zTb := zat 1376 (by decide +kernel) rfl
theorem lkX9_114 : Cond.methodLink RX9 114 yX9_isSkater ∈ zTb := zat 1380 (by decide +kernel) rfl
theorem lkX9_228 : Cond.methodLink RX9 228 yX9_next0 ∈ zTb := zat 1396 (by decide +kernel) rfl
theorem lkX9_200 : Cond.methodLink RX9 200 yX9_see ∈ zTb := zat 1400 (by decide +kernel) rfl
theorem lkX9_207 : Cond.methodLink RX9 207 yX9_isLetter ∈ zTb := zat 1404 (by decide +kernel) rfl
theorem lkX9_210 : Cond.methodLink RX9 210 yX9_word ∈ zTb := zat 1407 (by decide +kernel) rfl
theorem lkX9_189 : Cond.methodLink RX9 189 yX9_wayWord ∈ zTb := zat 1411 (by decide +kernel) rfl
theorem lkX9_141 : Cond.methodLink RX9 141 yX9_is ∈ zTb := zat 1416 (by decide +kernel) rfl
theorem lkX9_129 : Cond.methodLink RX9 129 yJ0_length_8abf5 ∈ zTb := zat 1420 (by decide +kernel) rfl
theorem lkX9_135 : Cond.methodLink RX9 135 yJ0_charAt_5068e ∈ zTb := zat 1421 (by decide +kernel) rfl
theorem lkX9_192 : Cond.methodLink RX9 192 yX9_iceWord ∈ zTb := zat 1429 (by decide +kernel) rfl
theorem lkX9_197 : Cond.methodLink RX9 197 yX9_wantWord ∈ zTb := zat 1446 (by decide +kernel) rfl
theorem lkX9_213 : Cond.methodLink RX9 213 yX9_isDigit ∈ zTb := zat 1452 (by decide +kernel) rfl
theorem lkX9_306 : Cond.methodLink RX9 306 yX9_readsWays ∈ zTb := zat 1455 (by decide +kernel) rfl
theorem lkX9_285 : Cond.methodLink RX9 285 yX9_aWay ∈ zTb := zat 1459 (by decide +kernel) rfl
theorem lkX9_225 : Cond.methodLink RX9 225 yX9_bad ∈ zTb := zat 1463 (by decide +kernel) rfl
theorem lkX9_273 : Cond.methodLink RX9 273 yX9_number ∈ zTb := zat 1467 (by decide +kernel) rfl
theorem lkX9_279 : Cond.methodLink RX9 279 yX9_someSteps ∈ zTb := zat 1471 (by decide +kernel) rfl
theorem lkX9_258 : Cond.methodLink RX9 258 yX9_need ∈ zTb := zat 1475 (by decide +kernel) rfl
theorem lkX9_309 : Cond.methodLink RX9 309 yX9_readsLaw ∈ zTb := zat 1479 (by decide +kernel) rfl
theorem lkX9_267 : Cond.methodLink RX9 267 yX9_aLine ∈ zTb := zat 1483 (by decide +kernel) rfl
theorem lkX9_261 : Cond.methodLink RX9 261 yX9_sumUp ∈ zTb := zat 1487 (by decide +kernel) rfl
theorem lkX9_236 : Cond.methodLink RX9 236 yX9_product ∈ zTb := zat 1491 (by decide +kernel) rfl
theorem lkX9_243 : Cond.methodLink RX9 243 yX9_unit ∈ zTb := zat 1495 (by decide +kernel) rfl
theorem lkX9_240 : Cond.methodLink RX9 240 yX9_lay ∈ zTb := zat 1499 (by decide +kernel) rfl
theorem lkX9_255 : Cond.methodLink RX9 255 yX9_any ∈ zTb := zat 1503 (by decide +kernel) rfl
theorem lkX9_246 : Cond.methodLink RX9 246 yX9_every ∈ zTb := zat 1507 (by decide +kernel) rfl
theorem lkX9_249 : Cond.methodLink RX9 249 yX9_oneTest ∈ zTb := zat 1511 (by decide +kernel) rfl
theorem lkX9_252 : Cond.methodLink RX9 252 yX9_opens ∈ zTb := zat 1515 (by decide +kernel) rfl
theorem lkX9_312 : Cond.methodLink RX9 312 yX9_readsLetters ∈ zTb := zat 1519 (by decide +kernel) rfl
theorem lkX9_291 : Cond.methodLink RX9 291 yX9_aLetter ∈ zTb := zat 1523 (by decide +kernel) rfl
theorem lkX9_315 : Cond.methodLink RX9 315 yX9_readsWants ∈ zTb := zat 1527 (by decide +kernel) rfl
theorem lkX9_300 : Cond.methodLink RX9 300 yX9_aWant ∈ zTb := zat 1531 (by decide +kernel) rfl
theorem lkX9_297 : Cond.methodLink RX9 297 yX9_isBox ∈ zTb := zat 1535 (by decide +kernel) rfl
theorem lkX9_318 : Cond.methodLink RX9 318 yX9_putsWays ∈ zTb := zat 1539 (by decide +kernel) rfl
theorem lkX9_321 : Cond.methodLink RX9 321 yX9_putsLaw ∈ zTb := zat 1543 (by decide +kernel) rfl
theorem lkX9_324 : Cond.methodLink RX9 324 yX9_putsLetters ∈ zTb := zat 1547 (by decide +kernel) rfl
theorem lkX9_327 : Cond.methodLink RX9 327 yX9_putsWants ∈ zTb := zat 1551 (by decide +kernel) rfl
theorem lkX9_393 : Cond.methodLink RX9 393 yX9_keeps ∈ zTb := zat 1567 (by decide +kernel) rfl
theorem lkX9_396 : Cond.methodLink RX9 396 yX9_aMinute ∈ zTb := zat 1571 (by decide +kernel) rfl
theorem lkX9_382 : Cond.methodLink RX9 382 yX9_falls ∈ zTb := zat 1575 (by decide +kernel) rfl
theorem lkX9_379 : Cond.methodLink RX9 379 yX9_draw ∈ zTb := zat 1579 (by decide +kernel) rfl
theorem lkX9_375 : Cond.methodLink RX9 375 yX9_deepens ∈ zTb := zat 1585 (by decide +kernel) rfl
theorem lkX9_340 : Cond.methodLink RX9 340 yX9_lesser ∈ zTb := zat 1589 (by decide +kernel) rfl
theorem lkX9_386 : Cond.methodLink RX9 386 yX9_goesOn ∈ zTb := zat 1592 (by decide +kernel) rfl
theorem lkX9_366 : Cond.methodLink RX9 366 yX9_stepOf ∈ zTb := zat 1596 (by decide +kernel) rfl
theorem lkX9_369 : Cond.methodLink RX9 369 yX9_wentTo ∈ zTb := zat 1600 (by decide +kernel) rfl
theorem lkX9_372 : Cond.methodLink RX9 372 yX9_cutOf ∈ zTb := zat 1604 (by decide +kernel) rfl
theorem lkX9_356 : Cond.methodLink RX9 356 yX9_lays ∈ zTb := zat 1608 (by decide +kernel) rfl
theorem lkX9_353 : Cond.methodLink RX9 353 yX9_aroundOf ∈ zTb := zat 1612 (by decide +kernel) rfl
theorem lkX9_350 : Cond.methodLink RX9 350 yX9_seenAt ∈ zTb := zat 1616 (by decide +kernel) rfl
theorem lkX9_347 : Cond.methodLink RX9 347 yX9_isSeen ∈ zTb := zat 1620 (by decide +kernel) rfl
theorem lkX9_360 : Cond.methodLink RX9 360 yX9_isAnothers ∈ zTb := zat 1624 (by decide +kernel) rfl
theorem lkX9_363 : Cond.methodLink RX9 363 yX9_says ∈ zTb := zat 1628 (by decide +kernel) rfl
theorem lkX9_337 : Cond.methodLink RX9 337 yX9_isSo ∈ zTb := zat 1632 (by decide +kernel) rfl
theorem lkX9_334 : Cond.methodLink RX9 334 yX9_comesTo ∈ zTb := zat 1636 (by decide +kernel) rfl
theorem lkX9_330 : Cond.methodLink RX9 330 yX9_both ∈ zTb := zat 1640 (by decide +kernel) rfl
theorem lkX9_344 : Cond.methodLink RX9 344 yX9_greater ∈ zTb := zat 1643 (by decide +kernel) rfl
theorem lkX9_390 : Cond.methodLink RX9 390 yX9_thawOf ∈ zTb := zat 1646 (by decide +kernel) rfl
theorem lkX9_403 : Cond.methodLink RX9 403 yX9_readIn ∈ zTb := zat 1654 (by decide +kernel) rfl
theorem lkX9_400 : Cond.methodLink RX9 400 yX9_shapeOf ∈ zTb := zat 1658 (by decide +kernel) rfl
theorem lkX9_411 : Cond.methodLink RX9 411 yX9_laysAside ∈ zTb := zat 1667 (by decide +kernel) rfl
theorem lkX9_414 : Cond.methodLink RX9 414 yX9_seenAll ∈ zTb := zat 1671 (by decide +kernel) rfl
theorem lkX9_418 : Cond.methodLink RX9 418 yX9_putsBack ∈ zTb := zat 1675 (by decide +kernel) rfl
theorem lkX9_421 : Cond.methodLink RX9 421 yX9_readMany ∈ zTb := zat 1683 (by decide +kernel) rfl
theorem lkX9_406 : Cond.methodLink RX9 406 yX9_isRead ∈ zTb := zat 1687 (by decide +kernel) rfl
theorem lkX9_424 : Cond.methodLink RX9 424 yX9_readSet ∈ zTb := zat 1695 (by decide +kernel) rfl
theorem lkX9_427 : Cond.methodLink RX9 427 yX9_leastIn ∈ zTb := zat 1699 (by decide +kernel) rfl
theorem lkX9_443 : Cond.methodLink RX9 443 yX9_laysGoals ∈ zTb := zat 1706 (by decide +kernel) rfl
theorem lkX9_433 : Cond.methodLink RX9 433 yX9_all ∈ zTb := zat 1710 (by decide +kernel) rfl
theorem lkX9_447 : Cond.methodLink RX9 447 yX9_laysRoutes ∈ zTb := zat 1714 (by decide +kernel) rfl
theorem lkX9_436 : Cond.methodLink RX9 436 yX9_leastOver ∈ zTb := zat 1718 (by decide +kernel) rfl
theorem lkX9_440 : Cond.methodLink RX9 440 yX9_apart ∈ zTb := zat 1723 (by decide +kernel) rfl
theorem lkX9_456 : Cond.methodLink RX9 456 yX9_laysCosts ∈ zTb := zat 1730 (by decide +kernel) rfl
theorem lkX9_459 : Cond.methodLink RX9 459 yX9_soonestSteps ∈ zTb := zat 1734 (by decide +kernel) rfl
theorem lkX9_453 : Cond.methodLink RX9 453 yX9_isDoneBy ∈ zTb := zat 1738 (by decide +kernel) rfl
theorem lkX9_450 : Cond.methodLink RX9 450 yX9_takesSome ∈ zTb := zat 1742 (by decide +kernel) rfl
theorem lkX9_462 : Cond.methodLink RX9 462 yX9_takerOf ∈ zTb := zat 1746 (by decide +kernel) rfl
theorem lkX9_465 : Cond.methodLink RX9 465 yX9_count ∈ zTb := zat 1766 (by decide +kernel) rfl
theorem lkX9_468 : Cond.methodLink RX9 468 yX9_greaterPart ∈ zTb := zat 1769 (by decide +kernel) rfl
theorem lkX9_471 : Cond.methodLink RX9 471 yX9_cutsOf ∈ zTb := zat 1777 (by decide +kernel) rfl
theorem lkX9_474 : Cond.methodLink RX9 474 yX9_areApart ∈ zTb := zat 1785 (by decide +kernel) rfl
theorem lkX9_492 : Cond.methodLink RX9 492 yX9_oneMore ∈ zTb := zat 1793 (by decide +kernel) rfl
theorem lkX9_480 : Cond.methodLink RX9 480 yX9_comesBy ∈ zTb := zat 1797 (by decide +kernel) rfl
theorem lkX9_483 : Cond.methodLink RX9 483 yX9_spreads ∈ zTb := zat 1801 (by decide +kernel) rfl
theorem lkX9_486 : Cond.methodLink RX9 486 yX9_turnsBack ∈ zTb := zat 1805 (by decide +kernel) rfl
theorem lkX9_489 : Cond.methodLink RX9 489 yX9_wayBetween ∈ zTb := zat 1809 (by decide +kernel) rfl
theorem lkX9_498 : Cond.methodLink RX9 498 yX9_crossedBy ∈ zTb := zat 1827 (by decide +kernel) rfl
theorem lkX9_505 : Cond.methodLink RX9 505 yX9_seenMany ∈ zTb := zat 1851 (by decide +kernel) rfl
theorem kcX2_49 : Cond.constant RX2 49 (1664525) ∈ zTb := zat 812 (by decide +kernel) rfl
theorem kcX2_50 : Cond.constant RX2 50 (1013904223) ∈ zTb := zat 813 (by decide +kernel) rfl
theorem kcX8_270 : Cond.constantLong RX8 270 (-1) ∈ zTb := zat 961 (by decide +kernel) rfl
theorem kcJ6_265 : Cond.constant RJ6 265 (1431655765) ∈ zTb := zat 982 (by decide +kernel) rfl
theorem kcJ6_266 : Cond.constant RJ6 266 (858993459) ∈ zTb := zat 983 (by decide +kernel) rfl
theorem kcJ6_267 : Cond.constant RJ6 267 (252645135) ∈ zTb := zat 984 (by decide +kernel) rfl
theorem kcJ13_314 : Cond.constantLong RJ13 314 (6148914691236517205) ∈ zTb := zat 1007 (by decide +kernel) rfl
theorem kcJ13_316 : Cond.constantLong RJ13 316 (3689348814741910323) ∈ zTb := zat 1008 (by decide +kernel) rfl
theorem kcJ13_318 : Cond.constantLong RJ13 318 (1085102592571150095) ∈ zTb := zat 1009 (by decide +kernel) rfl
theorem kcX4_60 : Cond.constant RX4 60 (100000000) ∈ zTb := zat 1026 (by decide +kernel) rfl
theorem kcX8_351 : Cond.constant RX8 351 (1000000) ∈ zTb := zat 1161 (by decide +kernel) rfl
theorem kcX9_112 : Cond.constant RX9 112 (1664525) ∈ zTb := zat 1583 (by decide +kernel) rfl
theorem kcX9_113 : Cond.constant RX9 113 (1013904223) ∈ zTb := zat 1584 (by decide +kernel) rfl
theorem kcX9_409 : Cond.constantLong RX9 409 (-1) ∈ zTb := zat 1666 (by decide +kernel) rfl
theorem kcX9_439 : Cond.constant RX9 439 (100000) ∈ zTb := zat 1722 (by decide +kernel) rfl
theorem kcX9_495 : Cond.constant RX9 495 (1000000) ∈ zTb := zat 1817 (by decide +kernel) rfl
theorem kcX9_496 : Cond.constantLong RX9 496 (1000) ∈ zTb := zat 1818 (by decide +kernel) rfl
