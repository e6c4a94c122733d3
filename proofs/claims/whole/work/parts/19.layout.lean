/-! the cells once all is made: what each is, and what each reference stands for (r: the reference's field 'read') -/
def LAY : List (Nat × Nat) := [(11, 17), (9, 4), (13, 80), (4, 2), (13, 8), (10, 12), (13, 4), (13, 8), (13, 8), (17, 8), (13, 24), (13, 24), (13, 24), (13, 24), (13, 24), (13, 24), (13, 24), (13, 24), (13, 8), (13, 8), (5, 3), (13, 40), (13, 40), (5, 3), (13, 40), (13, 40), (10, 12), (13, 4), (13, 8), (13, 8), (17, 8), (13, 24), (13, 24), (13, 24), (13, 24), (13, 24), (13, 24), (13, 24), (13, 24), (13, 8), (13, 8), (5, 3), (13, 40), (13, 40), (5, 3), (13, 40), (13, 40), (8, 1), (13, 121), (8, 1), (13, 121), (1, 3), (13, 4), (13, 4), (13, 8), (3, 8), (17, 10), (13, 121), (13, 121), (13, 121), (13, 121), (13, 121), (13, 121), (13, 121), (13, 121), (13, 121), (13, 121), (17, 2), (13, 121), (13, 121), (17, 2), (13, 8), (13, 8), (17, 2), (13, 4), (13, 4), (13, 2), (13, 2), (0, 2), (13, 256), (13, 256), (7, 11), (8, 1), (13, 121), (17, 6), (13, 121), (13, 121), (13, 121), (13, 121), (13, 121), (13, 121), (13, 6), (13, 6), (13, 6), (6, 6), (5, 3), (13, 40), (13, 40), (13, 40), (2, 6), (13, 60), (13, 60), (13, 60), (13, 60), (13, 8), (13, 8), (13, 8), (13, 4008), (12, 51), (13, 4), (13, 8), (15, 8), (13, 192), (13, 8), (13, 8), (13, 8), (13, 8), (13, 8), (13, 8), (13, 8), (13, 8), (13, 64), (14, 80), (13, 16), (18, 2), (14, 40), (14, 40), (13, 2), (13, 8), (13, 8), (13, 4), (13, 4), (13, 1210), (13, 121), (13, 320), (13, 256), (13, 8), (13, 8), (13, 8), (13, 8), (13, 60621), (13, 266), (15, 2), (13, 2), (16, 1)]
def RFu (r : Nat) : List (List Nat) := [[2, 4, 6, 27, 48, 50, 52, 56, 79, 82, 95, 100, 105, 106, 0, 107, 108], [3, 0, 0, 0], [], [5, 0], [], [0, 0, 7, 8, 9, 10, 19, 20, 21, 24, 0, 0], [], [], [], [11, 12, 13, 14, 15, 16, 17, 18], [], [], [], [], [], [], [], [], [], [], [22, 23, 0], [], [], [25, 26, 0], [], [], [0, 0, 28, 29, 30, 31, 40, 41, 42, 45, 0, 0], [], [], [], [32, 33, 34, 35, 36, 37, 38, 39], [], [], [], [], [], [], [], [], [], [], [43, 44, 0], [], [], [46, 47, 0], [], [], [49], [], [51], [], [53, 54, 55], [], [], [], [0, 57, 0, 68, 71, 74, 77, 78], [58, 59, 60, 61, 62, 63, 64, 65, 66, 67], [], [], [], [], [], [], [], [], [], [], [69, 70], [], [], [72, 73], [], [], [75, 76], [], [], [], [], [80, 81], [], [], [0, 27, 52, 83, 85, 92, 93, 94, 0, 0, 0], [84], [], [86, 87, 88, 89, 90, 91], [], [], [], [], [], [], [], [], [], [96, 2, 99, 0, 0, 0], [97, 98, 0], [], [], [], [101, 102, 103, 104, 0, 2], [], [], [], [], [], [], [], [], [0, 110, 0, 111, 112, 113, 114, 115, 116, 117, 118, 119, 120, 121, 122, 0, 123, 0, 124, 0, 0, r, 0, 0, 0, 0, 125, 128, 0, 0, 129, 130, 0, 0, 131, 132, 133, 0, 134, 135, 136, 137, 138, 139, 140, 0, 141, 0, 142, 143, 144], [], [], [], [], [], [], [], [], [], [], [], [], [], [], [], [126, 127], [], [], [], [], [], [], [], [], [], [], [], [], [], [], [], [], [], [], [], []]
theorem LAY_len : LAY.length = 145 := by decide +kernel
def isRule (b : Nat) : Prop := b = 20 ∨ b = 23 ∨ b = 41 ∨ b = 44 ∨ b = 95
def isState (b : Nat) : Prop := b = 47 ∨ b = 49 ∨ b = 82
def isTown (b : Nat) : Prop := b = 5 ∨ b = 26
theorem ly_0 : LAY[0]? = some (11, 17) := rfl
theorem ly_1 : LAY[1]? = some (9, 4) := rfl
theorem ly_2 : LAY[2]? = some (13, 80) := rfl
theorem ly_3 : LAY[3]? = some (4, 2) := rfl
theorem ly_4 : LAY[4]? = some (13, 8) := rfl
theorem ly_5 : LAY[5]? = some (10, 12) := rfl
theorem ly_6 : LAY[6]? = some (13, 4) := rfl
theorem ly_7 : LAY[7]? = some (13, 8) := rfl
theorem ly_8 : LAY[8]? = some (13, 8) := rfl
theorem ly_9 : LAY[9]? = some (17, 8) := rfl
theorem ly_10 : LAY[10]? = some (13, 24) := rfl
theorem ly_11 : LAY[11]? = some (13, 24) := rfl
theorem ly_12 : LAY[12]? = some (13, 24) := rfl
theorem ly_13 : LAY[13]? = some (13, 24) := rfl
theorem ly_14 : LAY[14]? = some (13, 24) := rfl
theorem ly_15 : LAY[15]? = some (13, 24) := rfl
theorem ly_16 : LAY[16]? = some (13, 24) := rfl
theorem ly_17 : LAY[17]? = some (13, 24) := rfl
theorem ly_18 : LAY[18]? = some (13, 8) := rfl
theorem ly_19 : LAY[19]? = some (13, 8) := rfl
theorem ly_20 : LAY[20]? = some (5, 3) := rfl
theorem ly_21 : LAY[21]? = some (13, 40) := rfl
theorem ly_22 : LAY[22]? = some (13, 40) := rfl
theorem ly_23 : LAY[23]? = some (5, 3) := rfl
theorem ly_24 : LAY[24]? = some (13, 40) := rfl
theorem ly_25 : LAY[25]? = some (13, 40) := rfl
theorem ly_26 : LAY[26]? = some (10, 12) := rfl
theorem ly_27 : LAY[27]? = some (13, 4) := rfl
theorem ly_28 : LAY[28]? = some (13, 8) := rfl
theorem ly_29 : LAY[29]? = some (13, 8) := rfl
theorem ly_30 : LAY[30]? = some (17, 8) := rfl
theorem ly_31 : LAY[31]? = some (13, 24) := rfl
theorem ly_32 : LAY[32]? = some (13, 24) := rfl
theorem ly_33 : LAY[33]? = some (13, 24) := rfl
theorem ly_34 : LAY[34]? = some (13, 24) := rfl
theorem ly_35 : LAY[35]? = some (13, 24) := rfl
theorem ly_36 : LAY[36]? = some (13, 24) := rfl
theorem ly_37 : LAY[37]? = some (13, 24) := rfl
theorem ly_38 : LAY[38]? = some (13, 24) := rfl
theorem ly_39 : LAY[39]? = some (13, 8) := rfl
theorem ly_40 : LAY[40]? = some (13, 8) := rfl
theorem ly_41 : LAY[41]? = some (5, 3) := rfl
theorem ly_42 : LAY[42]? = some (13, 40) := rfl
theorem ly_43 : LAY[43]? = some (13, 40) := rfl
theorem ly_44 : LAY[44]? = some (5, 3) := rfl
theorem ly_45 : LAY[45]? = some (13, 40) := rfl
theorem ly_46 : LAY[46]? = some (13, 40) := rfl
theorem ly_47 : LAY[47]? = some (8, 1) := rfl
theorem ly_48 : LAY[48]? = some (13, 121) := rfl
theorem ly_49 : LAY[49]? = some (8, 1) := rfl
theorem ly_50 : LAY[50]? = some (13, 121) := rfl
theorem ly_51 : LAY[51]? = some (1, 3) := rfl
theorem ly_52 : LAY[52]? = some (13, 4) := rfl
theorem ly_53 : LAY[53]? = some (13, 4) := rfl
theorem ly_54 : LAY[54]? = some (13, 8) := rfl
theorem ly_55 : LAY[55]? = some (3, 8) := rfl
theorem ly_56 : LAY[56]? = some (17, 10) := rfl
theorem ly_57 : LAY[57]? = some (13, 121) := rfl
theorem ly_58 : LAY[58]? = some (13, 121) := rfl
theorem ly_59 : LAY[59]? = some (13, 121) := rfl
theorem ly_60 : LAY[60]? = some (13, 121) := rfl
theorem ly_61 : LAY[61]? = some (13, 121) := rfl
theorem ly_62 : LAY[62]? = some (13, 121) := rfl
theorem ly_63 : LAY[63]? = some (13, 121) := rfl
theorem ly_64 : LAY[64]? = some (13, 121) := rfl
theorem ly_65 : LAY[65]? = some (13, 121) := rfl
theorem ly_66 : LAY[66]? = some (13, 121) := rfl
theorem ly_67 : LAY[67]? = some (17, 2) := rfl
theorem ly_68 : LAY[68]? = some (13, 121) := rfl
theorem ly_69 : LAY[69]? = some (13, 121) := rfl
theorem ly_70 : LAY[70]? = some (17, 2) := rfl
theorem ly_71 : LAY[71]? = some (13, 8) := rfl
theorem ly_72 : LAY[72]? = some (13, 8) := rfl
theorem ly_73 : LAY[73]? = some (17, 2) := rfl
theorem ly_74 : LAY[74]? = some (13, 4) := rfl
theorem ly_75 : LAY[75]? = some (13, 4) := rfl
theorem ly_76 : LAY[76]? = some (13, 2) := rfl
theorem ly_77 : LAY[77]? = some (13, 2) := rfl
theorem ly_78 : LAY[78]? = some (0, 2) := rfl
theorem ly_79 : LAY[79]? = some (13, 256) := rfl
theorem ly_80 : LAY[80]? = some (13, 256) := rfl
theorem ly_81 : LAY[81]? = some (7, 11) := rfl
theorem ly_82 : LAY[82]? = some (8, 1) := rfl
theorem ly_83 : LAY[83]? = some (13, 121) := rfl
theorem ly_84 : LAY[84]? = some (17, 6) := rfl
theorem ly_85 : LAY[85]? = some (13, 121) := rfl
theorem ly_86 : LAY[86]? = some (13, 121) := rfl
theorem ly_87 : LAY[87]? = some (13, 121) := rfl
theorem ly_88 : LAY[88]? = some (13, 121) := rfl
theorem ly_89 : LAY[89]? = some (13, 121) := rfl
theorem ly_90 : LAY[90]? = some (13, 121) := rfl
theorem ly_91 : LAY[91]? = some (13, 6) := rfl
theorem ly_92 : LAY[92]? = some (13, 6) := rfl
theorem ly_93 : LAY[93]? = some (13, 6) := rfl
theorem ly_94 : LAY[94]? = some (6, 6) := rfl
theorem ly_95 : LAY[95]? = some (5, 3) := rfl
theorem ly_96 : LAY[96]? = some (13, 40) := rfl
theorem ly_97 : LAY[97]? = some (13, 40) := rfl
theorem ly_98 : LAY[98]? = some (13, 40) := rfl
theorem ly_99 : LAY[99]? = some (2, 6) := rfl
theorem ly_100 : LAY[100]? = some (13, 60) := rfl
theorem ly_101 : LAY[101]? = some (13, 60) := rfl
theorem ly_102 : LAY[102]? = some (13, 60) := rfl
theorem ly_103 : LAY[103]? = some (13, 60) := rfl
theorem ly_104 : LAY[104]? = some (13, 8) := rfl
theorem ly_105 : LAY[105]? = some (13, 8) := rfl
theorem ly_106 : LAY[106]? = some (13, 8) := rfl
theorem ly_107 : LAY[107]? = some (13, 4008) := rfl
theorem ly_108 : LAY[108]? = some (12, 51) := rfl
theorem ly_109 : LAY[109]? = some (13, 4) := rfl
theorem ly_110 : LAY[110]? = some (13, 8) := rfl
theorem ly_111 : LAY[111]? = some (15, 8) := rfl
theorem ly_112 : LAY[112]? = some (13, 192) := rfl
theorem ly_113 : LAY[113]? = some (13, 8) := rfl
theorem ly_114 : LAY[114]? = some (13, 8) := rfl
theorem ly_115 : LAY[115]? = some (13, 8) := rfl
theorem ly_116 : LAY[116]? = some (13, 8) := rfl
theorem ly_117 : LAY[117]? = some (13, 8) := rfl
theorem ly_118 : LAY[118]? = some (13, 8) := rfl
theorem ly_119 : LAY[119]? = some (13, 8) := rfl
theorem ly_120 : LAY[120]? = some (13, 8) := rfl
theorem ly_121 : LAY[121]? = some (13, 64) := rfl
theorem ly_122 : LAY[122]? = some (14, 80) := rfl
theorem ly_123 : LAY[123]? = some (13, 16) := rfl
theorem ly_124 : LAY[124]? = some (18, 2) := rfl
theorem ly_125 : LAY[125]? = some (14, 40) := rfl
theorem ly_126 : LAY[126]? = some (14, 40) := rfl
theorem ly_127 : LAY[127]? = some (13, 2) := rfl
theorem ly_128 : LAY[128]? = some (13, 8) := rfl
theorem ly_129 : LAY[129]? = some (13, 8) := rfl
theorem ly_130 : LAY[130]? = some (13, 4) := rfl
theorem ly_131 : LAY[131]? = some (13, 4) := rfl
theorem ly_132 : LAY[132]? = some (13, 1210) := rfl
theorem ly_133 : LAY[133]? = some (13, 121) := rfl
theorem ly_134 : LAY[134]? = some (13, 320) := rfl
theorem ly_135 : LAY[135]? = some (13, 256) := rfl
theorem ly_136 : LAY[136]? = some (13, 8) := rfl
theorem ly_137 : LAY[137]? = some (13, 8) := rfl
theorem ly_138 : LAY[138]? = some (13, 8) := rfl
theorem ly_139 : LAY[139]? = some (13, 8) := rfl
theorem ly_140 : LAY[140]? = some (13, 60621) := rfl
theorem ly_141 : LAY[141]? = some (13, 266) := rfl
theorem ly_142 : LAY[142]? = some (15, 2) := rfl
theorem ly_143 : LAY[143]? = some (13, 2) := rfl
theorem ly_144 : LAY[144]? = some (16, 1) := rfl
theorem rg_0_0 {r : Nat} : ((RFu r).getD 0 []).getD 0 0 = 1 + 1 := rfl
theorem rg_0_1 {r : Nat} : ((RFu r).getD 0 []).getD 1 0 = 3 + 1 := rfl
theorem rg_0_2 {r : Nat} : ((RFu r).getD 0 []).getD 2 0 = 5 + 1 := rfl
theorem rg_0_3 {r : Nat} : ((RFu r).getD 0 []).getD 3 0 = 26 + 1 := rfl
theorem rg_0_4 {r : Nat} : ((RFu r).getD 0 []).getD 4 0 = 47 + 1 := rfl
theorem rg_0_5 {r : Nat} : ((RFu r).getD 0 []).getD 5 0 = 49 + 1 := rfl
theorem rg_0_6 {r : Nat} : ((RFu r).getD 0 []).getD 6 0 = 51 + 1 := rfl
theorem rg_0_7 {r : Nat} : ((RFu r).getD 0 []).getD 7 0 = 55 + 1 := rfl
theorem rg_0_8 {r : Nat} : ((RFu r).getD 0 []).getD 8 0 = 78 + 1 := rfl
theorem rg_0_9 {r : Nat} : ((RFu r).getD 0 []).getD 9 0 = 81 + 1 := rfl
theorem rg_0_10 {r : Nat} : ((RFu r).getD 0 []).getD 10 0 = 94 + 1 := rfl
theorem rg_0_11 {r : Nat} : ((RFu r).getD 0 []).getD 11 0 = 99 + 1 := rfl
theorem rg_0_12 {r : Nat} : ((RFu r).getD 0 []).getD 12 0 = 104 + 1 := rfl
theorem rg_0_13 {r : Nat} : ((RFu r).getD 0 []).getD 13 0 = 105 + 1 := rfl
theorem rg_0_15 {r : Nat} : ((RFu r).getD 0 []).getD 15 0 = 106 + 1 := rfl
theorem rg_0_16 {r : Nat} : ((RFu r).getD 0 []).getD 16 0 = 107 + 1 := rfl
theorem rg_1_0 {r : Nat} : ((RFu r).getD 1 []).getD 0 0 = 2 + 1 := rfl
theorem rg_3_0 {r : Nat} : ((RFu r).getD 3 []).getD 0 0 = 4 + 1 := rfl
theorem rg_5_2 {r : Nat} : ((RFu r).getD 5 []).getD 2 0 = 6 + 1 := rfl
theorem rg_5_3 {r : Nat} : ((RFu r).getD 5 []).getD 3 0 = 7 + 1 := rfl
theorem rg_5_4 {r : Nat} : ((RFu r).getD 5 []).getD 4 0 = 8 + 1 := rfl
theorem rg_5_5 {r : Nat} : ((RFu r).getD 5 []).getD 5 0 = 9 + 1 := rfl
theorem rg_5_6 {r : Nat} : ((RFu r).getD 5 []).getD 6 0 = 18 + 1 := rfl
theorem rg_5_7 {r : Nat} : ((RFu r).getD 5 []).getD 7 0 = 19 + 1 := rfl
theorem rg_5_8 {r : Nat} : ((RFu r).getD 5 []).getD 8 0 = 20 + 1 := rfl
theorem rg_5_9 {r : Nat} : ((RFu r).getD 5 []).getD 9 0 = 23 + 1 := rfl
theorem rg_20_0 {r : Nat} : ((RFu r).getD 20 []).getD 0 0 = 21 + 1 := rfl
theorem rg_20_1 {r : Nat} : ((RFu r).getD 20 []).getD 1 0 = 22 + 1 := rfl
theorem rg_23_0 {r : Nat} : ((RFu r).getD 23 []).getD 0 0 = 24 + 1 := rfl
theorem rg_23_1 {r : Nat} : ((RFu r).getD 23 []).getD 1 0 = 25 + 1 := rfl
theorem rg_26_2 {r : Nat} : ((RFu r).getD 26 []).getD 2 0 = 27 + 1 := rfl
theorem rg_26_3 {r : Nat} : ((RFu r).getD 26 []).getD 3 0 = 28 + 1 := rfl
theorem rg_26_4 {r : Nat} : ((RFu r).getD 26 []).getD 4 0 = 29 + 1 := rfl
theorem rg_26_5 {r : Nat} : ((RFu r).getD 26 []).getD 5 0 = 30 + 1 := rfl
theorem rg_26_6 {r : Nat} : ((RFu r).getD 26 []).getD 6 0 = 39 + 1 := rfl
theorem rg_26_7 {r : Nat} : ((RFu r).getD 26 []).getD 7 0 = 40 + 1 := rfl
theorem rg_26_8 {r : Nat} : ((RFu r).getD 26 []).getD 8 0 = 41 + 1 := rfl
theorem rg_26_9 {r : Nat} : ((RFu r).getD 26 []).getD 9 0 = 44 + 1 := rfl
theorem rg_41_0 {r : Nat} : ((RFu r).getD 41 []).getD 0 0 = 42 + 1 := rfl
theorem rg_41_1 {r : Nat} : ((RFu r).getD 41 []).getD 1 0 = 43 + 1 := rfl
theorem rg_44_0 {r : Nat} : ((RFu r).getD 44 []).getD 0 0 = 45 + 1 := rfl
theorem rg_44_1 {r : Nat} : ((RFu r).getD 44 []).getD 1 0 = 46 + 1 := rfl
theorem rg_47_0 {r : Nat} : ((RFu r).getD 47 []).getD 0 0 = 48 + 1 := rfl
theorem rg_49_0 {r : Nat} : ((RFu r).getD 49 []).getD 0 0 = 50 + 1 := rfl
theorem rg_51_0 {r : Nat} : ((RFu r).getD 51 []).getD 0 0 = 52 + 1 := rfl
theorem rg_51_1 {r : Nat} : ((RFu r).getD 51 []).getD 1 0 = 53 + 1 := rfl
theorem rg_51_2 {r : Nat} : ((RFu r).getD 51 []).getD 2 0 = 54 + 1 := rfl
theorem rg_55_1 {r : Nat} : ((RFu r).getD 55 []).getD 1 0 = 56 + 1 := rfl
theorem rg_55_3 {r : Nat} : ((RFu r).getD 55 []).getD 3 0 = 67 + 1 := rfl
theorem rg_55_4 {r : Nat} : ((RFu r).getD 55 []).getD 4 0 = 70 + 1 := rfl
theorem rg_55_5 {r : Nat} : ((RFu r).getD 55 []).getD 5 0 = 73 + 1 := rfl
theorem rg_55_6 {r : Nat} : ((RFu r).getD 55 []).getD 6 0 = 76 + 1 := rfl
theorem rg_55_7 {r : Nat} : ((RFu r).getD 55 []).getD 7 0 = 77 + 1 := rfl
theorem rg_78_0 {r : Nat} : ((RFu r).getD 78 []).getD 0 0 = 79 + 1 := rfl
theorem rg_78_1 {r : Nat} : ((RFu r).getD 78 []).getD 1 0 = 80 + 1 := rfl
theorem rg_81_1 {r : Nat} : ((RFu r).getD 81 []).getD 1 0 = 26 + 1 := rfl
theorem rg_81_2 {r : Nat} : ((RFu r).getD 81 []).getD 2 0 = 51 + 1 := rfl
theorem rg_81_3 {r : Nat} : ((RFu r).getD 81 []).getD 3 0 = 82 + 1 := rfl
theorem rg_81_4 {r : Nat} : ((RFu r).getD 81 []).getD 4 0 = 84 + 1 := rfl
theorem rg_81_5 {r : Nat} : ((RFu r).getD 81 []).getD 5 0 = 91 + 1 := rfl
theorem rg_81_6 {r : Nat} : ((RFu r).getD 81 []).getD 6 0 = 92 + 1 := rfl
theorem rg_81_7 {r : Nat} : ((RFu r).getD 81 []).getD 7 0 = 93 + 1 := rfl
theorem rg_82_0 {r : Nat} : ((RFu r).getD 82 []).getD 0 0 = 83 + 1 := rfl
theorem rg_94_0 {r : Nat} : ((RFu r).getD 94 []).getD 0 0 = 95 + 1 := rfl
theorem rg_94_1 {r : Nat} : ((RFu r).getD 94 []).getD 1 0 = 1 + 1 := rfl
theorem rg_94_2 {r : Nat} : ((RFu r).getD 94 []).getD 2 0 = 98 + 1 := rfl
theorem rg_95_0 {r : Nat} : ((RFu r).getD 95 []).getD 0 0 = 96 + 1 := rfl
theorem rg_95_1 {r : Nat} : ((RFu r).getD 95 []).getD 1 0 = 97 + 1 := rfl
theorem rg_99_0 {r : Nat} : ((RFu r).getD 99 []).getD 0 0 = 100 + 1 := rfl
theorem rg_99_1 {r : Nat} : ((RFu r).getD 99 []).getD 1 0 = 101 + 1 := rfl
theorem rg_99_2 {r : Nat} : ((RFu r).getD 99 []).getD 2 0 = 102 + 1 := rfl
theorem rg_99_3 {r : Nat} : ((RFu r).getD 99 []).getD 3 0 = 103 + 1 := rfl
theorem rg_99_5 {r : Nat} : ((RFu r).getD 99 []).getD 5 0 = 1 + 1 := rfl
theorem rg_108_1 {r : Nat} : ((RFu r).getD 108 []).getD 1 0 = 109 + 1 := rfl
theorem rg_108_3 {r : Nat} : ((RFu r).getD 108 []).getD 3 0 = 110 + 1 := rfl
theorem rg_108_4 {r : Nat} : ((RFu r).getD 108 []).getD 4 0 = 111 + 1 := rfl
theorem rg_108_5 {r : Nat} : ((RFu r).getD 108 []).getD 5 0 = 112 + 1 := rfl
theorem rg_108_6 {r : Nat} : ((RFu r).getD 108 []).getD 6 0 = 113 + 1 := rfl
theorem rg_108_7 {r : Nat} : ((RFu r).getD 108 []).getD 7 0 = 114 + 1 := rfl
theorem rg_108_8 {r : Nat} : ((RFu r).getD 108 []).getD 8 0 = 115 + 1 := rfl
theorem rg_108_9 {r : Nat} : ((RFu r).getD 108 []).getD 9 0 = 116 + 1 := rfl
theorem rg_108_10 {r : Nat} : ((RFu r).getD 108 []).getD 10 0 = 117 + 1 := rfl
theorem rg_108_11 {r : Nat} : ((RFu r).getD 108 []).getD 11 0 = 118 + 1 := rfl
theorem rg_108_12 {r : Nat} : ((RFu r).getD 108 []).getD 12 0 = 119 + 1 := rfl
theorem rg_108_13 {r : Nat} : ((RFu r).getD 108 []).getD 13 0 = 120 + 1 := rfl
theorem rg_108_14 {r : Nat} : ((RFu r).getD 108 []).getD 14 0 = 121 + 1 := rfl
theorem rg_108_16 {r : Nat} : ((RFu r).getD 108 []).getD 16 0 = 122 + 1 := rfl
theorem rg_108_18 {r : Nat} : ((RFu r).getD 108 []).getD 18 0 = 123 + 1 := rfl
theorem rg_108_26 {r : Nat} : ((RFu r).getD 108 []).getD 26 0 = 124 + 1 := rfl
theorem rg_108_27 {r : Nat} : ((RFu r).getD 108 []).getD 27 0 = 127 + 1 := rfl
theorem rg_108_30 {r : Nat} : ((RFu r).getD 108 []).getD 30 0 = 128 + 1 := rfl
theorem rg_108_31 {r : Nat} : ((RFu r).getD 108 []).getD 31 0 = 129 + 1 := rfl
theorem rg_108_34 {r : Nat} : ((RFu r).getD 108 []).getD 34 0 = 130 + 1 := rfl
theorem rg_108_35 {r : Nat} : ((RFu r).getD 108 []).getD 35 0 = 131 + 1 := rfl
theorem rg_108_36 {r : Nat} : ((RFu r).getD 108 []).getD 36 0 = 132 + 1 := rfl
theorem rg_108_38 {r : Nat} : ((RFu r).getD 108 []).getD 38 0 = 133 + 1 := rfl
theorem rg_108_39 {r : Nat} : ((RFu r).getD 108 []).getD 39 0 = 134 + 1 := rfl
theorem rg_108_40 {r : Nat} : ((RFu r).getD 108 []).getD 40 0 = 135 + 1 := rfl
theorem rg_108_41 {r : Nat} : ((RFu r).getD 108 []).getD 41 0 = 136 + 1 := rfl
theorem rg_108_42 {r : Nat} : ((RFu r).getD 108 []).getD 42 0 = 137 + 1 := rfl
theorem rg_108_43 {r : Nat} : ((RFu r).getD 108 []).getD 43 0 = 138 + 1 := rfl
theorem rg_108_44 {r : Nat} : ((RFu r).getD 108 []).getD 44 0 = 139 + 1 := rfl
theorem rg_108_46 {r : Nat} : ((RFu r).getD 108 []).getD 46 0 = 140 + 1 := rfl
theorem rg_108_48 {r : Nat} : ((RFu r).getD 108 []).getD 48 0 = 141 + 1 := rfl
theorem rg_108_49 {r : Nat} : ((RFu r).getD 108 []).getD 49 0 = 142 + 1 := rfl
theorem rg_108_50 {r : Nat} : ((RFu r).getD 108 []).getD 50 0 = 143 + 1 := rfl
theorem rg_read {r : Nat} : ((RFu r).getD 108 []).getD 21 0 = r := rfl
set_option maxRecDepth 100000 in
theorem rg_set {r v : Nat} : xrs (RFu r) 108 21 v = RFu v := rfl
theorem rg2_9 {r i : Nat} (h : i < 8) : ((RFu r).getD 9 []).getD i 0 = 10 + i + 1 := by
  match i, h with
  | 0, _ => rfl
  | 1, _ => rfl
  | 2, _ => rfl
  | 3, _ => rfl
  | 4, _ => rfl
  | 5, _ => rfl
  | 6, _ => rfl
  | 7, _ => rfl
  | q + 8, h => exact absurd h (by omega)
theorem ly2_9 {i : Nat} (h : i < 8) : LAY[10 + i]? = some (13, 24) := by
  match i, h with
  | 0, _ => rfl
  | 1, _ => rfl
  | 2, _ => rfl
  | 3, _ => rfl
  | 4, _ => rfl
  | 5, _ => rfl
  | 6, _ => rfl
  | 7, _ => rfl
  | q + 8, h => exact absurd h (by omega)
theorem rg2_30 {r i : Nat} (h : i < 8) : ((RFu r).getD 30 []).getD i 0 = 31 + i + 1 := by
  match i, h with
  | 0, _ => rfl
  | 1, _ => rfl
  | 2, _ => rfl
  | 3, _ => rfl
  | 4, _ => rfl
  | 5, _ => rfl
  | 6, _ => rfl
  | 7, _ => rfl
  | q + 8, h => exact absurd h (by omega)
theorem ly2_30 {i : Nat} (h : i < 8) : LAY[31 + i]? = some (13, 24) := by
  match i, h with
  | 0, _ => rfl
  | 1, _ => rfl
  | 2, _ => rfl
  | 3, _ => rfl
  | 4, _ => rfl
  | 5, _ => rfl
  | 6, _ => rfl
  | 7, _ => rfl
  | q + 8, h => exact absurd h (by omega)
theorem rg2_56 {r i : Nat} (h : i < 10) : ((RFu r).getD 56 []).getD i 0 = 57 + i + 1 := by
  match i, h with
  | 0, _ => rfl
  | 1, _ => rfl
  | 2, _ => rfl
  | 3, _ => rfl
  | 4, _ => rfl
  | 5, _ => rfl
  | 6, _ => rfl
  | 7, _ => rfl
  | 8, _ => rfl
  | 9, _ => rfl
  | q + 10, h => exact absurd h (by omega)
theorem ly2_56 {i : Nat} (h : i < 10) : LAY[57 + i]? = some (13, 121) := by
  match i, h with
  | 0, _ => rfl
  | 1, _ => rfl
  | 2, _ => rfl
  | 3, _ => rfl
  | 4, _ => rfl
  | 5, _ => rfl
  | 6, _ => rfl
  | 7, _ => rfl
  | 8, _ => rfl
  | 9, _ => rfl
  | q + 10, h => exact absurd h (by omega)
theorem rg2_67 {r i : Nat} (h : i < 2) : ((RFu r).getD 67 []).getD i 0 = 68 + i + 1 := by
  match i, h with
  | 0, _ => rfl
  | 1, _ => rfl
  | q + 2, h => exact absurd h (by omega)
theorem ly2_67 {i : Nat} (h : i < 2) : LAY[68 + i]? = some (13, 121) := by
  match i, h with
  | 0, _ => rfl
  | 1, _ => rfl
  | q + 2, h => exact absurd h (by omega)
theorem rg2_70 {r i : Nat} (h : i < 2) : ((RFu r).getD 70 []).getD i 0 = 71 + i + 1 := by
  match i, h with
  | 0, _ => rfl
  | 1, _ => rfl
  | q + 2, h => exact absurd h (by omega)
theorem ly2_70 {i : Nat} (h : i < 2) : LAY[71 + i]? = some (13, 8) := by
  match i, h with
  | 0, _ => rfl
  | 1, _ => rfl
  | q + 2, h => exact absurd h (by omega)
theorem rg2_73 {r i : Nat} (h : i < 2) : ((RFu r).getD 73 []).getD i 0 = 74 + i + 1 := by
  match i, h with
  | 0, _ => rfl
  | 1, _ => rfl
  | q + 2, h => exact absurd h (by omega)
theorem ly2_73 {i : Nat} (h : i < 2) : LAY[74 + i]? = some (13, 4) := by
  match i, h with
  | 0, _ => rfl
  | 1, _ => rfl
  | q + 2, h => exact absurd h (by omega)
theorem rg2_84 {r i : Nat} (h : i < 6) : ((RFu r).getD 84 []).getD i 0 = 85 + i + 1 := by
  match i, h with
  | 0, _ => rfl
  | 1, _ => rfl
  | 2, _ => rfl
  | 3, _ => rfl
  | 4, _ => rfl
  | 5, _ => rfl
  | q + 6, h => exact absurd h (by omega)
theorem ly2_84 {i : Nat} (h : i < 6) : LAY[85 + i]? = some (13, 121) := by
  match i, h with
  | 0, _ => rfl
  | 1, _ => rfl
  | 2, _ => rfl
  | 3, _ => rfl
  | 4, _ => rfl
  | 5, _ => rfl
  | q + 6, h => exact absurd h (by omega)
theorem rg2_124 {r i : Nat} (h : i < 2) : ((RFu r).getD 124 []).getD i 0 = 125 + i + 1 := by
  match i, h with
  | 0, _ => rfl
  | 1, _ => rfl
  | q + 2, h => exact absurd h (by omega)
theorem ly2_124 {i : Nat} (h : i < 2) : LAY[125 + i]? = some (14, 40) := by
  match i, h with
  | 0, _ => rfl
  | 1, _ => rfl
  | q + 2, h => exact absurd h (by omega)
theorem lt_5 {b : Nat} (h : isRule b) : LAY[b]? = some (5, 3) := by rcases h with rfl | rfl | rfl | rfl | rfl <;> rfl
theorem lt_5_0 {b : Nat} (h : isRule b) : LAY[b + 1]? = some (13, 40) := by rcases h with rfl | rfl | rfl | rfl | rfl <;> rfl
theorem rt_5_0 {b r : Nat} (h : isRule b) : ((RFu r).getD b []).getD 0 0 = b + 1 + 1 := by rcases h with rfl | rfl | rfl | rfl | rfl <;> rfl
theorem lt_5_1 {b : Nat} (h : isRule b) : LAY[b + 2]? = some (13, 40) := by rcases h with rfl | rfl | rfl | rfl | rfl <;> rfl
theorem rt_5_1 {b r : Nat} (h : isRule b) : ((RFu r).getD b []).getD 1 0 = b + 2 + 1 := by rcases h with rfl | rfl | rfl | rfl | rfl <;> rfl
theorem lt_8 {b : Nat} (h : isState b) : LAY[b]? = some (8, 1) := by rcases h with rfl | rfl | rfl <;> rfl
theorem lt_8_0 {b : Nat} (h : isState b) : LAY[b + 1]? = some (13, 121) := by rcases h with rfl | rfl | rfl <;> rfl
theorem rt_8_0 {b r : Nat} (h : isState b) : ((RFu r).getD b []).getD 0 0 = b + 1 + 1 := by rcases h with rfl | rfl | rfl <;> rfl
theorem lt_10 {b : Nat} (h : isTown b) : LAY[b]? = some (10, 12) := by rcases h with rfl | rfl <;> rfl
theorem lt_10_2 {b : Nat} (h : isTown b) : LAY[b + 1]? = some (13, 4) := by rcases h with rfl | rfl <;> rfl
theorem rt_10_2 {b r : Nat} (h : isTown b) : ((RFu r).getD b []).getD 2 0 = b + 1 + 1 := by rcases h with rfl | rfl <;> rfl
theorem lt_10_3 {b : Nat} (h : isTown b) : LAY[b + 2]? = some (13, 8) := by rcases h with rfl | rfl <;> rfl
theorem rt_10_3 {b r : Nat} (h : isTown b) : ((RFu r).getD b []).getD 3 0 = b + 2 + 1 := by rcases h with rfl | rfl <;> rfl
theorem lt_10_4 {b : Nat} (h : isTown b) : LAY[b + 3]? = some (13, 8) := by rcases h with rfl | rfl <;> rfl
theorem rt_10_4 {b r : Nat} (h : isTown b) : ((RFu r).getD b []).getD 4 0 = b + 3 + 1 := by rcases h with rfl | rfl <;> rfl
theorem lt_10_5 {b : Nat} (h : isTown b) : LAY[b + 4]? = some (17, 8) := by rcases h with rfl | rfl <;> rfl
theorem rt_10_5 {b r : Nat} (h : isTown b) : ((RFu r).getD b []).getD 5 0 = b + 4 + 1 := by rcases h with rfl | rfl <;> rfl
theorem rt2_10_5 {b r i : Nat} (h : isTown b) (hi : i < 8) : ((RFu r).getD (b + 4) []).getD i 0 = b + 5 + i + 1 := by
  rcases h with rfl | rfl
  · exact (rg2_9 hi).trans (by omega)
  · exact (rg2_30 hi).trans (by omega)
theorem lt2_10_5 {b i : Nat} (h : isTown b) (hi : i < 8) : LAY[b + 5 + i]? = some (13, 24) := by
  rcases h with rfl | rfl
  · exact ly2_9 hi
  · exact ly2_30 hi
theorem lt_10_6 {b : Nat} (h : isTown b) : LAY[b + 13]? = some (13, 8) := by rcases h with rfl | rfl <;> rfl
theorem rt_10_6 {b r : Nat} (h : isTown b) : ((RFu r).getD b []).getD 6 0 = b + 13 + 1 := by rcases h with rfl | rfl <;> rfl
theorem lt_10_7 {b : Nat} (h : isTown b) : LAY[b + 14]? = some (13, 8) := by rcases h with rfl | rfl <;> rfl
theorem rt_10_7 {b r : Nat} (h : isTown b) : ((RFu r).getD b []).getD 7 0 = b + 14 + 1 := by rcases h with rfl | rfl <;> rfl
theorem lt_10_8 {b : Nat} (h : isTown b) : LAY[b + 15]? = some (5, 3) := by rcases h with rfl | rfl <;> rfl
theorem rt_10_8 {b r : Nat} (h : isTown b) : ((RFu r).getD b []).getD 8 0 = b + 15 + 1 := by rcases h with rfl | rfl <;> rfl
theorem it_10_8 {b : Nat} (h : isTown b) : isRule (b + 15) := by rcases h with rfl | rfl <;> simp [isRule]
theorem lt_10_9 {b : Nat} (h : isTown b) : LAY[b + 18]? = some (5, 3) := by rcases h with rfl | rfl <;> rfl
theorem rt_10_9 {b r : Nat} (h : isTown b) : ((RFu r).getD b []).getD 9 0 = b + 18 + 1 := by rcases h with rfl | rfl <;> rfl
theorem it_10_9 {b : Nat} (h : isTown b) : isRule (b + 18) := by rcases h with rfl | rfl <;> simp [isRule]
