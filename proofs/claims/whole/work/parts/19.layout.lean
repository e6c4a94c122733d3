/-! the cells once all is made: what each is, and what each reference stands for (r: the reference's field 'read') -/
def LAY : List (Nat × Nat) := [(11, 17), (9, 4), (13, 80), (4, 2), (13, 8), (10, 12), (13, 4), (13, 8), (13, 8), (17, 8), (13, 24), (13, 24), (13, 24), (13, 24), (13, 24), (13, 24), (13, 24), (13, 24), (13, 8), (13, 8), (5, 3), (13, 40), (13, 40), (5, 3), (13, 40), (13, 40), (10, 12), (13, 4), (13, 8), (13, 8), (17, 8), (13, 24), (13, 24), (13, 24), (13, 24), (13, 24), (13, 24), (13, 24), (13, 24), (13, 8), (13, 8), (5, 3), (13, 40), (13, 40), (5, 3), (13, 40), (13, 40), (8, 1), (13, 121), (8, 1), (13, 121), (1, 3), (13, 4), (13, 4), (13, 8), (3, 8), (17, 10), (13, 121), (13, 121), (13, 121), (13, 121), (13, 121), (13, 121), (13, 121), (13, 121), (13, 121), (13, 121), (17, 2), (13, 121), (13, 121), (17, 2), (13, 8), (13, 8), (17, 2), (13, 4), (13, 4), (13, 2), (13, 2), (0, 2), (13, 256), (13, 256), (7, 11), (8, 1), (13, 121), (17, 6), (13, 121), (13, 121), (13, 121), (13, 121), (13, 121), (13, 121), (13, 6), (13, 6), (13, 6), (6, 6), (5, 3), (13, 40), (13, 40), (13, 40), (2, 6), (13, 60), (13, 60), (13, 60), (13, 60), (13, 8), (13, 8), (13, 8), (13, 4008), (12, 51), (13, 4), (13, 8), (15, 8), (13, 192), (13, 8), (13, 8), (13, 8), (13, 8), (13, 8), (13, 8), (13, 8), (13, 8), (13, 64), (14, 80), (13, 16), (18, 2), (14, 40), (14, 40), (13, 2), (13, 8), (13, 8), (13, 4), (13, 4), (13, 1210), (13, 121), (13, 320), (13, 256), (13, 8), (13, 8), (13, 8), (13, 8), (13, 60621), (13, 266), (15, 2), (13, 2), (16, 1)]
def RFu (r : Nat) : List (List Nat) := [[2, 4, 6, 27, 48, 50, 52, 56, 79, 82, 95, 100, 105, 106, 0, 107, 108], [3, 0, 0, 0], [], [5, 0], [], [0, 0, 7, 8, 9, 10, 19, 20, 21, 24, 0, 0], [], [], [], [11, 12, 13, 14, 15, 16, 17, 18], [], [], [], [], [], [], [], [], [], [], [22, 23, 0], [], [], [25, 26, 0], [], [], [0, 0, 28, 29, 30, 31, 40, 41, 42, 45, 0, 0], [], [], [], [32, 33, 34, 35, 36, 37, 38, 39], [], [], [], [], [], [], [], [], [], [], [43, 44, 0], [], [], [46, 47, 0], [], [], [49], [], [51], [], [53, 54, 55], [], [], [], [0, 57, 0, 68, 71, 74, 77, 78], [58, 59, 60, 61, 62, 63, 64, 65, 66, 67], [], [], [], [], [], [], [], [], [], [], [69, 70], [], [], [72, 73], [], [], [75, 76], [], [], [], [], [80, 81], [], [], [0, 27, 52, 83, 85, 92, 93, 94, 0, 0, 0], [84], [], [86, 87, 88, 89, 90, 91], [], [], [], [], [], [], [], [], [], [96, 2, 99, 0, 0, 0], [97, 98, 0], [], [], [], [101, 102, 103, 104, 0, 2], [], [], [], [], [], [], [], [], [0, 110, 0, 111, 112, 113, 114, 115, 116, 117, 118, 119, 120, 121, 122, 0, 123, 0, 124, 0, 0, r, 0, 0, 0, 0, 125, 128, 0, 0, 129, 130, 0, 0, 131, 132, 133, 0, 134, 135, 136, 137, 138, 139, 140, 0, 141, 0, 142, 143, 144], [], [], [], [], [], [], [], [], [], [], [], [], [], [], [], [126, 127], [], [], [], [], [], [], [], [], [], [], [], [], [], [], [], [], [], [], [], []]
theorem LAY_len : LAY.length = 145 := by decide +kernel
def isRule (b : Nat) : Prop := b = 20 ∨ b = 23 ∨ b = 41 ∨ b = 44 ∨ b = 95
def isState (b : Nat) : Prop := b = 47 ∨ b = 49 ∨ b = 82
def isTown (b : Nat) : Prop := b = 5 ∨ b = 26
theorem ly_0 : LAY[0]? = some (11, 17) := rfl
theorem ly_1 : LAY[1]? = some (9, 4) := rfl
theorem ly_2 : LAY[2]? = some (13, 80) := rfl
theorem ly_3 : LAY[3]? = some (4, 2) := rfl
theorem ly_4 : LAY[4]? = some (13, 8) := rfl
theorem ly_5 : LAY[5]? = some (10, 12) := rfl
theorem ly_6 : LAY[6]? = some (13, 4) := rfl
theorem ly_7 : LAY[7]? = some (13, 8) := rfl
theorem ly_8 : LAY[8]? = some (13, 8) := rfl
theorem ly_9 : LAY[9]? = some (17, 8) := rfl
theorem ly_10 : LAY[10]? = some (13, 24) := rfl
theorem ly_11 : LAY[11]? = some (13, 24) := rfl
theorem ly_12 : LAY[12]? = some (13, 24) := rfl
theorem ly_13 : LAY[13]? = some (13, 24) := rfl
theorem ly_14 : LAY[14]? = some (13, 24) := rfl
theorem ly_15 : LAY[15]? = some (13, 24) := rfl
theorem ly_16 : LAY[16]? = some (13, 24) := rfl
theorem ly_17 : LAY[17]? = some (13, 24) := rfl
theorem ly_18 : LAY[18]? = some (13, 8) := rfl
theorem ly_19 : LAY[19]? = some (13, 8) := rfl
theorem ly_20 : LAY[20]? = some (5, 3) := rfl
theorem ly_21 : LAY[21]? = some (13, 40) := rfl
theorem ly_22 : LAY[22]? = some (13, 40) := rfl
theorem ly_23 : LAY[23]? = some (5, 3) := rfl
theorem ly_24 : LAY[24]? = some (13, 40) := rfl
theorem ly_25 : LAY[25]? = some (13, 40) := rfl
theorem ly_26 : LAY[26]? = some (10, 12) := rfl
theorem ly_27 : LAY[27]? = some (13, 4) := rfl
theorem ly_28 : LAY[28]? = some (13, 8) := rfl
theorem ly_29 : LAY[29]? = some (13, 8) := rfl
theorem ly_30 : LAY[30]? = some (17, 8) := rfl
theorem ly_31 : LAY[31]? = some (13, 24) := rfl
theorem ly_32 : LAY[32]? = some (13, 24) := rfl
theorem ly_33 : LAY[33]? = some (13, 24) := rfl
theorem ly_34 : LAY[34]? = some (13, 24) := rfl
theorem ly_35 : LAY[35]? = some (13, 24) := rfl
theorem ly_36 : LAY[36]? = some (13, 24) := rfl
theorem ly_37 : LAY[37]? = some (13, 24) := rfl
theorem ly_38 : LAY[38]? = some (13, 24) := rfl
theorem ly_39 : LAY[39]? = some (13, 8) := rfl
theorem ly_40 : LAY[40]? = some (13, 8) := rfl
theorem ly_41 : LAY[41]? = some (5, 3) := rfl
theorem ly_42 : LAY[42]? = some (13, 40) := rfl
theorem ly_43 : LAY[43]? = some (13, 40) := rfl
theorem ly_44 : LAY[44]? = some (5, 3) := rfl
theorem ly_45 : LAY[45]? = some (13, 40) := rfl
theorem ly_46 : LAY[46]? = some (13, 40) := rfl
theorem ly_47 : LAY[47]? = some (8, 1) := rfl
theorem ly_48 : LAY[48]? = some (13, 121) := rfl
theorem ly_49 : LAY[49]? = some (8, 1) := rfl
theorem ly_50 : LAY[50]? = some (13, 121) := rfl
theorem ly_51 : LAY[51]? = some (1, 3) := rfl
theorem ly_52 : LAY[52]? = some (13, 4) := rfl
theorem ly_53 : LAY[53]? = some (13, 4) := rfl
theorem ly_54 : LAY[54]? = some (13, 8) := rfl
theorem ly_55 : LAY[55]? = some (3, 8) := rfl
theorem ly_56 : LAY[56]? = some (17, 10) := rfl
theorem ly_57 : LAY[57]? = some (13, 121) := rfl
theorem ly_58 : LAY[58]? = some (13, 121) := rfl
theorem ly_59 : LAY[59]? = some (13, 121) := rfl
theorem ly_60 : LAY[60]? = some (13, 121) := rfl
theorem ly_61 : LAY[61]? = some (13, 121) := rfl
theorem ly_62 : LAY[62]? = some (13, 121) := rfl
theorem ly_63 : LAY[63]? = some (13, 121) := rfl
theorem ly_64 : LAY[64]? = some (13, 121) := rfl
theorem ly_65 : LAY[65]? = some (13, 121) := rfl
theorem ly_66 : LAY[66]? = some (13, 121) := rfl
theorem ly_67 : LAY[67]? = some (17, 2) := rfl
theorem ly_68 : LAY[68]? = some (13, 121) := rfl
theorem ly_69 : LAY[69]? = some (13, 121) := rfl
theorem ly_70 : LAY[70]? = some (17, 2) := rfl
theorem ly_71 : LAY[71]? = some (13, 8) := rfl
theorem ly_72 : LAY[72]? = some (13, 8) := rfl
theorem ly_73 : LAY[73]? = some (17, 2) := rfl
theorem ly_74 : LAY[74]? = some (13, 4) := rfl
theorem ly_75 : LAY[75]? = some (13, 4) := rfl
theorem ly_76 : LAY[76]? = some (13, 2) := rfl
theorem ly_77 : LAY[77]? = some (13, 2) := rfl
theorem ly_78 : LAY[78]? = some (0, 2) := rfl
theorem ly_79 : LAY[79]? = some (13, 256) := rfl
theorem ly_80 : LAY[80]? = some (13, 256) := rfl
theorem ly_81 : LAY[81]? = some (7, 11) := rfl
theorem ly_82 : LAY[82]? = some (8, 1) := rfl
theorem ly_83 : LAY[83]? = some (13, 121) := rfl
theorem ly_84 : LAY[84]? = some (17, 6) := rfl
theorem ly_85 : LAY[85]? = some (13, 121) := rfl
theorem ly_86 : LAY[86]? = some (13, 121) := rfl
theorem ly_87 : LAY[87]? = some (13, 121) := rfl
theorem ly_88 : LAY[88]? = some (13, 121) := rfl
theorem ly_89 : LAY[89]? = some (13, 121) := rfl
theorem ly_90 : LAY[90]? = some (13, 121) := rfl
theorem ly_91 : LAY[91]? = some (13, 6) := rfl
theorem ly_92 : LAY[92]? = some (13, 6) := rfl
theorem ly_93 : LAY[93]? = some (13, 6) := rfl
theorem ly_94 : LAY[94]? = some (6, 6) := rfl
theorem ly_95 : LAY[95]? = some (5, 3) := rfl
theorem ly_96 : LAY[96]? = some (13, 40) := rfl
theorem ly_97 : LAY[97]? = some (13, 40) := rfl
theorem ly_98 : LAY[98]? = some (13, 40) := rfl
theorem ly_99 : LAY[99]? = some (2, 6) := rfl
theorem ly_100 : LAY[100]? = some (13, 60) := rfl
theorem ly_101 : LAY[101]? = some (13, 60) := rfl
theorem ly_102 : LAY[102]? = some (13, 60) := rfl
theorem ly_103 : LAY[103]? = some (13, 60) := rfl
theorem ly_104 : LAY[104]? = some (13, 8) := rfl
theorem ly_105 : LAY[105]? = some (13, 8) := rfl
theorem ly_106 : LAY[106]? = some (13, 8) := rfl
theorem ly_107 : LAY[107]? = some (13, 4008) := rfl
theorem ly_108 : LAY[108]? = some (12, 51) := rfl
theorem ly_109 : LAY[109]? = some (13, 4) := rfl
theorem ly_110 : LAY[110]? = some (13, 8) := rfl
theorem ly_111 : LAY[111]? = some (15, 8) := rfl
theorem ly_112 : LAY[112]? = some (13, 192) := rfl
theorem ly_113 : LAY[113]? = some (13, 8) := rfl
theorem ly_114 : LAY[114]? = some (13, 8) := rfl
theorem ly_115 : LAY[115]? = some (13, 8) := rfl
theorem ly_116 : LAY[116]? = some (13, 8) := rfl
theorem ly_117 : LAY[117]? = some (13, 8) := rfl
theorem ly_118 : LAY[118]? = some (13, 8) := rfl
theorem ly_119 : LAY[119]? = some (13, 8) := rfl
theorem ly_120 : LAY[120]? = some (13, 8) := rfl
theorem ly_121 : LAY[121]? = some (13, 64) := rfl
theorem ly_122 : LAY[122]? = some (14, 80) := rfl
theorem ly_123 : LAY[123]? = some (13, 16) := rfl
theorem ly_124 : LAY[124]? = some (18, 2) := rfl
theorem ly_125 : LAY[125]? = some (14, 40) := rfl
theorem ly_126 : LAY[126]? = some (14, 40) := rfl
theorem ly_127 : LAY[127]? = some (13, 2) := rfl
theorem ly_128 : LAY[128]? = some (13, 8) := rfl
theorem ly_129 : LAY[129]? = some (13, 8) := rfl
theorem ly_130 : LAY[130]? = some (13, 4) := rfl
theorem ly_131 : LAY[131]? = some (13, 4) := rfl
theorem ly_132 : LAY[132]? = some (13, 1210) := rfl
theorem ly_133 : LAY[133]? = some (13, 121) := rfl
theorem ly_134 : LAY[134]? = some (13, 320) := rfl
theorem ly_135 : LAY[135]? = some (13, 256) := rfl
theorem ly_136 : LAY[136]? = some (13, 8) := rfl
theorem ly_137 : LAY[137]? = some (13, 8) := rfl
theorem ly_138 : LAY[138]? = some (13, 8) := rfl
theorem ly_139 : LAY[139]? = some (13, 8) := rfl
theorem ly_140 : LAY[140]? = some (13, 60621) := rfl
theorem ly_141 : LAY[141]? = some (13, 266) := rfl
theorem ly_142 : LAY[142]? = some (15, 2) := rfl
theorem ly_143 : LAY[143]? = some (13, 2) := rfl
theorem ly_144 : LAY[144]? = some (16, 1) := rfl
theorem rg_0_0 {r : Nat} : ((RFu r).getD 0 []).getD 0 0 = 1 + 1 := rfl
theorem rg_0_1 {r : Nat} : ((RFu r).getD 0 []).getD 1 0 = 3 + 1 := rfl
theorem rg_0_2 {r : Nat} : ((RFu r).getD 0 []).getD 2 0 = 5 + 1 := rfl
theorem rg_0_3 {r : Nat} : ((RFu r).getD 0 []).getD 3 0 = 26 + 1 := rfl
theorem rg_0_4 {r : Nat} : ((RFu r).getD 0 []).getD 4 0 = 47 + 1 := rfl
theorem rg_0_5 {r : Nat} : ((RFu r).getD 0 []).getD 5 0 = 49 + 1 := rfl
theorem rg_0_6 {r : Nat} : ((RFu r).getD 0 []).getD 6 0 = 51 + 1 := rfl
theorem rg_0_7 {r : Nat} : ((RFu r).getD 0 []).getD 7 0 = 55 + 1 := rfl
theorem rg_0_8 {r : Nat} : ((RFu r).getD 0 []).getD 8 0 = 78 + 1 := rfl
theorem rg_0_9 {r : Nat} : ((RFu r).getD 0 []).getD 9 0 = 81 + 1 := rfl
theorem rg_0_10 {r : Nat} : ((RFu r).getD 0 []).getD 10 0 = 94 + 1 := rfl
theorem rg_0_11 {r : Nat} : ((RFu r).getD 0 []).getD 11 0 = 99 + 1 := rfl
theorem rg_0_12 {r : Nat} : ((RFu r).getD 0 []).getD 12 0 = 104 + 1 := rfl
theorem rg_0_13 {r : Nat} : ((RFu r).getD 0 []).getD 13 0 = 105 + 1 := rfl
theorem rg_0_15 {r : Nat} : ((RFu r).getD 0 []).getD 15 0 = 106 + 1 := rfl
theorem rg_0_16 {r : Nat} : ((RFu r).getD 0 []).getD 16 0 = 107 + 1 := rfl
theorem rg_1_0 {r : Nat} : ((RFu r).getD 1 []).getD 0 0 = 2 + 1 := rfl
theorem rg_3_0 {r : Nat} : ((RFu r).getD 3 []).getD 0 0 = 4 + 1 := rfl
theorem rg_5_2 {r : Nat} : ((RFu r).getD 5 []).getD 2 0 = 6 + 1 := rfl
theorem rg_5_3 {r : Nat} : ((RFu r).getD 5 []).getD 3 0 = 7 + 1 := rfl
theorem rg_5_4 {r : Nat} : ((RFu r).getD 5 []).getD 4 0 = 8 + 1 := rfl
theorem rg_5_5 {r : Nat} : ((RFu r).getD 5 []).getD 5 0 = 9 + 1 := rfl
theorem rg_5_6 {r : Nat} : ((RFu r).getD 5 []).getD 6 0 = 18 + 1 := rfl
theorem rg_5_7 {r : Nat} : ((RFu r).getD 5 []).getD 7 0 = 19 + 1 := rfl
theorem rg_5_8 {r : Nat} : ((RFu r).getD 5 []).getD 8 0 = 20 + 1 := rfl
theorem rg_5_9 {r : Nat} : ((RFu r).getD 5 []).getD 9 0 = 23 + 1 := rfl
theorem rg_20_0 {r : Nat} : ((RFu r).getD 20 []).getD 0 0 = 21 + 1 := rfl
theorem rg_20_1 {r : Nat} : ((RFu r).getD 20 []).getD 1 0 = 22 + 1 := rfl
theorem rg_23_0 {r : Nat} : ((RFu r).getD 23 []).getD 0 0 = 24 + 1 := rfl
theorem rg_23_1 {r : Nat} : ((RFu r).getD 23 []).getD 1 0 = 25 + 1 := rfl
theorem rg_26_2 {r : Nat} : ((RFu r).getD 26 []).getD 2 0 = 27 + 1 := rfl
theorem rg_26_3 {r : Nat} : ((RFu r).getD 26 []).getD 3 0 = 28 + 1 := rfl
theorem rg_26_4 {r : Nat} : ((RFu r).getD 26 []).getD 4 0 = 29 + 1 := rfl
theorem rg_26_5 {r : Nat} : ((RFu r).getD 26 []).getD 5 0 = 30 + 1 := rfl
theorem rg_26_6 {r : Nat} : ((RFu r).getD 26 []).getD 6 0 = 39 + 1 := rfl
theorem rg_26_7 {r : Nat} : ((RFu r).getD 26 []).getD 7 0 = 40 + 1 := rfl
theorem rg_26_8 {r : Nat} : ((RFu r).getD 26 []).getD 8 0 = 41 + 1 := rfl
theorem rg_26_9 {r : Nat} : ((RFu r).getD 26 []).getD 9 0 = 44 + 1 := rfl
theorem rg_41_0 {r : Nat} : ((RFu r).getD 41 []).getD 0 0 = 42 + 1 := rfl
theorem rg_41_1 {r : Nat} : ((RFu r).getD 41 []).getD 1 0 = 43 + 1 := rfl
theorem rg_44_0 {r : Nat} : ((RFu r).getD 44 []).getD 0 0 = 45 + 1 := rfl
theorem rg_44_1 {r : Nat} : ((RFu r).getD 44 []).getD 1 0 = 46 + 1 := rfl
theorem rg_47_0 {r : Nat} : ((RFu r).getD 47 []).getD 0 0 = 48 + 1 := rfl
theorem rg_49_0 {r : Nat} : ((RFu r).getD 49 []).getD 0 0 = 50 + 1 := rfl
theorem rg_51_0 {r : Nat} : ((RFu r).getD 51 []).getD 0 0 = 52 + 1 := rfl
theorem rg_51_1 {r : Nat} : ((RFu r).getD 51 []).getD 1 0 = 53 + 1 := rfl
theorem rg_51_2 {r : Nat} : ((RFu r).getD 51 []).getD 2 0 = 54 + 1 := rfl
theorem rg_55_1 {r : Nat} : ((RFu r).getD 55 []).getD 1 0 = 56 + 1 := rfl
theorem rg_55_3 {r : Nat} : ((RFu r).getD 55 []).getD 3 0 = 67 + 1 := rfl
theorem rg_55_4 {r : Nat} : ((RFu r).getD 55 []).getD 4 0 = 70 + 1 := rfl
theorem rg_55_5 {r : Nat} : ((RFu r).getD 55 []).getD 5 0 = 73 + 1 := rfl
theorem rg_55_6 {r : Nat} : ((RFu r).getD 55 []).getD 6 0 = 76 + 1 := rfl
theorem rg_55_7 {r : Nat} : ((RFu r).getD 55 []).getD 7 0 = 77 + 1 := rfl
theorem rg_78_0 {r : Nat} : ((RFu r).getD 78 []).getD 0 0 = 79 + 1 := rfl
theorem rg_78_1 {r : Nat} : ((RFu r).getD 78 []).getD 1 0 = 80 + 1 := rfl
theorem rg_81_1 {r : Nat} : ((RFu r).getD 81 []).getD 1 0 = 26 + 1 := rfl
theorem rg_81_2 {r : Nat} : ((RFu r).getD 81 []).getD 2 0 = 51 + 1 := rfl
theorem rg_81_3 {r : Nat} : ((RFu r).getD 81 []).getD 3 0 = 82 + 1 := rfl
theorem rg_81_4 {r : Nat} : ((RFu r).getD 81 []).getD 4 0 = 84 + 1 := rfl
theorem rg_81_5 {r : Nat} : ((RFu r).getD 81 []).getD 5 0 = 91 + 1 := rfl
theorem rg_81_6 {r : Nat} : ((RFu r).getD 81 []).getD 6 0 = 92 + 1 := rfl
theorem rg_81_7 {r : Nat} : ((RFu r).getD 81 []).getD 7 0 = 93 + 1 := rfl
theorem rg_82_0 {r : Nat} : ((RFu r).getD 82 []).getD 0 0 = 83 + 1 := rfl
theorem rg_94_0 {r : Nat} : ((RFu r).getD 94 []).getD 0 0 = 95 + 1 := rfl
theorem rg_94_1 {r : Nat} : ((RFu r).getD 94 []).getD 1 0 = 1 + 1 := rfl
theorem rg_94_2 {r : Nat} : ((RFu r).getD 94 []).getD 2 0 = 98 + 1 := rfl
theorem rg_95_0 {r : Nat} : ((RFu r).getD 95 []).getD 0 0 = 96 + 1 := rfl
theorem rg_95_1 {r : Nat} : ((RFu r).getD 95 []).getD 1 0 = 97 + 1 := rfl
theorem rg_99_0 {r : Nat} : ((RFu r).getD 99 []).getD 0 0 = 100 + 1 := rfl
theorem rg_99_1 {r : Nat} : ((RFu r).getD 99 []).getD 1 0 = 101 + 1 := rfl
theorem rg_99_2 {r : Nat} : ((RFu r).getD 99 []).getD 2 0 = 102 + 1 := rfl
theorem rg_99_3 {r : Nat} : ((RFu r).getD 99 []).getD 3 0 = 103 + 1 := rfl
theorem rg_99_5 {r : Nat} : ((RFu r).getD 99 []).getD 5 0 = 1 + 1 := rfl
theorem rg_108_1 {r : Nat} : ((RFu r).getD 108 []).getD 1 0 = 109 + 1 := rfl
theorem rg_108_3 {r : Nat} : ((RFu r).getD 108 []).getD 3 0 = 110 + 1 := rfl
theorem rg_108_4 {r : Nat} : ((RFu r).getD 108 []).getD 4 0 = 111 + 1 := rfl
theorem rg_108_5 {r : Nat} : ((RFu r).getD 108 []).getD 5 0 = 112 + 1 := rfl
theorem rg_108_6 {r : Nat} : ((RFu r).getD 108 []).getD 6 0 = 113 + 1 := rfl
theorem rg_108_7 {r : Nat} : ((RFu r).getD 108 []).getD 7 0 = 114 + 1 := rfl
theorem rg_108_8 {r : Nat} : ((RFu r).getD 108 []).getD 8 0 = 115 + 1 := rfl
theorem rg_108_9 {r : Nat} : ((RFu r).getD 108 []).getD 9 0 = 116 + 1 := rfl
theorem rg_108_10 {r : Nat} : ((RFu r).getD 108 []).getD 10 0 = 117 + 1 := rfl
theorem rg_108_11 {r : Nat} : ((RFu r).getD 108 []).getD 11 0 = 118 + 1 := rfl
theorem rg_108_12 {r : Nat} : ((RFu r).getD 108 []).getD 12 0 = 119 + 1 := rfl
theorem rg_108_13 {r : Nat} : ((RFu r).getD 108 []).getD 13 0 = 120 + 1 := rfl
theorem rg_108_14 {r : Nat} : ((RFu r).getD 108 []).getD 14 0 = 121 + 1 := rfl
theorem rg_108_16 {r : Nat} : ((RFu r).getD 108 []).getD 16 0 = 122 + 1 := rfl
theorem rg_108_18 {r : Nat} : ((RFu r).getD 108 []).getD 18 0 = 123 + 1 := rfl
theorem rg_108_26 {r : Nat} : ((RFu r).getD 108 []).getD 26 0 = 124 + 1 := rfl
theorem rg_108_27 {r : Nat} : ((RFu r).getD 108 []).getD 27 0 = 127 + 1 := rfl
theorem rg_108_30 {r : Nat} : ((RFu r).getD 108 []).getD 30 0 = 128 + 1 := rfl
theorem rg_108_31 {r : Nat} : ((RFu r).getD 108 []).getD 31 0 = 129 + 1 := rfl
theorem rg_108_34 {r : Nat} : ((RFu r).getD 108 []).getD 34 0 = 130 + 1 := rfl
theorem rg_108_35 {r : Nat} : ((RFu r).getD 108 []).getD 35 0 = 131 + 1 := rfl
theorem rg_108_36 {r : Nat} : ((RFu r).getD 108 []).getD 36 0 = 132 + 1 := rfl
theorem rg_108_38 {r : Nat} : ((RFu r).getD 108 []).getD 38 0 = 133 + 1 := rfl
theorem rg_108_39 {r : Nat} : ((RFu r).getD 108 []).getD 39 0 = 134 + 1 := rfl
theorem rg_108_40 {r : Nat} : ((RFu r).getD 108 []).getD 40 0 = 135 + 1 := rfl
theorem rg_108_41 {r : Nat} : ((RFu r).getD 108 []).getD 41 0 = 136 + 1 := rfl
theorem rg_108_42 {r : Nat} : ((RFu r).getD 108 []).getD 42 0 = 137 + 1 := rfl
theorem rg_108_43 {r : Nat} : ((RFu r).getD 108 []).getD 43 0 = 138 + 1 := rfl
theorem rg_108_44 {r : Nat} : ((RFu r).getD 108 []).getD 44 0 = 139 + 1 := rfl
theorem rg_108_46 {r : Nat} : ((RFu r).getD 108 []).getD 46 0 = 140 + 1 := rfl
theorem rg_108_48 {r : Nat} : ((RFu r).getD 108 []).getD 48 0 = 141 + 1 := rfl
theorem rg_108_49 {r : Nat} : ((RFu r).getD 108 []).getD 49 0 = 142 + 1 := rfl
theorem rg_108_50 {r : Nat} : ((RFu r).getD 108 []).getD 50 0 = 143 + 1 := rfl
theorem rg_read {r : Nat} : ((RFu r).getD 108 []).getD 21 0 = r := rfl
set_option maxRecDepth 100000 in
theorem rg_set {r v : Nat} : xrs (RFu r) 108 21 v = RFu v := rfl
theorem rg2_9 {r i : Nat} (h : i < 8) : ((RFu r).getD 9 []).getD i 0 = 10 + i + 1 := by
  match i, h with
  | 0, _ => rfl
  | 1, _ => rfl
  | 2, _ => rfl
  | 3, _ => rfl
  | 4, _ => rfl
  | 5, _ => rfl
  | 6, _ => rfl
  | 7, _ => rfl
  | q + 8, h => exact absurd h (by omega)
theorem ly2_9 {i : Nat} (h : i < 8) : LAY[10 + i]? = some (13, 24) := by
  match i, h with
  | 0, _ => rfl
  | 1, _ => rfl
  | 2, _ => rfl
  | 3, _ => rfl
  | 4, _ => rfl
  | 5, _ => rfl
  | 6, _ => rfl
  | 7, _ => rfl
  | q + 8, h => exact absurd h (by omega)
theorem rg2_30 {r i : Nat} (h : i < 8) : ((RFu r).getD 30 []).getD i 0 = 31 + i + 1 := by
  match i, h with
  | 0, _ => rfl
  | 1, _ => rfl
  | 2, _ => rfl
  | 3, _ => rfl
  | 4, _ => rfl
  | 5, _ => rfl
  | 6, _ => rfl
  | 7, _ => rfl
  | q + 8, h => exact absurd h (by omega)
theorem ly2_30 {i : Nat} (h : i < 8) : LAY[31 + i]? = some (13, 24) := by
  match i, h with
  | 0, _ => rfl
  | 1, _ => rfl
  | 2, _ => rfl
  | 3, _ => rfl
  | 4, _ => rfl
  | 5, _ => rfl
  | 6, _ => rfl
  | 7, _ => rfl
  | q + 8, h => exact absurd h (by omega)
theorem rg2_56 {r i : Nat} (h : i < 10) : ((RFu r).getD 56 []).getD i 0 = 57 + i + 1 := by
  match i, h with
  | 0, _ => rfl
  | 1, _ => rfl
  | 2, _ => rfl
  | 3, _ => rfl
  | 4, _ => rfl
  | 5, _ => rfl
  | 6, _ => rfl
  | 7, _ => rfl
  | 8, _ => rfl
  | 9, _ => rfl
  | q + 10, h => exact absurd h (by omega)
theorem ly2_56 {i : Nat} (h : i < 10) : LAY[57 + i]? = some (13, 121) := by
  match i, h with
  | 0, _ => rfl
  | 1, _ => rfl
  | 2, _ => rfl
  | 3, _ => rfl
  | 4, _ => rfl
  | 5, _ => rfl
  | 6, _ => rfl
  | 7, _ => rfl
  | 8, _ => rfl
  | 9, _ => rfl
  | q + 10, h => exact absurd h (by omega)
theorem rg2_67 {r i : Nat} (h : i < 2) : ((RFu r).getD 67 []).getD i 0 = 68 + i + 1 := by
  match i, h with
  | 0, _ => rfl
  | 1, _ => rfl
  | q + 2, h => exact absurd h (by omega)
theorem ly2_67 {i : Nat} (h : i < 2) : LAY[68 + i]? = some (13, 121) := by
  match i, h with
  | 0, _ => rfl
  | 1, _ => rfl
  | q + 2, h => exact absurd h (by omega)
theorem rg2_70 {r i : Nat} (h : i < 2) : ((RFu r).getD 70 []).getD i 0 = 71 + i + 1 := by
  match i, h with
  | 0, _ => rfl
  | 1, _ => rfl
  | q + 2, h => exact absurd h (by omega)
theorem ly2_70 {i : Nat} (h : i < 2) : LAY[71 + i]? = some (13, 8) := by
  match i, h with
  | 0, _ => rfl
  | 1, _ => rfl
  | q + 2, h => exact absurd h (by omega)
theorem rg2_73 {r i : Nat} (h : i < 2) : ((RFu r).getD 73 []).getD i 0 = 74 + i + 1 := by
  match i, h with
  | 0, _ => rfl
  | 1, _ => rfl
  | q + 2, h => exact absurd h (by omega)
theorem ly2_73 {i : Nat} (h : i < 2) : LAY[74 + i]? = some (13, 4) := by
  match i, h with
  | 0, _ => rfl
  | 1, _ => rfl
  | q + 2, h => exact absurd h (by omega)
theorem rg2_84 {r i : Nat} (h : i < 6) : ((RFu r).getD 84 []).getD i 0 = 85 + i + 1 := by
  match i, h with
  | 0, _ => rfl
  | 1, _ => rfl
  | 2, _ => rfl
  | 3, _ => rfl
  | 4, _ => rfl
  | 5, _ => rfl
  | q + 6, h => exact absurd h (by omega)
theorem ly2_84 {i : Nat} (h : i < 6) : LAY[85 + i]? = some (13, 121) := by
  match i, h with
  | 0, _ => rfl
  | 1, _ => rfl
  | 2, _ => rfl
  | 3, _ => rfl
  | 4, _ => rfl
  | 5, _ => rfl
  | q + 6, h => exact absurd h (by omega)
theorem rg2_124 {r i : Nat} (h : i < 2) : ((RFu r).getD 124 []).getD i 0 = 125 + i + 1 := by
  match i, h with
  | 0, _ => rfl
  | 1, _ => rfl
  | q + 2, h => exact absurd h (by omega)
theorem ly2_124 {i : Nat} (h : i < 2) : LAY[125 + i]? = some (14, 40) := by
  match i, h with
  | 0, _ => rfl
  | 1, _ => rfl
  | q + 2, h => exact absurd h (by omega)
theorem lt_5 {b : Nat} (h : isRule b) : LAY[b]? = some (5, 3) := by rcases h with rfl | rfl | rfl | rfl | rfl <;> rfl
theorem lt_5_0 {b : Nat} (h : isRule b) : LAY[b + 1]? = some (13, 40) := by rcases h with rfl | rfl | rfl | rfl | rfl <;> rfl
theorem rt_5_0 {b r : Nat} (h : isRule b) : ((RFu r).getD b []).getD 0 0 = b + 1 + 1 := by rcases h with rfl | rfl | rfl | rfl | rfl <;> rfl
theorem lt_5_1 {b : Nat} (h : isRule b) : LAY[b + 2]? = some (13, 40) := by rcases h with rfl | rfl | rfl | rfl | rfl <;> rfl
theorem rt_5_1 {b r : Nat} (h : isRule b) : ((RFu r).getD b []).getD 1 0 = b + 2 + 1 := by rcases h with rfl | rfl | rfl | rfl | rfl <;> rfl
theorem lt_8 {b : Nat} (h : isState b) : LAY[b]? = some (8, 1) := by rcases h with rfl | rfl | rfl <;> rfl
theorem lt_8_0 {b : Nat} (h : isState b) : LAY[b + 1]? = some (13, 121) := by rcases h with rfl | rfl | rfl <;> rfl
theorem rt_8_0 {b r : Nat} (h : isState b) : ((RFu r).getD b []).getD 0 0 = b + 1 + 1 := by rcases h with rfl | rfl | rfl <;> rfl
theorem lt_10 {b : Nat} (h : isTown b) : LAY[b]? = some (10, 12) := by rcases h with rfl | rfl <;> rfl
theorem lt_10_2 {b : Nat} (h : isTown b) : LAY[b + 1]? = some (13, 4) := by rcases h with rfl | rfl <;> rfl
theorem rt_10_2 {b r : Nat} (h : isTown b) : ((RFu r).getD b []).getD 2 0 = b + 1 + 1 := by rcases h with rfl | rfl <;> rfl
theorem lt_10_3 {b : Nat} (h : isTown b) : LAY[b + 2]? = some (13, 8) := by rcases h with rfl | rfl <;> rfl
theorem rt_10_3 {b r : Nat} (h : isTown b) : ((RFu r).getD b []).getD 3 0 = b + 2 + 1 := by rcases h with rfl | rfl <;> rfl
theorem lt_10_4 {b : Nat} (h : isTown b) : LAY[b + 3]? = some (13, 8) := by rcases h with rfl | rfl <;> rfl
theorem rt_10_4 {b r : Nat} (h : isTown b) : ((RFu r).getD b []).getD 4 0 = b + 3 + 1 := by rcases h with rfl | rfl <;> rfl
theorem lt_10_5 {b : Nat} (h : isTown b) : LAY[b + 4]? = some (17, 8) := by rcases h with rfl | rfl <;> rfl
theorem rt_10_5 {b r : Nat} (h : isTown b) : ((RFu r).getD b []).getD 5 0 = b + 4 + 1 := by rcases h with rfl | rfl <;> rfl
theorem rt2_10_5 {b r i : Nat} (h : isTown b) (hi : i < 8) : ((RFu r).getD (b + 4) []).getD i 0 = b + 5 + i + 1 := by
  rcases h with rfl | rfl
  · exact (rg2_9 hi).trans (by omega)
  · exact (rg2_30 hi).trans (by omega)
theorem lt2_10_5 {b i : Nat} (h : isTown b) (hi : i < 8) : LAY[b + 5 + i]? = some (13, 24) := by
  rcases h with rfl | rfl
  · exact ly2_9 hi
  · exact ly2_30 hi
theorem lt_10_6 {b : Nat} (h : isTown b) : LAY[b + 13]? = some (13, 8) := by rcases h with rfl | rfl <;> rfl
theorem rt_10_6 {b r : Nat} (h : isTown b) : ((RFu r).getD b []).getD 6 0 = b + 13 + 1 := by rcases h with rfl | rfl <;> rfl
theorem lt_10_7 {b : Nat} (h : isTown b) : LAY[b + 14]? = some (13, 8) := by rcases h with rfl | rfl <;> rfl
theorem rt_10_7 {b r : Nat} (h : isTown b) : ((RFu r).getD b []).getD 7 0 = b + 14 + 1 := by rcases h with rfl | rfl <;> rfl
theorem lt_10_8 {b : Nat} (h : isTown b) : LAY[b + 15]? = some (5, 3) := by rcases h with rfl | rfl <;> rfl
theorem rt_10_8 {b r : Nat} (h : isTown b) : ((RFu r).getD b []).getD 8 0 = b + 15 + 1 := by rcases h with rfl | rfl <;> rfl
theorem it_10_8 {b : Nat} (h : isTown b) : isRule (b + 15) := by rcases h with rfl | rfl <;> simp [isRule]
theorem lt_10_9 {b : Nat} (h : isTown b) : LAY[b + 18]? = some (5, 3) := by rcases h with rfl | rfl <;> rfl
theorem rt_10_9 {b r : Nat} (h : isTown b) : ((RFu r).getD b []).getD 9 0 = b + 18 + 1 := by rcases h with rfl | rfl <;> rfl
theorem it_10_9 {b : Nat} (h : isTown b) : isRule (b + 18) := by rcases h with rfl | rfl <;> simp [isRule]
theorem cr_0_3 : xCR 0 3 = some (0, 4) := by decide +kernel
theorem cr_0_18 : xCR 0 18 = some (2, 0) := by decide +kernel
theorem cr_0_22 : xCR 0 22 = some (3, 1) := by decide +kernel
theorem cr_0_26 : xCR 0 26 = some (237, 1) := by decide +kernel
theorem cr_0_32 : xCR 0 32 = some (31, 0) := by decide +kernel
theorem cr_0_37 : xCR 0 37 = some (4, 0) := by decide +kernel
theorem cr_0_40 : xCR 0 40 = some (32, 0) := by decide +kernel
theorem cr_0_48 : xCR 0 48 = some (0, 6) := by decide +kernel
theorem cr_0_59 : xCR 0 59 = some (6, 1) := by decide +kernel
theorem cr_0_63 : xCR 0 63 = some (0, 7) := by decide +kernel
theorem cr_0_66 : xCR 0 66 = some (68, 0) := by decide +kernel
theorem cr_1_3 : xCR 1 3 = some (0, 4) := by decide +kernel
theorem cr_1_21 : xCR 1 21 = some (9, 0) := by decide +kernel
theorem cr_1_31 : xCR 1 31 = some (63, 0) := by decide +kernel
theorem cr_1_40 : xCR 1 40 = some (237, 1) := by decide +kernel
theorem cr_1_46 : xCR 1 46 = some (10, 0) := by decide +kernel
theorem cr_1_50 : xCR 1 50 = some (11, 0) := by decide +kernel
theorem cr_1_53 : xCR 1 53 = some (13, 0) := by decide +kernel
theorem cr_1_57 : xCR 1 57 = some (14, 0) := by decide +kernel
theorem cr_1_66 : xCR 1 66 = some (89, 0) := by decide +kernel
theorem cr_1_73 : xCR 1 73 = some (15, 0) := by decide +kernel
theorem cr_1_77 : xCR 1 77 = some (12, 0) := by decide +kernel
theorem cr_1_84 : xCR 1 84 = some (16, 0) := by decide +kernel
theorem cr_1_87 : xCR 1 87 = some (61, 0) := by decide +kernel
theorem cr_1_93 : xCR 1 93 = some (69, 0) := by decide +kernel
theorem cr_1_97 : xCR 1 97 = some (40, 0) := by decide +kernel
theorem cr_2_3 : xCR 2 3 = some (0, 4) := by decide +kernel
theorem cr_2_32 : xCR 2 32 = some (74, 0) := by decide +kernel
theorem cr_2_41 : xCR 2 41 = some (19, 0) := by decide +kernel
theorem cr_2_45 : xCR 2 45 = some (76, 0) := by decide +kernel
theorem cr_2_48 : xCR 2 48 = some (79, 0) := by decide +kernel
theorem cr_2_52 : xCR 2 52 = some (75, 0) := by decide +kernel
theorem cr_2_56 : xCR 2 56 = some (22, 0) := by decide +kernel
theorem cr_2_59 : xCR 2 59 = some (20, 0) := by decide +kernel
theorem cr_2_62 : xCR 2 62 = some (23, 0) := by decide +kernel
theorem cr_2_65 : xCR 2 65 = some (21, 0) := by decide +kernel
theorem cr_2_68 : xCR 2 68 = some (77, 0) := by decide +kernel
theorem cr_2_72 : xCR 2 72 = some (78, 0) := by decide +kernel
theorem cr_3_3 : xCR 3 3 = some (0, 4) := by decide +kernel
theorem cr_3_41 : xCR 3 41 = some (0, 5) := by decide +kernel
theorem cr_3_50 : xCR 3 50 = some (0, 7) := by decide +kernel
theorem cr_4_3 : xCR 4 3 = some (0, 4) := by decide +kernel
theorem cr_5_3 : xCR 5 3 = some (0, 4) := by decide +kernel
theorem cr_5_22 : xCR 5 22 = some (38, 0) := by decide +kernel
theorem cr_5_26 : xCR 5 26 = some (0, 5) := by decide +kernel
theorem cr_5_32 : xCR 5 32 = some (41, 1) := by decide +kernel
theorem cr_5_36 : xCR 5 36 = some (42, 1) := by decide +kernel
theorem cr_6_3 : xCR 6 3 = some (0, 4) := by decide +kernel
theorem cr_6_11 : xCR 6 11 = some (35, 2) := by decide +kernel
theorem cr_6_28 : xCR 6 28 = some (36, 0) := by decide +kernel
theorem cr_6_41 : xCR 6 41 = some (74, 0) := by decide +kernel
theorem cr_6_46 : xCR 6 46 = some (45, 0) := by decide +kernel
theorem cr_6_49 : xCR 6 49 = some (46, 0) := by decide +kernel
theorem cr_6_53 : xCR 6 53 = some (47, 0) := by decide +kernel
theorem cr_6_56 : xCR 6 56 = some (48, 0) := by decide +kernel
theorem cr_6_59 : xCR 6 59 = some (49, 0) := by decide +kernel
theorem cr_6_62 : xCR 6 62 = some (79, 0) := by decide +kernel
theorem cr_6_65 : xCR 6 65 = some (76, 0) := by decide +kernel
theorem cr_6_69 : xCR 6 69 = some (50, 0) := by decide +kernel
theorem cr_6_72 : xCR 6 72 = some (75, 0) := by decide +kernel
theorem cr_6_76 : xCR 6 76 = some (38, 0) := by decide +kernel
theorem cr_6_79 : xCR 6 79 = some (78, 0) := by decide +kernel
theorem cr_6_83 : xCR 6 83 = some (0, 6) := by decide +kernel
theorem cr_6_89 : xCR 6 89 = some (51, 1) := by decide +kernel
theorem cr_7_3 : xCR 7 3 = some (0, 4) := by decide +kernel
theorem cr_7_11 : xCR 7 11 = some (59, 2) := by decide +kernel
theorem cr_7_48 : xCR 7 48 = some (0, 7) := by decide +kernel
theorem cr_7_63 : xCR 7 63 = some (0, 5) := by decide +kernel
theorem cr_7_75 : xCR 7 75 = some (55, 0) := by decide +kernel
theorem cr_7_79 : xCR 7 79 = some (56, 0) := by decide +kernel
theorem cr_7_83 : xCR 7 83 = some (91, 0) := by decide +kernel
theorem cr_7_87 : xCR 7 87 = some (57, 0) := by decide +kernel
theorem cr_7_90 : xCR 7 90 = some (8, 0) := by decide +kernel
theorem cr_7_96 : xCR 7 96 = some (61, 0) := by decide +kernel
theorem cr_7_99 : xCR 7 99 = some (66, 0) := by decide +kernel
theorem cr_7_103 : xCR 7 103 = some (31, 0) := by decide +kernel
theorem cr_7_108 : xCR 7 108 = some (32, 0) := by decide +kernel
theorem cr_8_5 : xCR 8 5 = some (0, 4) := by decide +kernel
theorem cr_8_15 : xCR 8 15 = some (0, 5) := by decide +kernel
theorem cr_8_21 : xCR 8 21 = some (0, 6) := by decide +kernel
theorem cr_8_27 : xCR 8 27 = some (0, 7) := by decide +kernel
theorem cr_8_30 : xCR 8 30 = some (61, 0) := by decide +kernel
theorem cr_8_34 : xCR 8 34 = some (68, 0) := by decide +kernel
theorem cr_9_3 : xCR 9 3 = some (0, 4) := by decide +kernel
theorem cr_9_22 : xCR 9 22 = some (0, 7) := by decide +kernel
theorem cr_9_31 : xCR 9 31 = some (75, 0) := by decide +kernel
theorem cr_9_35 : xCR 9 35 = some (77, 0) := by decide +kernel
theorem cr_10_3 : xCR 10 3 = some (0, 4) := by decide +kernel
theorem cr_10_34 : xCR 10 34 = some (35, 2) := by decide +kernel
theorem cr_10_57 : xCR 10 57 = some (74, 0) := by decide +kernel
theorem cr_10_65 : xCR 10 65 = some (75, 0) := by decide +kernel
theorem cr_10_69 : xCR 10 69 = some (85, 0) := by decide +kernel
theorem cr_10_73 : xCR 10 73 = some (86, 0) := by decide +kernel
theorem cr_10_76 : xCR 10 76 = some (76, 0) := by decide +kernel
theorem cr_10_80 : xCR 10 80 = some (79, 0) := by decide +kernel
theorem cr_10_84 : xCR 10 84 = some (77, 0) := by decide +kernel
theorem cr_10_88 : xCR 10 88 = some (78, 0) := by decide +kernel
theorem cr_10_91 : xCR 10 91 = some (0, 7) := by decide +kernel
theorem cr_10_100 : xCR 10 100 = some (0, 5) := by decide +kernel
theorem cr_10_106 : xCR 10 106 = some (39, 0) := by decide +kernel
theorem cr_10_110 : xCR 10 110 = some (0, 8) := by decide +kernel
theorem cr_10_113 : xCR 10 113 = some (89, 0) := by decide +kernel
theorem cr_10_116 : xCR 10 116 = some (96, 0) := by decide +kernel
theorem cr_11_1 : xCR 11 1 = some (0, 4) := by decide +kernel
theorem cr_11_9 : xCR 11 9 = some (70, 3) := by decide +kernel
theorem cr_11_18 : xCR 11 18 = some (30, 3) := by decide +kernel
theorem cr_11_25 : xCR 11 25 = some (81, 3) := by decide +kernel
theorem cr_11_35 : xCR 11 35 = some (59, 2) := by decide +kernel
theorem cr_11_45 : xCR 11 45 = some (7, 3) := by decide +kernel
theorem cr_11_52 : xCR 11 52 = some (24, 2) := by decide +kernel
theorem cr_11_59 : xCR 11 59 = some (0, 3) := by decide +kernel
theorem cr_11_66 : xCR 11 66 = some (52, 2) := by decide +kernel
theorem cr_11_75 : xCR 11 75 = some (43, 2) := by decide +kernel
theorem cr_11_84 : xCR 11 84 = some (17, 2) := by decide +kernel
theorem cr_11_102 : xCR 11 102 = some (71, 0) := by decide +kernel
theorem cr_11_110 : xCR 11 110 = some (72, 0) := by decide +kernel
theorem cr_11_113 : xCR 11 113 = some (84, 0) := by decide +kernel
theorem cr_11_117 : xCR 11 117 = some (80, 0) := by decide +kernel
theorem cr_11_121 : xCR 11 121 = some (27, 0) := by decide +kernel
theorem cr_11_124 : xCR 11 124 = some (73, 0) := by decide +kernel
theorem cr_11_127 : xCR 11 127 = some (83, 0) := by decide +kernel
theorem cr_11_130 : xCR 11 130 = some (87, 0) := by decide +kernel
theorem cr_11_138 : xCR 11 138 = some (103, 0) := by decide +kernel
theorem cr_11_145 : xCR 11 145 = some (37, 0) := by decide +kernel
theorem cr_11_151 : xCR 11 151 = some (44, 0) := by decide +kernel
theorem cr_11_158 : xCR 11 158 = some (39, 0) := by decide +kernel
theorem cr_11_174 : xCR 11 174 = some (61, 0) := by decide +kernel
theorem cr_11_178 : xCR 11 178 = some (40, 0) := by decide +kernel
theorem cr_11_182 : xCR 11 182 = some (82, 0) := by decide +kernel
theorem cr_11_185 : xCR 11 185 = some (151, 1) := by decide +kernel
theorem cr_11_195 : xCR 11 195 = some (108, 1) := by decide +kernel
theorem cr_11_199 : xCR 11 199 = some (0, 7) := by decide +kernel
theorem cr_11_204 : xCR 11 204 = some (0, 6) := by decide +kernel
theorem cr_11_207 : xCR 11 207 = some (64, 0) := by decide +kernel
theorem cr_11_210 : xCR 11 210 = some (110, 0) := by decide +kernel
theorem cr_11_213 : xCR 11 213 = some (31, 0) := by decide +kernel
theorem cr_11_214 : xCR 11 214 = some (62, 0) := by decide +kernel
theorem cr_11_217 : xCR 11 217 = some (237, 1) := by decide +kernel
theorem cr_11_222 : xCR 11 222 = some (32, 0) := by decide +kernel
theorem cr_11_225 : xCR 11 225 = some (25, 0) := by decide +kernel
theorem cr_11_229 : xCR 11 229 = some (8, 0) := by decide +kernel
theorem cr_11_233 : xCR 11 233 = some (26, 0) := by decide +kernel
theorem cr_11_240 : xCR 11 240 = some (63, 0) := by decide +kernel
theorem cr_11_243 : xCR 11 243 = some (153, 0) := by decide +kernel
theorem cr_11_253 : xCR 11 253 = some (115, 0) := by decide +kernel
theorem cr_11_260 : xCR 11 260 = some (15, 0) := by decide +kernel
theorem cr_11_264 : xCR 11 264 = some (16, 0) := by decide +kernel
theorem cr_11_267 : xCR 11 267 = some (18, 0) := by decide +kernel
theorem cr_11_281 : xCR 11 281 = some (117, 0) := by decide +kernel
theorem cr_11_285 : xCR 11 285 = some (105, 0) := by decide +kernel
theorem cr_11_287 : xCR 11 287 = some (106, 0) := by decide +kernel
theorem cr_11_290 : xCR 11 290 = some (122, 0) := by decide +kernel
theorem cr_11_293 : xCR 11 293 = some (60, 0) := by decide +kernel
theorem cr_11_295 : xCR 11 295 = some (152, 0) := by decide +kernel
theorem cr_11_299 : xCR 11 299 = some (67, 0) := by decide +kernel
theorem cr_11_302 : xCR 11 302 = some (68, 0) := by decide +kernel
theorem cr_11_306 : xCR 11 306 = some (1, 0) := by decide +kernel
theorem cr_11_310 : xCR 11 310 = some (5, 0) := by decide +kernel
theorem cr_11_316 : xCR 11 316 = some (88, 0) := by decide +kernel
theorem cr_11_319 : xCR 11 319 = some (53, 0) := by decide +kernel
theorem cr_11_323 : xCR 11 323 = some (54, 0) := by decide +kernel
theorem cr_11_326 : xCR 11 326 = some (58, 0) := by decide +kernel
theorem cr_11_333 : xCR 11 333 = some (66, 0) := by decide +kernel
theorem cr_11_336 : xCR 11 336 = some (92, 0) := by decide +kernel
theorem cr_11_340 : xCR 11 340 = some (155, 0) := by decide +kernel
theorem cr_11_347 : xCR 11 347 = some (154, 0) := by decide +kernel
theorem cr_11_350 : xCR 11 350 = some (90, 0) := by decide +kernel
theorem cr_11_353 : xCR 11 353 = some (135, 0) := by decide +kernel
theorem cr_11_356 : xCR 11 356 = some (93, 0) := by decide +kernel
theorem cr_11_362 : xCR 11 362 = some (140, 0) := by decide +kernel
theorem cr_11_365 : xCR 11 365 = some (142, 0) := by decide +kernel
theorem cr_11_368 : xCR 11 368 = some (65, 0) := by decide +kernel
theorem cr_11_371 : xCR 11 371 = some (34, 0) := by decide +kernel
theorem cr_11_374 : xCR 11 374 = some (95, 0) := by decide +kernel
theorem cr_11_377 : xCR 11 377 = some (145, 0) := by decide +kernel
theorem cr_11_380 : xCR 11 380 = some (146, 0) := by decide +kernel
theorem cr_11_383 : xCR 11 383 = some (28, 0) := by decide +kernel
theorem cr_11_387 : xCR 11 387 = some (29, 0) := by decide +kernel
theorem cr_11_391 : xCR 11 391 = some (94, 0) := by decide +kernel
theorem cr_11_394 : xCR 11 394 = some (33, 0) := by decide +kernel
theorem cr_12_3 : xCR 12 3 = some (0, 4) := by decide +kernel
theorem cr_12_130 : xCR 12 130 = some (158, 1) := by decide +kernel
theorem cr_12_134 : xCR 12 134 = some (162, 0) := by decide +kernel
theorem cr_12_159 : xCR 12 159 = some (169, 0) := by decide +kernel
theorem cr_12_163 : xCR 12 163 = some (168, 0) := by decide +kernel
theorem cr_12_167 : xCR 12 167 = some (170, 0) := by decide +kernel
theorem cr_12_171 : xCR 12 171 = some (167, 0) := by decide +kernel
theorem cr_12_175 : xCR 12 175 = some (172, 0) := by decide +kernel
theorem cr_12_179 : xCR 12 179 = some (171, 0) := by decide +kernel
theorem cr_12_189 : xCR 12 189 = some (176, 0) := by decide +kernel
theorem cr_12_192 : xCR 12 192 = some (177, 0) := by decide +kernel
theorem cr_12_195 : xCR 12 195 = some (178, 0) := by decide +kernel
theorem cr_12_198 : xCR 12 198 = some (175, 0) := by decide +kernel
theorem cr_12_201 : xCR 12 201 = some (179, 0) := by decide +kernel
theorem cr_12_208 : xCR 12 208 = some (160, 0) := by decide +kernel
theorem cr_12_211 : xCR 12 211 = some (181, 0) := by decide +kernel
theorem cr_12_214 : xCR 12 214 = some (164, 0) := by decide +kernel
theorem cr_12_217 : xCR 12 217 = some (0, 7) := by decide +kernel
theorem cr_12_222 : xCR 12 222 = some (0, 6) := by decide +kernel
theorem cr_12_231 : xCR 12 231 = some (188, 0) := by decide +kernel
theorem cr_12_234 : xCR 12 234 = some (187, 0) := by decide +kernel
theorem cr_12_238 : xCR 12 238 = some (186, 0) := by decide +kernel
theorem cr_12_241 : xCR 12 241 = some (189, 0) := by decide +kernel
theorem cr_12_245 : xCR 12 245 = some (191, 0) := by decide +kernel
theorem cr_12_249 : xCR 12 249 = some (194, 0) := by decide +kernel
theorem cr_12_252 : xCR 12 252 = some (190, 0) := by decide +kernel
theorem cr_12_255 : xCR 12 255 = some (193, 0) := by decide +kernel
theorem cr_12_258 : xCR 12 258 = some (161, 0) := by decide +kernel
theorem cr_12_261 : xCR 12 261 = some (192, 0) := by decide +kernel
theorem cr_12_264 : xCR 12 264 = some (159, 1) := by decide +kernel
theorem cr_12_267 : xCR 12 267 = some (202, 0) := by decide +kernel
theorem cr_12_270 : xCR 12 270 = some (195, 0) := by decide +kernel
theorem cr_12_273 : xCR 12 273 = some (183, 0) := by decide +kernel
theorem cr_12_275 : xCR 12 275 = some (207, 0) := by decide +kernel
theorem cr_12_278 : xCR 12 278 = some (184, 0) := by decide +kernel
theorem cr_12_282 : xCR 12 282 = some (201, 0) := by decide +kernel
theorem cr_12_286 : xCR 12 286 = some (163, 0) := by decide +kernel
theorem cr_12_289 : xCR 12 289 = some (208, 0) := by decide +kernel
theorem cr_12_292 : xCR 12 292 = some (237, 1) := by decide +kernel
theorem cr_12_297 : xCR 12 297 = some (212, 0) := by decide +kernel
theorem cr_12_300 : xCR 12 300 = some (216, 0) := by decide +kernel
theorem cr_12_304 : xCR 12 304 = some (222, 0) := by decide +kernel
theorem cr_12_311 : xCR 12 311 = some (227, 0) := by decide +kernel
theorem cr_12_314 : xCR 12 314 = some (231, 0) := by decide +kernel
theorem cr_13_7 : xCR 13 7 = some (104, 0) := by decide +kernel
theorem cr_13_15 : xCR 13 15 = some (118, 0) := by decide +kernel
theorem cr_13_18 : xCR 13 18 = some (143, 0) := by decide +kernel
theorem cr_13_21 : xCR 13 21 = some (150, 0) := by decide +kernel
theorem cr_13_25 : xCR 13 25 = some (97, 2) := by decide +kernel
theorem cr_13_28 : xCR 13 28 = some (156, 2) := by decide +kernel
theorem cr_13_29 : xCR 13 29 = some (98, 0) := by decide +kernel
theorem cr_13_32 : xCR 13 32 = some (165, 0) := by decide +kernel
theorem cr_13_33 : xCR 13 33 = some (99, 0) := by decide +kernel
theorem cr_13_37 : xCR 13 37 = some (166, 0) := by decide +kernel
theorem cr_13_38 : xCR 13 38 = some (100, 0) := by decide +kernel
theorem cr_13_42 : xCR 13 42 = some (173, 0) := by decide +kernel
theorem cr_13_43 : xCR 13 43 = some (101, 0) := by decide +kernel
theorem cr_13_46 : xCR 13 46 = some (174, 0) := by decide +kernel
theorem cr_13_47 : xCR 13 47 = some (102, 0) := by decide +kernel
theorem cr_13_50 : xCR 13 50 = some (180, 0) := by decide +kernel
theorem cr_13_51 : xCR 13 51 = some (238, 1) := by decide +kernel
theorem cr_13_56 : xCR 13 56 = some (182, 0) := by decide +kernel
theorem cr_13_57 : xCR 13 57 = some (157, 0) := by decide +kernel
theorem cr_13_60 : xCR 13 60 = some (105, 0) := by decide +kernel
theorem cr_13_63 : xCR 13 63 = some (183, 0) := by decide +kernel
theorem cr_13_64 : xCR 13 64 = some (106, 0) := by decide +kernel
theorem cr_13_68 : xCR 13 68 = some (184, 0) := by decide +kernel
theorem cr_13_69 : xCR 13 69 = some (107, 0) := by decide +kernel
theorem cr_13_73 : xCR 13 73 = some (185, 0) := by decide +kernel
theorem cr_13_74 : xCR 13 74 = some (109, 0) := by decide +kernel
theorem cr_13_77 : xCR 13 77 = some (195, 0) := by decide +kernel
theorem cr_13_78 : xCR 13 78 = some (111, 0) := by decide +kernel
theorem cr_13_81 : xCR 13 81 = some (196, 0) := by decide +kernel
theorem cr_13_82 : xCR 13 82 = some (112, 0) := by decide +kernel
theorem cr_13_85 : xCR 13 85 = some (197, 0) := by decide +kernel
theorem cr_13_86 : xCR 13 86 = some (113, 0) := by decide +kernel
theorem cr_13_89 : xCR 13 89 = some (198, 0) := by decide +kernel
theorem cr_13_90 : xCR 13 90 = some (114, 0) := by decide +kernel
theorem cr_13_93 : xCR 13 93 = some (199, 0) := by decide +kernel
theorem cr_13_94 : xCR 13 94 = some (116, 0) := by decide +kernel
theorem cr_13_97 : xCR 13 97 = some (200, 0) := by decide +kernel
theorem cr_13_98 : xCR 13 98 = some (239, 1) := by decide +kernel
theorem cr_13_100 : xCR 13 100 = some (203, 0) := by decide +kernel
theorem cr_13_101 : xCR 13 101 = some (119, 0) := by decide +kernel
theorem cr_13_104 : xCR 13 104 = some (204, 0) := by decide +kernel
theorem cr_13_105 : xCR 13 105 = some (120, 0) := by decide +kernel
theorem cr_13_108 : xCR 13 108 = some (205, 0) := by decide +kernel
theorem cr_13_109 : xCR 13 109 = some (121, 0) := by decide +kernel
theorem cr_13_112 : xCR 13 112 = some (206, 0) := by decide +kernel
theorem cr_13_113 : xCR 13 113 = some (122, 0) := by decide +kernel
theorem cr_13_117 : xCR 13 117 = some (207, 0) := by decide +kernel
theorem cr_13_118 : xCR 13 118 = some (123, 0) := by decide +kernel
theorem cr_13_121 : xCR 13 121 = some (209, 0) := by decide +kernel
theorem cr_13_122 : xCR 13 122 = some (124, 0) := by decide +kernel
theorem cr_13_125 : xCR 13 125 = some (210, 0) := by decide +kernel
theorem cr_13_126 : xCR 13 126 = some (125, 0) := by decide +kernel
theorem cr_13_129 : xCR 13 129 = some (211, 0) := by decide +kernel
theorem cr_13_130 : xCR 13 130 = some (126, 0) := by decide +kernel
theorem cr_13_134 : xCR 13 134 = some (213, 0) := by decide +kernel
theorem cr_13_135 : xCR 13 135 = some (127, 0) := by decide +kernel
theorem cr_13_138 : xCR 13 138 = some (214, 0) := by decide +kernel
theorem cr_13_139 : xCR 13 139 = some (128, 0) := by decide +kernel
theorem cr_13_142 : xCR 13 142 = some (215, 0) := by decide +kernel
theorem cr_13_143 : xCR 13 143 = some (129, 0) := by decide +kernel
theorem cr_13_147 : xCR 13 147 = some (217, 0) := by decide +kernel
theorem cr_13_148 : xCR 13 148 = some (130, 0) := by decide +kernel
theorem cr_13_151 : xCR 13 151 = some (218, 0) := by decide +kernel
theorem cr_13_152 : xCR 13 152 = some (131, 0) := by decide +kernel
theorem cr_13_155 : xCR 13 155 = some (219, 0) := by decide +kernel
theorem cr_13_156 : xCR 13 156 = some (132, 0) := by decide +kernel
theorem cr_13_159 : xCR 13 159 = some (220, 0) := by decide +kernel
theorem cr_13_160 : xCR 13 160 = some (133, 0) := by decide +kernel
theorem cr_13_163 : xCR 13 163 = some (221, 0) := by decide +kernel
theorem cr_13_164 : xCR 13 164 = some (134, 0) := by decide +kernel
theorem cr_13_167 : xCR 13 167 = some (223, 0) := by decide +kernel
theorem cr_13_168 : xCR 13 168 = some (136, 0) := by decide +kernel
theorem cr_13_171 : xCR 13 171 = some (224, 0) := by decide +kernel
theorem cr_13_172 : xCR 13 172 = some (137, 0) := by decide +kernel
theorem cr_13_175 : xCR 13 175 = some (225, 0) := by decide +kernel
theorem cr_13_176 : xCR 13 176 = some (138, 0) := by decide +kernel
theorem cr_13_179 : xCR 13 179 = some (226, 0) := by decide +kernel
theorem cr_13_180 : xCR 13 180 = some (139, 0) := by decide +kernel
theorem cr_13_183 : xCR 13 183 = some (228, 0) := by decide +kernel
theorem cr_13_184 : xCR 13 184 = some (141, 0) := by decide +kernel
theorem cr_13_187 : xCR 13 187 = some (229, 0) := by decide +kernel
theorem cr_13_188 : xCR 13 188 = some (240, 1) := by decide +kernel
theorem cr_13_190 : xCR 13 190 = some (230, 0) := by decide +kernel
theorem cr_13_191 : xCR 13 191 = some (144, 0) := by decide +kernel
theorem cr_13_194 : xCR 13 194 = some (232, 0) := by decide +kernel
theorem cr_13_195 : xCR 13 195 = some (147, 0) := by decide +kernel
theorem cr_13_198 : xCR 13 198 = some (233, 0) := by decide +kernel
theorem cr_13_199 : xCR 13 199 = some (148, 0) := by decide +kernel
theorem cr_13_202 : xCR 13 202 = some (234, 0) := by decide +kernel
theorem cr_13_203 : xCR 13 203 = some (149, 0) := by decide +kernel
theorem cr_13_206 : xCR 13 206 = some (235, 0) := by decide +kernel
theorem cr_13_207 : xCR 13 207 = some (241, 1) := by decide +kernel
theorem cr_13_210 : xCR 13 210 = some (236, 0) := by decide +kernel
theorem fr_0_11 : xFR 0 11 = some (0, 0) := by decide +kernel
theorem fr_0_15 : xFR 0 15 = some (0, 1) := by decide +kernel
theorem fr_0_44 : xFR 0 44 = some (4, 1) := by decide +kernel
theorem fr_0_54 : xFR 0 54 = some (8, 0) := by decide +kernel
theorem fr_1_9 : xFR 1 9 = some (1, 0) := by decide +kernel
theorem fr_1_15 : xFR 1 15 = some (1, 1) := by decide +kernel
theorem fr_1_18 : xFR 1 18 = some (1, 2) := by decide +kernel
theorem fr_1_25 : xFR 1 25 = some (10, 0) := by decide +kernel
theorem fr_1_37 : xFR 1 37 = some (10, 2) := by decide +kernel
theorem fr_1_60 : xFR 1 60 = some (8, 0) := by decide +kernel
theorem fr_1_63 : xFR 1 63 = some (10, 1) := by decide +kernel
theorem fr_1_69 : xFR 1 69 = some (10, 9) := by decide +kernel
theorem fr_1_81 : xFR 1 81 = some (10, 8) := by decide +kernel
theorem fr_1_90 : xFR 1 90 = some (10, 4) := by decide +kernel
theorem fr_2_9 : xFR 2 9 = some (2, 0) := by decide +kernel
theorem fr_2_15 : xFR 2 15 = some (2, 1) := by decide +kernel
theorem fr_2_18 : xFR 2 18 = some (2, 2) := by decide +kernel
theorem fr_2_21 : xFR 2 21 = some (2, 3) := by decide +kernel
theorem fr_2_24 : xFR 2 24 = some (2, 5) := by decide +kernel
theorem fr_2_28 : xFR 2 28 = some (2, 4) := by decide +kernel
theorem fr_2_38 : xFR 2 38 = some (9, 1) := by decide +kernel
theorem fr_3_15 : xFR 3 15 = some (3, 1) := by decide +kernel
theorem fr_3_18 : xFR 3 18 = some (3, 3) := by decide +kernel
theorem fr_3_21 : xFR 3 21 = some (3, 4) := by decide +kernel
theorem fr_3_24 : xFR 3 24 = some (3, 5) := by decide +kernel
theorem fr_3_27 : xFR 3 27 = some (3, 6) := by decide +kernel
theorem fr_3_31 : xFR 3 31 = some (3, 7) := by decide +kernel
theorem fr_3_34 : xFR 3 34 = some (8, 0) := by decide +kernel
theorem fr_3_37 : xFR 3 37 = some (3, 2) := by decide +kernel
theorem fr_3_47 : xFR 3 47 = some (3, 0) := by decide +kernel
theorem fr_3_56 : xFR 3 56 = some (10, 4) := by decide +kernel
theorem fr_3_60 : xFR 3 60 = some (10, 2) := by decide +kernel
theorem fr_3_62 : xFR 3 62 = some (10, 0) := by decide +kernel
theorem fr_3_64 : xFR 3 64 = some (10, 1) := by decide +kernel
theorem fr_4_9 : xFR 4 9 = some (4, 0) := by decide +kernel
theorem fr_4_15 : xFR 4 15 = some (4, 1) := by decide +kernel
theorem fr_5_9 : xFR 5 9 = some (5, 0) := by decide +kernel
theorem fr_5_15 : xFR 5 15 = some (5, 1) := by decide +kernel
theorem fr_5_18 : xFR 5 18 = some (5, 2) := by decide +kernel
theorem fr_5_40 : xFR 5 40 = some (10, 3) := by decide +kernel
theorem fr_5_45 : xFR 5 45 = some (10, 4) := by decide +kernel
theorem fr_5_48 : xFR 5 48 = some (8, 0) := by decide +kernel
theorem fr_6_14 : xFR 6 14 = some (6, 0) := by decide +kernel
theorem fr_6_20 : xFR 6 20 = some (6, 2) := by decide +kernel
theorem fr_6_24 : xFR 6 24 = some (6, 1) := by decide +kernel
theorem fr_6_31 : xFR 6 31 = some (6, 3) := by decide +kernel
theorem fr_6_35 : xFR 6 35 = some (6, 4) := by decide +kernel
theorem fr_6_38 : xFR 6 38 = some (6, 5) := by decide +kernel
theorem fr_7_12 : xFR 7 12 = some (7, 3) := by decide +kernel
theorem fr_7_20 : xFR 7 20 = some (7, 4) := by decide +kernel
theorem fr_7_23 : xFR 7 23 = some (7, 5) := by decide +kernel
theorem fr_7_27 : xFR 7 27 = some (7, 6) := by decide +kernel
theorem fr_7_30 : xFR 7 30 = some (7, 7) := by decide +kernel
theorem fr_7_33 : xFR 7 33 = some (7, 1) := by decide +kernel
theorem fr_7_37 : xFR 7 37 = some (7, 2) := by decide +kernel
theorem fr_7_41 : xFR 7 41 = some (7, 8) := by decide +kernel
theorem fr_7_45 : xFR 7 45 = some (7, 9) := by decide +kernel
theorem fr_7_54 : xFR 7 54 = some (7, 10) := by decide +kernel
theorem fr_7_57 : xFR 7 57 = some (7, 0) := by decide +kernel
theorem fr_7_60 : xFR 7 60 = some (8, 0) := by decide +kernel
theorem fr_7_69 : xFR 7 69 = some (10, 0) := by decide +kernel
theorem fr_8_11 : xFR 8 11 = some (8, 0) := by decide +kernel
theorem fr_9_11 : xFR 9 11 = some (9, 0) := by decide +kernel
theorem fr_9_15 : xFR 9 15 = some (9, 1) := by decide +kernel
theorem fr_9_19 : xFR 9 19 = some (9, 2) := by decide +kernel
theorem fr_9_28 : xFR 9 28 = some (9, 3) := by decide +kernel
theorem fr_10_9 : xFR 10 9 = some (10, 2) := by decide +kernel
theorem fr_10_15 : xFR 10 15 = some (10, 3) := by decide +kernel
theorem fr_10_18 : xFR 10 18 = some (10, 4) := by decide +kernel
theorem fr_10_23 : xFR 10 23 = some (10, 5) := by decide +kernel
theorem fr_10_26 : xFR 10 26 = some (10, 6) := by decide +kernel
theorem fr_10_29 : xFR 10 29 = some (10, 7) := by decide +kernel
theorem fr_10_37 : xFR 10 37 = some (10, 8) := by decide +kernel
theorem fr_10_41 : xFR 10 41 = some (10, 9) := by decide +kernel
theorem fr_10_44 : xFR 10 44 = some (10, 0) := by decide +kernel
theorem fr_10_48 : xFR 10 48 = some (10, 1) := by decide +kernel
theorem fr_10_51 : xFR 10 51 = some (10, 10) := by decide +kernel
theorem fr_10_54 : xFR 10 54 = some (10, 11) := by decide +kernel
theorem fr_10_62 : xFR 10 62 = some (9, 1) := by decide +kernel
theorem fr_10_97 : xFR 10 97 = some (9, 0) := by decide +kernel
theorem fr_11_10 : xFR 11 10 = some (11, 0) := by decide +kernel
theorem fr_11_19 : xFR 11 19 = some (11, 1) := by decide +kernel
theorem fr_11_26 : xFR 11 26 = some (11, 2) := by decide +kernel
theorem fr_11_30 : xFR 11 30 = some (11, 3) := by decide +kernel
theorem fr_11_36 : xFR 11 36 = some (11, 4) := by decide +kernel
theorem fr_11_40 : xFR 11 40 = some (11, 5) := by decide +kernel
theorem fr_11_46 : xFR 11 46 = some (11, 6) := by decide +kernel
theorem fr_11_53 : xFR 11 53 = some (11, 7) := by decide +kernel
theorem fr_11_60 : xFR 11 60 = some (11, 8) := by decide +kernel
theorem fr_11_69 : xFR 11 69 = some (11, 9) := by decide +kernel
theorem fr_11_78 : xFR 11 78 = some (11, 10) := by decide +kernel
theorem fr_11_85 : xFR 11 85 = some (11, 11) := by decide +kernel
theorem fr_11_89 : xFR 11 89 = some (11, 12) := by decide +kernel
theorem fr_11_93 : xFR 11 93 = some (11, 13) := by decide +kernel
theorem fr_11_96 : xFR 11 96 = some (11, 15) := by decide +kernel
theorem fr_11_99 : xFR 11 99 = some (11, 16) := by decide +kernel
theorem fr_11_106 : xFR 11 106 = some (9, 1) := by decide +kernel
theorem fr_11_134 : xFR 11 134 = some (10, 8) := by decide +kernel
theorem fr_11_142 : xFR 11 142 = some (10, 9) := by decide +kernel
theorem fr_11_155 : xFR 11 155 = some (6, 0) := by decide +kernel
theorem fr_11_165 : xFR 11 165 = some (10, 3) := by decide +kernel
theorem fr_11_168 : xFR 11 168 = some (10, 4) := by decide +kernel
theorem fr_11_171 : xFR 11 171 = some (8, 0) := by decide +kernel
theorem fr_11_189 : xFR 11 189 = some (10, 2) := by decide +kernel
theorem fr_11_192 : xFR 11 192 = some (10, 1) := by decide +kernel
theorem fr_11_237 : xFR 11 237 = some (3, 0) := by decide +kernel
theorem fr_11_247 : xFR 11 247 = some (1, 0) := by decide +kernel
theorem fr_11_250 : xFR 11 250 = some (1, 1) := by decide +kernel
theorem fr_11_257 : xFR 11 257 = some (4, 1) := by decide +kernel
theorem fr_11_268 : xFR 11 268 = some (2, 4) := by decide +kernel
theorem fr_11_269 : xFR 11 269 = some (2, 0) := by decide +kernel
theorem fr_11_272 : xFR 11 272 = some (2, 3) := by decide +kernel
theorem fr_11_275 : xFR 11 275 = some (2, 1) := by decide +kernel
theorem fr_11_278 : xFR 11 278 = some (2, 2) := by decide +kernel
theorem fr_11_313 : xFR 11 313 = some (10, 0) := by decide +kernel
theorem fr_11_330 : xFR 11 330 = some (7, 0) := by decide +kernel
theorem fr_11_341 : xFR 11 341 = some (10, 6) := by decide +kernel
theorem fr_11_344 : xFR 11 344 = some (10, 7) := by decide +kernel
theorem fr_11_359 : xFR 11 359 = some (11, 14) := by decide +kernel
theorem fr_11_397 : xFR 11 397 = some (4, 0) := by decide +kernel
theorem fr_12_9 : xFR 12 9 = some (12, 1) := by decide +kernel
theorem fr_12_13 : xFR 12 13 = some (12, 3) := by decide +kernel
theorem fr_12_16 : xFR 12 16 = some (12, 4) := by decide +kernel
theorem fr_12_20 : xFR 12 20 = some (12, 5) := by decide +kernel
theorem fr_12_23 : xFR 12 23 = some (12, 6) := by decide +kernel
theorem fr_12_26 : xFR 12 26 = some (12, 7) := by decide +kernel
theorem fr_12_29 : xFR 12 29 = some (12, 8) := by decide +kernel
theorem fr_12_32 : xFR 12 32 = some (12, 9) := by decide +kernel
theorem fr_12_35 : xFR 12 35 = some (12, 10) := by decide +kernel
theorem fr_12_38 : xFR 12 38 = some (12, 11) := by decide +kernel
theorem fr_12_41 : xFR 12 41 = some (12, 12) := by decide +kernel
theorem fr_12_44 : xFR 12 44 = some (12, 13) := by decide +kernel
theorem fr_12_47 : xFR 12 47 = some (12, 14) := by decide +kernel
theorem fr_12_50 : xFR 12 50 = some (12, 16) := by decide +kernel
theorem fr_12_54 : xFR 12 54 = some (12, 18) := by decide +kernel
theorem fr_12_59 : xFR 12 59 = some (12, 26) := by decide +kernel
theorem fr_12_62 : xFR 12 62 = some (12, 27) := by decide +kernel
theorem fr_12_65 : xFR 12 65 = some (12, 28) := by decide +kernel
theorem fr_12_69 : xFR 12 69 = some (12, 30) := by decide +kernel
theorem fr_12_72 : xFR 12 72 = some (12, 31) := by decide +kernel
theorem fr_12_75 : xFR 12 75 = some (12, 32) := by decide +kernel
theorem fr_12_78 : xFR 12 78 = some (12, 34) := by decide +kernel
theorem fr_12_81 : xFR 12 81 = some (12, 35) := by decide +kernel
theorem fr_12_84 : xFR 12 84 = some (12, 36) := by decide +kernel
theorem fr_12_87 : xFR 12 87 = some (12, 38) := by decide +kernel
theorem fr_12_90 : xFR 12 90 = some (12, 39) := by decide +kernel
theorem fr_12_93 : xFR 12 93 = some (12, 40) := by decide +kernel
theorem fr_12_96 : xFR 12 96 = some (12, 41) := by decide +kernel
theorem fr_12_99 : xFR 12 99 = some (12, 42) := by decide +kernel
theorem fr_12_102 : xFR 12 102 = some (12, 43) := by decide +kernel
theorem fr_12_105 : xFR 12 105 = some (12, 44) := by decide +kernel
theorem fr_12_109 : xFR 12 109 = some (12, 46) := by decide +kernel
theorem fr_12_112 : xFR 12 112 = some (12, 48) := by decide +kernel
theorem fr_12_115 : xFR 12 115 = some (12, 49) := by decide +kernel
theorem fr_12_118 : xFR 12 118 = some (12, 50) := by decide +kernel
theorem fr_12_121 : xFR 12 121 = some (12, 20) := by decide +kernel
theorem fr_12_124 : xFR 12 124 = some (12, 19) := by decide +kernel
theorem fr_12_127 : xFR 12 127 = some (12, 2) := by decide +kernel
theorem fr_12_138 : xFR 12 138 = some (12, 0) := by decide +kernel
theorem fr_12_141 : xFR 12 141 = some (12, 17) := by decide +kernel
theorem fr_12_144 : xFR 12 144 = some (12, 21) := by decide +kernel
theorem fr_12_147 : xFR 12 147 = some (12, 22) := by decide +kernel
theorem fr_12_150 : xFR 12 150 = some (12, 23) := by decide +kernel
theorem fr_12_153 : xFR 12 153 = some (12, 24) := by decide +kernel
theorem fr_12_156 : xFR 12 156 = some (12, 25) := by decide +kernel
theorem fr_12_183 : xFR 12 183 = some (12, 47) := by decide +kernel
theorem fr_12_186 : xFR 12 186 = some (12, 37) := by decide +kernel
theorem fr_12_205 : xFR 12 205 = some (12, 29) := by decide +kernel
theorem fr_12_225 : xFR 12 225 = some (12, 15) := by decide +kernel
theorem fr_12_228 : xFR 12 228 = some (12, 33) := by decide +kernel
theorem fr_12_308 : xFR 12 308 = some (12, 45) := by decide +kernel
