/-- the layout of the two objects, cell by cell: 0 object (class, slots), 1 ints, 2 booleans, 3.. rows of references -/
def LAY : List LC := [(0, 7, [3, 7, 11, 45, 46, 47, 49, 59, 143, 147, 148, 0, 0]), (0, 2, [0, 0, 4, 5, 6]), (1, 10, []), (1, 10, []), (1, 6, []), (0, 2, [0, 0, 8, 9, 10]), (1, 10, []), (1, 10, []), (1, 6, []), (0, 1, [12, 0, 0]), (3, 8, [13, 17, 21, 25, 29, 33, 37, 41]), (0, 2, [0, 0, 14, 15, 16]), (1, 10, []), (1, 10, []), (1, 6, []), (0, 2, [0, 0, 18, 19, 20]), (1, 10, []), (1, 10, []), (1, 6, []), (0, 2, [0, 0, 22, 23, 24]), (1, 10, []), (1, 10, []), (1, 6, []), (0, 2, [0, 0, 26, 27, 28]), (1, 10, []), (1, 10, []), (1, 6, []), (0, 2, [0, 0, 30, 31, 32]), (1, 10, []), (1, 10, []), (1, 6, []), (0, 2, [0, 0, 34, 35, 36]), (1, 10, []), (1, 10, []), (1, 6, []), (0, 2, [0, 0, 38, 39, 40]), (1, 10, []), (1, 10, []), (1, 6, []), (0, 2, [0, 0, 42, 43, 44]), (1, 10, []), (1, 10, []), (1, 6, []), (3, 2, [149, 153]), (2, 2, []), (0, 5, [48, 0, 0, 0, 0, 0]), (1, 200, []), (0, 6, [50, 51, 52]), (1, 6, []), (1, 6, []), (5, 6, [53, 54, 55, 56, 57, 58]), (1, 6, []), (1, 6, []), (1, 6, []), (1, 6, []), (1, 6, []), (1, 6, []), (0, 3, [0, 0, 60, 97, 98, 99, 100, 101, 102, 139, 140, 141, 142]), (5, 36, [61, 62, 63, 64, 65, 66, 67, 68, 69, 70, 71, 72, 73, 74, 75, 76, 77, 78, 79, 80, 81, 82, 83, 84, 85, 86, 87, 88, 89, 90, 91, 92, 93, 94, 95, 96]), (1, 6, []), (1, 6, []), (1, 6, []), (1, 6, []), (1, 6, []), (1, 6, []), (1, 6, []), (1, 6, []), (1, 6, []), (1, 6, []), (1, 6, []), (1, 6, []), (1, 6, []), (1, 6, []), (1, 6, []), (1, 6, []), (1, 6, []), (1, 6, []), (1, 6, []), (1, 6, []), (1, 6, []), (1, 6, []), (1, 6, []), (1, 6, []), (1, 6, []), (1, 6, []), (1, 6, []), (1, 6, []), (1, 6, []), (1, 6, []), (1, 6, []), (1, 6, []), (1, 6, []), (1, 6, []), (1, 6, []), (1, 6, []), (1, 36, []), (1, 36, []), (1, 36, []), (1, 36, []), (1, 36, []), (5, 36, [103, 104, 105, 106, 107, 108, 109, 110, 111, 112, 113, 114, 115, 116, 117, 118, 119, 120, 121, 122, 123, 124, 125, 126, 127, 128, 129, 130, 131, 132, 133, 134, 135, 136, 137, 138]), (1, 6, []), (1, 6, []), (1, 6, []), (1, 6, []), (1, 6, []), (1, 6, []), (1, 6, []), (1, 6, []), (1, 6, []), (1, 6, []), (1, 6, []), (1, 6, []), (1, 6, []), (1, 6, []), (1, 6, []), (1, 6, []), (1, 6, []), (1, 6, []), (1, 6, []), (1, 6, []), (1, 6, []), (1, 6, []), (1, 6, []), (1, 6, []), (1, 6, []), (1, 6, []), (1, 6, []), (1, 6, []), (1, 6, []), (1, 6, []), (1, 6, []), (1, 6, []), (1, 6, []), (1, 6, []), (1, 6, []), (1, 6, []), (1, 36, []), (1, 36, []), (1, 36, []), (1, 6, []), (0, 0, [144, 145, 146, 0, 0]), (1, 36, []), (1, 36, []), (1, 6, []), (4, 3, [157, 164, 171]), (1, 6, []), (0, 2, [0, 0, 150, 151, 152]), (1, 10, []), (1, 10, []), (1, 6, []), (0, 2, [0, 0, 154, 155, 156]), (1, 10, []), (1, 10, []), (1, 6, []), (0, 4, [0, 0, 158, 163]), (5, 4, [159, 160, 161, 162]), (1, 6, []), (1, 6, []), (1, 6, []), (1, 6, []), (1, 4, []), (0, 4, [0, 0, 165, 170]), (5, 4, [166, 167, 168, 169]), (1, 6, []), (1, 6, []), (1, 6, []), (1, 6, []), (1, 4, []), (0, 4, [0, 0, 172, 177]), (5, 4, [173, 174, 175, 176]), (1, 6, []), (1, 6, []), (1, 6, []), (1, 6, []), (1, 4, []), (0, 8, [0, 179, 0, 180, 181, 0, 182, 183, 184, 185, 186, 187, 0, 0, 188, 0, 0, 0, 0, 189, 190, 0, 0, 191, 192, 193, 194, 195, 196, 197]), (1, 297, []), (2, 2, []), (1, 200, []), (1, 3, []), (1, 12, []), (1, 72, []), (1, 36, []), (1, 216, []), (1, 36, []), (1, 36, []), (1, 10, []), (1, 10, []), (1, 6, []), (1, 18, []), (1, 36, []), (1, 6, []), (1, 6, []), (1, 36, []), (1, 6, [])]
theorem ly_0 : LAY[0]? = some (0, 7, [3, 7, 11, 45, 46, 47, 49, 59, 143, 147, 148, 0, 0]) := by decide +kernel
theorem ly_1 : LAY[1]? = some (0, 2, [0, 0, 4, 5, 6]) := by decide +kernel
theorem ly_2 : LAY[2]? = some (1, 10, []) := by decide +kernel
theorem ly_3 : LAY[3]? = some (1, 10, []) := by decide +kernel
theorem ly_4 : LAY[4]? = some (1, 6, []) := by decide +kernel
theorem ly_5 : LAY[5]? = some (0, 2, [0, 0, 8, 9, 10]) := by decide +kernel
theorem ly_6 : LAY[6]? = some (1, 10, []) := by decide +kernel
theorem ly_7 : LAY[7]? = some (1, 10, []) := by decide +kernel
theorem ly_8 : LAY[8]? = some (1, 6, []) := by decide +kernel
theorem ly_9 : LAY[9]? = some (0, 1, [12, 0, 0]) := by decide +kernel
theorem ly_10 : LAY[10]? = some (3, 8, [13, 17, 21, 25, 29, 33, 37, 41]) := by decide +kernel
theorem ly_11 : LAY[11]? = some (0, 2, [0, 0, 14, 15, 16]) := by decide +kernel
theorem ly_12 : LAY[12]? = some (1, 10, []) := by decide +kernel
theorem ly_13 : LAY[13]? = some (1, 10, []) := by decide +kernel
theorem ly_14 : LAY[14]? = some (1, 6, []) := by decide +kernel
theorem ly_15 : LAY[15]? = some (0, 2, [0, 0, 18, 19, 20]) := by decide +kernel
theorem ly_16 : LAY[16]? = some (1, 10, []) := by decide +kernel
theorem ly_17 : LAY[17]? = some (1, 10, []) := by decide +kernel
theorem ly_18 : LAY[18]? = some (1, 6, []) := by decide +kernel
theorem ly_19 : LAY[19]? = some (0, 2, [0, 0, 22, 23, 24]) := by decide +kernel
theorem ly_20 : LAY[20]? = some (1, 10, []) := by decide +kernel
theorem ly_21 : LAY[21]? = some (1, 10, []) := by decide +kernel
theorem ly_22 : LAY[22]? = some (1, 6, []) := by decide +kernel
theorem ly_23 : LAY[23]? = some (0, 2, [0, 0, 26, 27, 28]) := by decide +kernel
theorem ly_24 : LAY[24]? = some (1, 10, []) := by decide +kernel
theorem ly_25 : LAY[25]? = some (1, 10, []) := by decide +kernel
theorem ly_26 : LAY[26]? = some (1, 6, []) := by decide +kernel
theorem ly_27 : LAY[27]? = some (0, 2, [0, 0, 30, 31, 32]) := by decide +kernel
theorem ly_28 : LAY[28]? = some (1, 10, []) := by decide +kernel
theorem ly_29 : LAY[29]? = some (1, 10, []) := by decide +kernel
theorem ly_30 : LAY[30]? = some (1, 6, []) := by decide +kernel
theorem ly_31 : LAY[31]? = some (0, 2, [0, 0, 34, 35, 36]) := by decide +kernel
theorem ly_32 : LAY[32]? = some (1, 10, []) := by decide +kernel
theorem ly_33 : LAY[33]? = some (1, 10, []) := by decide +kernel
theorem ly_34 : LAY[34]? = some (1, 6, []) := by decide +kernel
theorem ly_35 : LAY[35]? = some (0, 2, [0, 0, 38, 39, 40]) := by decide +kernel
theorem ly_36 : LAY[36]? = some (1, 10, []) := by decide +kernel
theorem ly_37 : LAY[37]? = some (1, 10, []) := by decide +kernel
theorem ly_38 : LAY[38]? = some (1, 6, []) := by decide +kernel
theorem ly_39 : LAY[39]? = some (0, 2, [0, 0, 42, 43, 44]) := by decide +kernel
theorem ly_40 : LAY[40]? = some (1, 10, []) := by decide +kernel
theorem ly_41 : LAY[41]? = some (1, 10, []) := by decide +kernel
theorem ly_42 : LAY[42]? = some (1, 6, []) := by decide +kernel
theorem ly_43 : LAY[43]? = some (3, 2, [149, 153]) := by decide +kernel
theorem ly_44 : LAY[44]? = some (2, 2, []) := by decide +kernel
theorem ly_45 : LAY[45]? = some (0, 5, [48, 0, 0, 0, 0, 0]) := by decide +kernel
theorem ly_46 : LAY[46]? = some (1, 200, []) := by decide +kernel
theorem ly_47 : LAY[47]? = some (0, 6, [50, 51, 52]) := by decide +kernel
theorem ly_48 : LAY[48]? = some (1, 6, []) := by decide +kernel
theorem ly_49 : LAY[49]? = some (1, 6, []) := by decide +kernel
theorem ly_50 : LAY[50]? = some (5, 6, [53, 54, 55, 56, 57, 58]) := by decide +kernel
theorem ly_51 : LAY[51]? = some (1, 6, []) := by decide +kernel
theorem ly_52 : LAY[52]? = some (1, 6, []) := by decide +kernel
theorem ly_53 : LAY[53]? = some (1, 6, []) := by decide +kernel
theorem ly_54 : LAY[54]? = some (1, 6, []) := by decide +kernel
theorem ly_55 : LAY[55]? = some (1, 6, []) := by decide +kernel
theorem ly_56 : LAY[56]? = some (1, 6, []) := by decide +kernel
theorem ly_57 : LAY[57]? = some (0, 3, [0, 0, 60, 97, 98, 99, 100, 101, 102, 139, 140, 141, 142]) := by decide +kernel
theorem ly_58 : LAY[58]? = some (5, 36, [61, 62, 63, 64, 65, 66, 67, 68, 69, 70, 71, 72, 73, 74, 75, 76, 77, 78, 79, 80, 81, 82, 83, 84, 85, 86, 87, 88, 89, 90, 91, 92, 93, 94, 95, 96]) := by decide +kernel
theorem ly_59 : LAY[59]? = some (1, 6, []) := by decide +kernel
theorem ly_60 : LAY[60]? = some (1, 6, []) := by decide +kernel
theorem ly_61 : LAY[61]? = some (1, 6, []) := by decide +kernel
theorem ly_62 : LAY[62]? = some (1, 6, []) := by decide +kernel
theorem ly_63 : LAY[63]? = some (1, 6, []) := by decide +kernel
theorem ly_64 : LAY[64]? = some (1, 6, []) := by decide +kernel
theorem ly_65 : LAY[65]? = some (1, 6, []) := by decide +kernel
theorem ly_66 : LAY[66]? = some (1, 6, []) := by decide +kernel
theorem ly_67 : LAY[67]? = some (1, 6, []) := by decide +kernel
theorem ly_68 : LAY[68]? = some (1, 6, []) := by decide +kernel
theorem ly_69 : LAY[69]? = some (1, 6, []) := by decide +kernel
theorem ly_70 : LAY[70]? = some (1, 6, []) := by decide +kernel
theorem ly_71 : LAY[71]? = some (1, 6, []) := by decide +kernel
theorem ly_72 : LAY[72]? = some (1, 6, []) := by decide +kernel
theorem ly_73 : LAY[73]? = some (1, 6, []) := by decide +kernel
theorem ly_74 : LAY[74]? = some (1, 6, []) := by decide +kernel
theorem ly_75 : LAY[75]? = some (1, 6, []) := by decide +kernel
theorem ly_76 : LAY[76]? = some (1, 6, []) := by decide +kernel
theorem ly_77 : LAY[77]? = some (1, 6, []) := by decide +kernel
theorem ly_78 : LAY[78]? = some (1, 6, []) := by decide +kernel
theorem ly_79 : LAY[79]? = some (1, 6, []) := by decide +kernel
theorem ly_80 : LAY[80]? = some (1, 6, []) := by decide +kernel
theorem ly_81 : LAY[81]? = some (1, 6, []) := by decide +kernel
theorem ly_82 : LAY[82]? = some (1, 6, []) := by decide +kernel
theorem ly_83 : LAY[83]? = some (1, 6, []) := by decide +kernel
theorem ly_84 : LAY[84]? = some (1, 6, []) := by decide +kernel
theorem ly_85 : LAY[85]? = some (1, 6, []) := by decide +kernel
theorem ly_86 : LAY[86]? = some (1, 6, []) := by decide +kernel
theorem ly_87 : LAY[87]? = some (1, 6, []) := by decide +kernel
theorem ly_88 : LAY[88]? = some (1, 6, []) := by decide +kernel
theorem ly_89 : LAY[89]? = some (1, 6, []) := by decide +kernel
theorem ly_90 : LAY[90]? = some (1, 6, []) := by decide +kernel
theorem ly_91 : LAY[91]? = some (1, 6, []) := by decide +kernel
theorem ly_92 : LAY[92]? = some (1, 6, []) := by decide +kernel
theorem ly_93 : LAY[93]? = some (1, 6, []) := by decide +kernel
theorem ly_94 : LAY[94]? = some (1, 6, []) := by decide +kernel
theorem ly_95 : LAY[95]? = some (1, 36, []) := by decide +kernel
theorem ly_96 : LAY[96]? = some (1, 36, []) := by decide +kernel
theorem ly_97 : LAY[97]? = some (1, 36, []) := by decide +kernel
theorem ly_98 : LAY[98]? = some (1, 36, []) := by decide +kernel
theorem ly_99 : LAY[99]? = some (1, 36, []) := by decide +kernel
theorem ly_100 : LAY[100]? = some (5, 36, [103, 104, 105, 106, 107, 108, 109, 110, 111, 112, 113, 114, 115, 116, 117, 118, 119, 120, 121, 122, 123, 124, 125, 126, 127, 128, 129, 130, 131, 132, 133, 134, 135, 136, 137, 138]) := by decide +kernel
theorem ly_101 : LAY[101]? = some (1, 6, []) := by decide +kernel
theorem ly_102 : LAY[102]? = some (1, 6, []) := by decide +kernel
theorem ly_103 : LAY[103]? = some (1, 6, []) := by decide +kernel
theorem ly_104 : LAY[104]? = some (1, 6, []) := by decide +kernel
theorem ly_105 : LAY[105]? = some (1, 6, []) := by decide +kernel
theorem ly_106 : LAY[106]? = some (1, 6, []) := by decide +kernel
theorem ly_107 : LAY[107]? = some (1, 6, []) := by decide +kernel
theorem ly_108 : LAY[108]? = some (1, 6, []) := by decide +kernel
theorem ly_109 : LAY[109]? = some (1, 6, []) := by decide +kernel
theorem ly_110 : LAY[110]? = some (1, 6, []) := by decide +kernel
theorem ly_111 : LAY[111]? = some (1, 6, []) := by decide +kernel
theorem ly_112 : LAY[112]? = some (1, 6, []) := by decide +kernel
theorem ly_113 : LAY[113]? = some (1, 6, []) := by decide +kernel
theorem ly_114 : LAY[114]? = some (1, 6, []) := by decide +kernel
theorem ly_115 : LAY[115]? = some (1, 6, []) := by decide +kernel
theorem ly_116 : LAY[116]? = some (1, 6, []) := by decide +kernel
theorem ly_117 : LAY[117]? = some (1, 6, []) := by decide +kernel
theorem ly_118 : LAY[118]? = some (1, 6, []) := by decide +kernel
theorem ly_119 : LAY[119]? = some (1, 6, []) := by decide +kernel
theorem ly_120 : LAY[120]? = some (1, 6, []) := by decide +kernel
theorem ly_121 : LAY[121]? = some (1, 6, []) := by decide +kernel
theorem ly_122 : LAY[122]? = some (1, 6, []) := by decide +kernel
theorem ly_123 : LAY[123]? = some (1, 6, []) := by decide +kernel
theorem ly_124 : LAY[124]? = some (1, 6, []) := by decide +kernel
theorem ly_125 : LAY[125]? = some (1, 6, []) := by decide +kernel
theorem ly_126 : LAY[126]? = some (1, 6, []) := by decide +kernel
theorem ly_127 : LAY[127]? = some (1, 6, []) := by decide +kernel
theorem ly_128 : LAY[128]? = some (1, 6, []) := by decide +kernel
theorem ly_129 : LAY[129]? = some (1, 6, []) := by decide +kernel
theorem ly_130 : LAY[130]? = some (1, 6, []) := by decide +kernel
theorem ly_131 : LAY[131]? = some (1, 6, []) := by decide +kernel
theorem ly_132 : LAY[132]? = some (1, 6, []) := by decide +kernel
theorem ly_133 : LAY[133]? = some (1, 6, []) := by decide +kernel
theorem ly_134 : LAY[134]? = some (1, 6, []) := by decide +kernel
theorem ly_135 : LAY[135]? = some (1, 6, []) := by decide +kernel
theorem ly_136 : LAY[136]? = some (1, 6, []) := by decide +kernel
theorem ly_137 : LAY[137]? = some (1, 36, []) := by decide +kernel
theorem ly_138 : LAY[138]? = some (1, 36, []) := by decide +kernel
theorem ly_139 : LAY[139]? = some (1, 36, []) := by decide +kernel
theorem ly_140 : LAY[140]? = some (1, 6, []) := by decide +kernel
theorem ly_141 : LAY[141]? = some (0, 0, [144, 145, 146, 0, 0]) := by decide +kernel
theorem ly_142 : LAY[142]? = some (1, 36, []) := by decide +kernel
theorem ly_143 : LAY[143]? = some (1, 36, []) := by decide +kernel
theorem ly_144 : LAY[144]? = some (1, 6, []) := by decide +kernel
theorem ly_145 : LAY[145]? = some (4, 3, [157, 164, 171]) := by decide +kernel
theorem ly_146 : LAY[146]? = some (1, 6, []) := by decide +kernel
theorem ly_147 : LAY[147]? = some (0, 2, [0, 0, 150, 151, 152]) := by decide +kernel
theorem ly_148 : LAY[148]? = some (1, 10, []) := by decide +kernel
theorem ly_149 : LAY[149]? = some (1, 10, []) := by decide +kernel
theorem ly_150 : LAY[150]? = some (1, 6, []) := by decide +kernel
theorem ly_151 : LAY[151]? = some (0, 2, [0, 0, 154, 155, 156]) := by decide +kernel
theorem ly_152 : LAY[152]? = some (1, 10, []) := by decide +kernel
theorem ly_153 : LAY[153]? = some (1, 10, []) := by decide +kernel
theorem ly_154 : LAY[154]? = some (1, 6, []) := by decide +kernel
theorem ly_155 : LAY[155]? = some (0, 4, [0, 0, 158, 163]) := by decide +kernel
theorem ly_156 : LAY[156]? = some (5, 4, [159, 160, 161, 162]) := by decide +kernel
theorem ly_157 : LAY[157]? = some (1, 6, []) := by decide +kernel
theorem ly_158 : LAY[158]? = some (1, 6, []) := by decide +kernel
theorem ly_159 : LAY[159]? = some (1, 6, []) := by decide +kernel
theorem ly_160 : LAY[160]? = some (1, 6, []) := by decide +kernel
theorem ly_161 : LAY[161]? = some (1, 4, []) := by decide +kernel
theorem ly_162 : LAY[162]? = some (0, 4, [0, 0, 165, 170]) := by decide +kernel
theorem ly_163 : LAY[163]? = some (5, 4, [166, 167, 168, 169]) := by decide +kernel
theorem ly_164 : LAY[164]? = some (1, 6, []) := by decide +kernel
theorem ly_165 : LAY[165]? = some (1, 6, []) := by decide +kernel
theorem ly_166 : LAY[166]? = some (1, 6, []) := by decide +kernel
theorem ly_167 : LAY[167]? = some (1, 6, []) := by decide +kernel
theorem ly_168 : LAY[168]? = some (1, 4, []) := by decide +kernel
theorem ly_169 : LAY[169]? = some (0, 4, [0, 0, 172, 177]) := by decide +kernel
theorem ly_170 : LAY[170]? = some (5, 4, [173, 174, 175, 176]) := by decide +kernel
theorem ly_171 : LAY[171]? = some (1, 6, []) := by decide +kernel
theorem ly_172 : LAY[172]? = some (1, 6, []) := by decide +kernel
theorem ly_173 : LAY[173]? = some (1, 6, []) := by decide +kernel
theorem ly_174 : LAY[174]? = some (1, 6, []) := by decide +kernel
theorem ly_175 : LAY[175]? = some (1, 4, []) := by decide +kernel
theorem ly_176 : LAY[176]? = some (0, 8, [0, 179, 0, 180, 181, 0, 182, 183, 184, 185, 186, 187, 0, 0, 188, 0, 0, 0, 0, 189, 190, 0, 0, 191, 192, 193, 194, 195, 196, 197]) := by decide +kernel
theorem ly_177 : LAY[177]? = some (1, 297, []) := by decide +kernel
theorem ly_178 : LAY[178]? = some (2, 2, []) := by decide +kernel
theorem ly_179 : LAY[179]? = some (1, 200, []) := by decide +kernel
theorem ly_180 : LAY[180]? = some (1, 3, []) := by decide +kernel
theorem ly_181 : LAY[181]? = some (1, 12, []) := by decide +kernel
theorem ly_182 : LAY[182]? = some (1, 72, []) := by decide +kernel
theorem ly_183 : LAY[183]? = some (1, 36, []) := by decide +kernel
theorem ly_184 : LAY[184]? = some (1, 216, []) := by decide +kernel
theorem ly_185 : LAY[185]? = some (1, 36, []) := by decide +kernel
theorem ly_186 : LAY[186]? = some (1, 36, []) := by decide +kernel
theorem ly_187 : LAY[187]? = some (1, 10, []) := by decide +kernel
theorem ly_188 : LAY[188]? = some (1, 10, []) := by decide +kernel
theorem ly_189 : LAY[189]? = some (1, 6, []) := by decide +kernel
theorem ly_190 : LAY[190]? = some (1, 18, []) := by decide +kernel
theorem ly_191 : LAY[191]? = some (1, 36, []) := by decide +kernel
theorem ly_192 : LAY[192]? = some (1, 6, []) := by decide +kernel
theorem ly_193 : LAY[193]? = some (1, 6, []) := by decide +kernel
theorem ly_194 : LAY[194]? = some (1, 36, []) := by decide +kernel
theorem ly_195 : LAY[195]? = some (1, 6, []) := by decide +kernel
/-- a quiver's four cells -/
def QA (a : Nat) : Prop := LAY[a]? = some (0, 2, [0, 0, a + 1 + 2, a + 2 + 2, a + 3 + 2]) ∧ LAY[a + 1]? = some (1, 10, []) ∧ LAY[a + 2]? = some (1, 10, []) ∧ LAY[a + 3]? = some (1, 6, [])
/-- a shelf's seven cells -/
def SA (a : Nat) : Prop := LAY[a]? = some (0, 4, [0, 0, a + 1 + 2, a + 6 + 2]) ∧ LAY[a + 1]? = some (5, 4, [a + 2 + 2, a + 3 + 2, a + 4 + 2, a + 5 + 2]) ∧ (∀ k, k < 4 → LAY[a + 2 + k]? = some (1, 6, [])) ∧ LAY[a + 6]? = some (1, 4, [])
theorem qa_1 : QA 1 := ⟨by decide +kernel, by decide +kernel, by decide +kernel, by decide +kernel⟩
theorem qa_5 : QA 5 := ⟨by decide +kernel, by decide +kernel, by decide +kernel, by decide +kernel⟩
theorem qa_S : ∀ k, k < 8 → QA (11 + 4 * k) := fun k h => ⟨(show ∀ k, k < 8 → LAY[11 + 4 * k]? = some (0, 2, [0, 0, 11 + 4 * k + 1 + 2, 11 + 4 * k + 2 + 2, 11 + 4 * k + 3 + 2]) by decide +kernel) k h, (show ∀ k, k < 8 → LAY[11 + 4 * k + 1]? = some (1, 10, []) by decide +kernel) k h, (show ∀ k, k < 8 → LAY[11 + 4 * k + 2]? = some (1, 10, []) by decide +kernel) k h, (show ∀ k, k < 8 → LAY[11 + 4 * k + 3]? = some (1, 6, []) by decide +kernel) k h⟩
theorem qa_K : ∀ k, k < 2 → QA (147 + 4 * k) := fun k h => ⟨(show ∀ k, k < 2 → LAY[147 + 4 * k]? = some (0, 2, [0, 0, 147 + 4 * k + 1 + 2, 147 + 4 * k + 2 + 2, 147 + 4 * k + 3 + 2]) by decide +kernel) k h, (show ∀ k, k < 2 → LAY[147 + 4 * k + 1]? = some (1, 10, []) by decide +kernel) k h, (show ∀ k, k < 2 → LAY[147 + 4 * k + 2]? = some (1, 10, []) by decide +kernel) k h, (show ∀ k, k < 2 → LAY[147 + 4 * k + 3]? = some (1, 6, []) by decide +kernel) k h⟩
theorem sa_F : ∀ k, k < 3 → SA (155 + 7 * k) := fun k h => ⟨(show ∀ k, k < 3 → LAY[155 + 7 * k]? = some (0, 4, [0, 0, 155 + 7 * k + 1 + 2, 155 + 7 * k + 6 + 2]) by decide +kernel) k h, (show ∀ k, k < 3 → LAY[155 + 7 * k + 1]? = some (5, 4, [155 + 7 * k + 2 + 2, 155 + 7 * k + 3 + 2, 155 + 7 * k + 4 + 2, 155 + 7 * k + 5 + 2]) by decide +kernel) k h, (show ∀ k, k < 3 → ∀ j, j < 4 → LAY[155 + 7 * k + 2 + j]? = some (1, 6, []) by decide +kernel) k h, (show ∀ k, k < 3 → LAY[155 + 7 * k + 6]? = some (1, 4, []) by decide +kernel) k h⟩
theorem ra_S : ∀ k, k < 8 → ([13, 17, 21, 25, 29, 33, 37, 41] : List Nat).getD k 1 = 11 + 4 * k + 2 := by decide +kernel
theorem ra_K : ∀ k, k < 2 → ([149, 153] : List Nat).getD k 1 = 147 + 4 * k + 2 := by decide +kernel
theorem ra_F : ∀ k, k < 3 → ([157, 164, 171] : List Nat).getD k 1 = 155 + 7 * k + 2 := by decide +kernel
theorem ra_W : ∀ k, k < 6 → ([53, 54, 55, 56, 57, 58] : List Nat).getD k 1 = 51 + k + 2 := by decide +kernel
theorem rr_W : ∀ k, k < 6 → LAY[51 + k]? = some (1, 6, []) := by decide +kernel
theorem ra_R : ∀ k, k < 36 → ([61, 62, 63, 64, 65, 66, 67, 68, 69, 70, 71, 72, 73, 74, 75, 76, 77, 78, 79, 80, 81, 82, 83, 84, 85, 86, 87, 88, 89, 90, 91, 92, 93, 94, 95, 96] : List Nat).getD k 1 = 59 + k + 2 := by decide +kernel
theorem rr_R : ∀ k, k < 36 → LAY[59 + k]? = some (1, 6, []) := by decide +kernel
theorem ra_D : ∀ k, k < 36 → ([103, 104, 105, 106, 107, 108, 109, 110, 111, 112, 113, 114, 115, 116, 117, 118, 119, 120, 121, 122, 123, 124, 125, 126, 127, 128, 129, 130, 131, 132, 133, 134, 135, 136, 137, 138] : List Nat).getD k 1 = 101 + k + 2 := by decide +kernel
theorem rr_D : ∀ k, k < 36 → LAY[101 + k]? = some (1, 6, []) := by decide +kernel
theorem sa_ra (a : Nat) : ∀ k, k < 4 → ([a + 2 + 2, a + 3 + 2, a + 4 + 2, a + 5 + 2] : List Nat).getD k 1 = a + 2 + k + 2
  | 0, _ => rfl
  | 1, _ => by simp
  | 2, _ => by simp
  | 3, _ => by simp
  | k + 4, h => absurd h (by omega)
/-- how long a row of ints is -/
def alen (a : Nat) : Nat := (LAY.getD a (1, 0, [])).2.1
/-- a row of ints -/
def IA (a : Nat) : Prop := LAY[a]? = some (1, alen a, [])
theorem ix_lt {i : Int32} {n : Nat} (h : ¬ (i < 0 ∨ n ≤ i.toNatClampNeg)) : i.toNatClampNeg < n := Nat.not_le.mp fun q => h (Or.inr q)
theorem al_2 : alen 2 = 10 := by decide +kernel
theorem al_3 : alen 3 = 10 := by decide +kernel
theorem al_4 : alen 4 = 6 := by decide +kernel
theorem al_6 : alen 6 = 10 := by decide +kernel
theorem al_7 : alen 7 = 10 := by decide +kernel
theorem al_8 : alen 8 = 6 := by decide +kernel
theorem al_12 : alen 12 = 10 := by decide +kernel
theorem al_13 : alen 13 = 10 := by decide +kernel
theorem al_14 : alen 14 = 6 := by decide +kernel
theorem al_16 : alen 16 = 10 := by decide +kernel
theorem al_17 : alen 17 = 10 := by decide +kernel
theorem al_18 : alen 18 = 6 := by decide +kernel
theorem al_20 : alen 20 = 10 := by decide +kernel
theorem al_21 : alen 21 = 10 := by decide +kernel
theorem al_22 : alen 22 = 6 := by decide +kernel
theorem al_24 : alen 24 = 10 := by decide +kernel
theorem al_25 : alen 25 = 10 := by decide +kernel
theorem al_26 : alen 26 = 6 := by decide +kernel
theorem al_28 : alen 28 = 10 := by decide +kernel
theorem al_29 : alen 29 = 10 := by decide +kernel
theorem al_30 : alen 30 = 6 := by decide +kernel
theorem al_32 : alen 32 = 10 := by decide +kernel
theorem al_33 : alen 33 = 10 := by decide +kernel
theorem al_34 : alen 34 = 6 := by decide +kernel
theorem al_36 : alen 36 = 10 := by decide +kernel
theorem al_37 : alen 37 = 10 := by decide +kernel
theorem al_38 : alen 38 = 6 := by decide +kernel
theorem al_40 : alen 40 = 10 := by decide +kernel
theorem al_41 : alen 41 = 10 := by decide +kernel
theorem al_42 : alen 42 = 6 := by decide +kernel
theorem al_46 : alen 46 = 200 := by decide +kernel
theorem al_48 : alen 48 = 6 := by decide +kernel
theorem al_49 : alen 49 = 6 := by decide +kernel
theorem al_51 : alen 51 = 6 := by decide +kernel
theorem al_52 : alen 52 = 6 := by decide +kernel
theorem al_53 : alen 53 = 6 := by decide +kernel
theorem al_54 : alen 54 = 6 := by decide +kernel
theorem al_55 : alen 55 = 6 := by decide +kernel
theorem al_56 : alen 56 = 6 := by decide +kernel
theorem al_59 : alen 59 = 6 := by decide +kernel
theorem al_60 : alen 60 = 6 := by decide +kernel
theorem al_61 : alen 61 = 6 := by decide +kernel
theorem al_62 : alen 62 = 6 := by decide +kernel
theorem al_63 : alen 63 = 6 := by decide +kernel
theorem al_64 : alen 64 = 6 := by decide +kernel
theorem al_65 : alen 65 = 6 := by decide +kernel
theorem al_66 : alen 66 = 6 := by decide +kernel
theorem al_67 : alen 67 = 6 := by decide +kernel
theorem al_68 : alen 68 = 6 := by decide +kernel
theorem al_69 : alen 69 = 6 := by decide +kernel
theorem al_70 : alen 70 = 6 := by decide +kernel
theorem al_71 : alen 71 = 6 := by decide +kernel
theorem al_72 : alen 72 = 6 := by decide +kernel
theorem al_73 : alen 73 = 6 := by decide +kernel
theorem al_74 : alen 74 = 6 := by decide +kernel
theorem al_75 : alen 75 = 6 := by decide +kernel
theorem al_76 : alen 76 = 6 := by decide +kernel
theorem al_77 : alen 77 = 6 := by decide +kernel
theorem al_78 : alen 78 = 6 := by decide +kernel
theorem al_79 : alen 79 = 6 := by decide +kernel
theorem al_80 : alen 80 = 6 := by decide +kernel
theorem al_81 : alen 81 = 6 := by decide +kernel
theorem al_82 : alen 82 = 6 := by decide +kernel
theorem al_83 : alen 83 = 6 := by decide +kernel
theorem al_84 : alen 84 = 6 := by decide +kernel
theorem al_85 : alen 85 = 6 := by decide +kernel
theorem al_86 : alen 86 = 6 := by decide +kernel
theorem al_87 : alen 87 = 6 := by decide +kernel
theorem al_88 : alen 88 = 6 := by decide +kernel
theorem al_89 : alen 89 = 6 := by decide +kernel
theorem al_90 : alen 90 = 6 := by decide +kernel
theorem al_91 : alen 91 = 6 := by decide +kernel
theorem al_92 : alen 92 = 6 := by decide +kernel
theorem al_93 : alen 93 = 6 := by decide +kernel
theorem al_94 : alen 94 = 6 := by decide +kernel
theorem al_95 : alen 95 = 36 := by decide +kernel
theorem al_96 : alen 96 = 36 := by decide +kernel
theorem al_97 : alen 97 = 36 := by decide +kernel
theorem al_98 : alen 98 = 36 := by decide +kernel
theorem al_99 : alen 99 = 36 := by decide +kernel
theorem al_101 : alen 101 = 6 := by decide +kernel
theorem al_102 : alen 102 = 6 := by decide +kernel
theorem al_103 : alen 103 = 6 := by decide +kernel
theorem al_104 : alen 104 = 6 := by decide +kernel
theorem al_105 : alen 105 = 6 := by decide +kernel
theorem al_106 : alen 106 = 6 := by decide +kernel
theorem al_107 : alen 107 = 6 := by decide +kernel
theorem al_108 : alen 108 = 6 := by decide +kernel
theorem al_109 : alen 109 = 6 := by decide +kernel
theorem al_110 : alen 110 = 6 := by decide +kernel
theorem al_111 : alen 111 = 6 := by decide +kernel
theorem al_112 : alen 112 = 6 := by decide +kernel
theorem al_113 : alen 113 = 6 := by decide +kernel
theorem al_114 : alen 114 = 6 := by decide +kernel
theorem al_115 : alen 115 = 6 := by decide +kernel
theorem al_116 : alen 116 = 6 := by decide +kernel
theorem al_117 : alen 117 = 6 := by decide +kernel
theorem al_118 : alen 118 = 6 := by decide +kernel
theorem al_119 : alen 119 = 6 := by decide +kernel
theorem al_120 : alen 120 = 6 := by decide +kernel
theorem al_121 : alen 121 = 6 := by decide +kernel
theorem al_122 : alen 122 = 6 := by decide +kernel
theorem al_123 : alen 123 = 6 := by decide +kernel
theorem al_124 : alen 124 = 6 := by decide +kernel
theorem al_125 : alen 125 = 6 := by decide +kernel
theorem al_126 : alen 126 = 6 := by decide +kernel
theorem al_127 : alen 127 = 6 := by decide +kernel
theorem al_128 : alen 128 = 6 := by decide +kernel
theorem al_129 : alen 129 = 6 := by decide +kernel
theorem al_130 : alen 130 = 6 := by decide +kernel
theorem al_131 : alen 131 = 6 := by decide +kernel
theorem al_132 : alen 132 = 6 := by decide +kernel
theorem al_133 : alen 133 = 6 := by decide +kernel
theorem al_134 : alen 134 = 6 := by decide +kernel
theorem al_135 : alen 135 = 6 := by decide +kernel
theorem al_136 : alen 136 = 6 := by decide +kernel
theorem al_137 : alen 137 = 36 := by decide +kernel
theorem al_138 : alen 138 = 36 := by decide +kernel
theorem al_139 : alen 139 = 36 := by decide +kernel
theorem al_140 : alen 140 = 6 := by decide +kernel
theorem al_142 : alen 142 = 36 := by decide +kernel
theorem al_143 : alen 143 = 36 := by decide +kernel
theorem al_144 : alen 144 = 6 := by decide +kernel
theorem al_146 : alen 146 = 6 := by decide +kernel
theorem al_148 : alen 148 = 10 := by decide +kernel
theorem al_149 : alen 149 = 10 := by decide +kernel
theorem al_150 : alen 150 = 6 := by decide +kernel
theorem al_152 : alen 152 = 10 := by decide +kernel
theorem al_153 : alen 153 = 10 := by decide +kernel
theorem al_154 : alen 154 = 6 := by decide +kernel
theorem al_157 : alen 157 = 6 := by decide +kernel
theorem al_158 : alen 158 = 6 := by decide +kernel
theorem al_159 : alen 159 = 6 := by decide +kernel
theorem al_160 : alen 160 = 6 := by decide +kernel
theorem al_161 : alen 161 = 4 := by decide +kernel
theorem al_164 : alen 164 = 6 := by decide +kernel
theorem al_165 : alen 165 = 6 := by decide +kernel
theorem al_166 : alen 166 = 6 := by decide +kernel
theorem al_167 : alen 167 = 6 := by decide +kernel
theorem al_168 : alen 168 = 4 := by decide +kernel
theorem al_171 : alen 171 = 6 := by decide +kernel
theorem al_172 : alen 172 = 6 := by decide +kernel
theorem al_173 : alen 173 = 6 := by decide +kernel
theorem al_174 : alen 174 = 6 := by decide +kernel
theorem al_175 : alen 175 = 4 := by decide +kernel
theorem al_177 : alen 177 = 297 := by decide +kernel
theorem al_179 : alen 179 = 200 := by decide +kernel
theorem al_180 : alen 180 = 3 := by decide +kernel
theorem al_181 : alen 181 = 12 := by decide +kernel
theorem al_182 : alen 182 = 72 := by decide +kernel
theorem al_183 : alen 183 = 36 := by decide +kernel
theorem al_184 : alen 184 = 216 := by decide +kernel
theorem al_185 : alen 185 = 36 := by decide +kernel
theorem al_186 : alen 186 = 36 := by decide +kernel
theorem al_187 : alen 187 = 10 := by decide +kernel
theorem al_188 : alen 188 = 10 := by decide +kernel
theorem al_189 : alen 189 = 6 := by decide +kernel
theorem al_190 : alen 190 = 18 := by decide +kernel
theorem al_191 : alen 191 = 36 := by decide +kernel
theorem al_192 : alen 192 = 6 := by decide +kernel
theorem al_193 : alen 193 = 6 := by decide +kernel
theorem al_194 : alen 194 = 36 := by decide +kernel
theorem al_195 : alen 195 = 6 := by decide +kernel
theorem ia_177 : IA 177 := by unfold IA; decide +kernel
theorem ia_179 : IA 179 := by unfold IA; decide +kernel
theorem ia_180 : IA 180 := by unfold IA; decide +kernel
theorem ia_181 : IA 181 := by unfold IA; decide +kernel
theorem ia_182 : IA 182 := by unfold IA; decide +kernel
theorem ia_183 : IA 183 := by unfold IA; decide +kernel
theorem ia_184 : IA 184 := by unfold IA; decide +kernel
theorem ia_185 : IA 185 := by unfold IA; decide +kernel
theorem ia_186 : IA 186 := by unfold IA; decide +kernel
theorem ia_187 : IA 187 := by unfold IA; decide +kernel
theorem ia_188 : IA 188 := by unfold IA; decide +kernel
theorem ia_189 : IA 189 := by unfold IA; decide +kernel
theorem ia_190 : IA 190 := by unfold IA; decide +kernel
theorem ia_191 : IA 191 := by unfold IA; decide +kernel
theorem ia_192 : IA 192 := by unfold IA; decide +kernel
theorem ia_193 : IA 193 := by unfold IA; decide +kernel
theorem ia_194 : IA 194 := by unfold IA; decide +kernel
theorem ia_195 : IA 195 := by unfold IA; decide +kernel
theorem tbw_memT {w : Cond} (i : Nat) (h : tables_1[i]? = some w) (g : goodWord w = true) : w ∈ TBW := List.mem_filter.mpr ⟨List.mem_append_right _ (List.mem_of_getElem? h), g⟩
theorem tbw_memP {w : Cond} (i : Nat) (h : (k2_sels lw_privs)[i]? = some w) (g : goodWord w = true) : w ∈ TBW := List.mem_filter.mpr ⟨List.mem_append_left _ (List.mem_of_getElem? h), g⟩
theorem w_acn : Cond.native arraycopyName ∈ TBW := tbw_memT 296 (by decide +kernel) (by decide +kernel)
theorem w_acs : Cond.static arraycopyName ∈ TBW := tbw_memT 295 (by decide +kernel) (by decide +kernel)
theorem w_sys : Cond.initialized "java/lang/System" ∈ TBW := tbw_memT 10 (by decide +kernel) (by decide +kernel)
theorem w_math : Cond.initialized "java/lang/Math" ∈ TBW := tbw_memT 15 (by decide +kernel) (by decide +kernel)
theorem w_maxs : Cond.static Lib.Math.max.name ∈ TBW := tbw_memT 662 (by decide +kernel) (by decide +kernel)
theorem w_maxc : Cond.code Lib.Math.max.name Lib.Math.max.code 2 (some .int) ∈ TBW := tbw_memT 663 (by decide +kernel) (by decide +kernel)
theorem w_mins : Cond.static Lib.Math.min.name ∈ TBW := tbw_memT 489 (by decide +kernel) (by decide +kernel)
theorem w_minc : Cond.code Lib.Math.min.name Lib.Math.min.code 2 (some .int) ∈ TBW := tbw_memT 490 (by decide +kernel) (by decide +kernel)
/-! ===== the calls of the system, over the one layout ===== -/
def pI (r : Int32) (M : Mem) : Option Value → List LC → Mem → Prop := fun v lay' M' => v = some (.int r) ∧ lay' = LAY ∧ M' = M
def pV (M : Mem) : Option Value → List LC → Mem → Prop := fun v lay' M' => v = none ∧ lay' = LAY ∧ M' = M
def pA (x : WX) (r : Nat) (M : Mem) : Option Value → List LC → Mem → Prop := fun v lay' M' => v = some (.ref (x.2.2.1 + r)) ∧ lay' = LAY ∧ M' = M
theorem pI_of {v : Int32} {M : Mem} {q : Int32 × Mem} (h : some (v, M) = some q) : pI q.1 q.2 (some (.int v)) LAY M := by cases h; exact ⟨rfl, rfl, rfl⟩
theorem pI_ro {v r : Int32} {M : Mem} (h : some v = some r) : pI r M (some (.int v)) LAY M := by cases h; exact ⟨rfl, rfl, rfl⟩
theorem pV_of {M q : Mem} (h : some M = some q) : pV q none LAY M := by cases h; exact ⟨rfl, rfl, rfl⟩
theorem pA_ro {x : WX} {v r : Nat} {M : Mem} (h : some v = some r) : pA x r M (some (.ref (x.2.2.1 + v))) LAY M := by cases h; exact ⟨rfl, rfl, rfl⟩
/-- a name for a value -/
def lt {α β : Type} (a : α) (f : α → β) : β := f a
theorem of_lt {α β : Type} {a : α} {f : α → β} {r : β} (h : lt a f = r) : ∃ y, y = a ∧ f y = r := ⟨a, rfl, h⟩
theorem of_guard {β : Type} {c : Prop} {i : Decidable c} {X : Option β} {r : β} (h : (if c then none else X) = some r) : ¬ c ∧ X = some r := by
  by_cases hc : c
  · rw [if_pos hc] at h; cases h
  · rw [if_neg hc] at h; exact ⟨hc, h⟩
theorem of_ite {β : Type} {c : Prop} {i : Decidable c} {X Y : Option β} {r : β} (h : (if c then X else Y) = some r) : (c ∧ X = some r) ∨ (¬ c ∧ Y = some r) := by
  by_cases hc : c
  · rw [if_pos hc] at h; exact Or.inl ⟨hc, h⟩
  · rw [if_neg hc] at h; exact Or.inr ⟨hc, h⟩
theorem of_bind {α β : Type} {o : Option α} {f : α → Option β} {r : β} (h : o.bind f = some r) : ∃ a, o = some a ∧ f a = some r := by
  cases o with
  | none => cases h
  | some a => exact ⟨a, rfl, h⟩
theorem lvA_of {av : List Value} {L0 : List (Option Value)} (k : Nat) (h : L0 = lvA av ++ List.replicate k none) : ∀ (i : Nat) (v : Value), L0[i]? = some (some v) → (lvA av)[i]? = some (some v) := by
  intro i v hv
  subst h
  by_cases hl : i < (lvA av).length
  · rwa [List.getElem?_append_left hl] at hv
  · rw [List.getElem?_append_right (by omega)] at hv
    have := List.mem_of_getElem? hv
    have := List.eq_of_mem_replicate this
    cases this
theorem nz_of {v : Int32} (h : v = 0 ∨ v = 1) : narrow .boolean (.int v) = .int v := by
  rcases h with rfl | rfl <;> decide +kernel
theorem fz_of {v : Int32} (h : v = 0 ∨ v = 1) : narrow .boolean (.int v) = .int v ∧ fits .boolean (.int v) = true := by
  rcases h with rfl | rfl <;> decide +kernel
theorem fi_of (v : Int32) : narrow .int (.int v) = .int v ∧ fits .int (.int v) = true := ⟨rfl, rfl⟩
theorem sw_out {u : Int32} {n : Nat} (hn : n < 2 ^ 31) (h : ∀ c, c ≤ n → ¬ u = nI c) : u.toInt < 0 ∨ (n : Int) < u.toInt := by
  by_cases h0 : u < 0
  · exact Or.inl (by have := Int32.lt_iff_toInt_lt.mp h0; simpa using this)
  · obtain ⟨j, hj, rfl⟩ := nI_of h0
    rw [nI_toInt hj]
    by_cases hjn : j ≤ n
    · exact absurd rfl (h j hjn)
    · right; omega
def mx (u v : Int32) : Int32 := if u < v then v else u
def mn (u v : Int32) : Int32 := if v < u then v else u
section EV
variable {l : Launch} {x : WX} {cc : ByteArray} {own : String} {rt : Option FieldType} {nL d ca sa : Nat} {post : Option Value → List LC → Mem → Prop} {pc pc2 : Nat} {L : List (Option Value)} {st : List Value} {M M1 : Mem}
theorem e_drop {al : Bool} {lay : List LC} (i : Nat) {L2 : List (Option Value)} (h : L.set i none = L2) (k : Ev l x al cc own rt nL d ca sa post pc L2 st lay M) : Ev l x al cc own rt nL d ca sa post pc L st lay M := by
  refine e_less (fun j v hj => ?_) k
  subst h
  by_cases hij : i = j
  · subst hij
    by_cases hl : i < L.length
    · rw [List.getElem?_set_self hl] at hj; cases hj
    · rw [List.getElem?_eq_none (by rw [List.length_set]; omega)] at hj; cases hj
  · rwa [List.getElem?_set_ne hij] at hj
theorem e_put {al : Bool} {lay : List LC} {idx ci k a : Nat} {fs : List Nat} {v : Int32} {ty : FieldType} (hd : At cc pc 3 pc2 (.putfield idx)) (hf : FP own idx ci k false ty) (he : lay[a]? = some (0, ci, fs)) (hv : fs[k]? = some 0) (hn : narrow ty (.int v) = .int v ∧ fits ty (.int v) = true) (hM : M1 = um M a k v) (kk : Ev l x al cc own rt nL d ca sa post pc2 L st lay M1) : Ev l x al cc own rt nL d ca sa post pc L (.int v :: .ref (x.2.2.1 + a) :: st) lay M := by
  subst hM
  exact e_putI hd hf he hv hn kk
theorem e_ist {al : Bool} {lay : List LC} {a n : Nat} {i v : Int32} {fs : List Nat} (hd : At cc pc 1 pc2 .iastore) (he : lay[a]? = some (1, n, fs)) (hin : ¬ (i < 0 ∨ n ≤ i.toNatClampNeg)) (hM : M1 = um M a i.toNatClampNeg v) (kk : Ev l x al cc own rt nL d ca sa post pc2 L st lay M1) : Ev l x al cc own rt nL d ca sa post pc L (.int v :: .int i :: .ref (x.2.2.1 + a) :: st) lay M := by
  subst hM
  exact e_iast hd he hin kk
theorem e_zst {lay : List LC} {a n : Nat} {i v : Int32} {fs : List Nat} (hd : At cc pc 1 pc2 .bastore) (he : lay[a]? = some (2, n, fs)) (hin : ¬ (i < 0 ∨ n ≤ i.toNatClampNeg)) (hn : vp_nar .boolean v = v) (hM : M1 = um M a i.toNatClampNeg v) (kk : Ev l x false cc own rt nL d ca sa post pc2 L st lay M1) : Ev l x false cc own rt nL d ca sa post pc L (.int v :: .int i :: .ref (x.2.2.1 + a) :: st) lay M := by
  subst hM
  exact e_zast rfl hd he hin hn kk
theorem e_acopy {lay : List LC} {a b n1 n2 idx : Nat} {sp dp n : Int32} {f1 f2 : List Nat} (hd : At cc pc 3 pc2 (.invokestatic idx)) (hlk : Cond.methodLink own idx arraycopyName ∈ TBW) (hd1 : 1 ≤ d) (hea : lay[a]? = some (1, n1, f1)) (heb : lay[b]? = some (1, n2, f2)) (h1 : ¬ sp < 0) (h2 : ¬ dp < 0) (h3 : ¬ n < 0) (h4 : sp.toNatClampNeg + n.toNatClampNeg ≤ n1) (h5 : dp.toNatClampNeg + n.toNatClampNeg ≤ n2) (hst : (st.map fun v => v.category).sum ≤ 8) (hM : M1 = uc M b (va_cpy (M a) (M b) sp.toNatClampNeg dp.toNatClampNeg n.toNatClampNeg))
    (kk : Ev l x false cc own rt nL d ca sa post pc2 L st lay M1) : Ev l x false cc own rt nL d ca sa post pc L (.int n :: .int dp :: .ref (x.2.2.1 + b) :: .int sp :: .ref (x.2.2.1 + a) :: st) lay M := by
  subst hM
  obtain ⟨hd, rfl⟩ := hd
  intro p e s m args below meth c R Q H locs cells slots ls C hw hS hls g1 g2 hr
  obtain ⟨hx, hb, hml, hown, hts, hku, hfr, hlo, hB, hnm9⟩ := id C
  have hEa : (wsOf x lay M)[a]? = some (x.2.2.1 + a, .inl (x.2.1 0, n1, .inl (M a))) := ws_get hea
  have hEb : (wsOf x lay M)[b]? = some (x.2.2.1 + b, .inl (x.2.1 0, n2, .inl (M b))) := ws_get heb
  have e9 : nativeFrameWords "java/lang/System" "arraycopy" 5 + 11 ≤ 24 := by decide +kernel
  have e8 : 1 ≤ R.frames := by omega
  have e7 : (st.map fun v => v.category).sum + (nativeFrameWords "java/lang/System" "arraycopy" 5 + 11) ≤ R.locals := by omega
  refine va_copyi hx hb (hml.trans hls.1.symm) hown (hts _ hlk) (hts _ w_acn) (hts _ w_acs) (hts _ w_sys) hku.1 hw.1 hw.2.1 hS a b 0 0 hEa hEb rfl rfl rfl h1 h2 h3 h4 h5 (fun _ _ => rfl) e8 e7 hd (fun H1 locs1 hP2 hD2 hS2 => ?_)
  have e4 : ((x.2.2.1 + b, .inl (x.2.1 0, n2, .inl (va_cpy (M a) (M b) sp.toNatClampNeg dp.toNatClampNeg n.toNatClampNeg))) : Nat × va_E) = (x.2.2.1 + b, toE x (1, n2, f2) (va_cpy (M a) (M b) sp.toNatClampNeg dp.toNatClampNeg n.toNatClampNeg)) := rfl
  rw [e4, ws_upd heb] at hP2 hD2
  exact kk p e s m args below meth c R Q H1 locs1 cells slots ls C ⟨hP2, hD2, fun h => by cases h⟩ hS2 hls g1 g2 hr
theorem e_max {al : Bool} {lay : List LC} {idx : Nat} {u v : Int32} (hd : At cc pc 3 pc2 (.invokestatic idx)) (hlk : Cond.methodLink own idx Lib.Math.max.name ∈ TBW) (hd1 : 1 ≤ d) (hst : (st.map fun v => v.category).sum ≤ 8) (kk : Ev l x al cc own rt nL d ca sa post pc2 L (.int (mx u v) :: st) lay M) : Ev l x al cc own rt nL d ca sa post pc L (.int v :: .int u :: st) lay M := by
  obtain ⟨hd, rfl⟩ := hd
  intro p e s m args below meth c R Q H locs cells slots ls C hw hS hls g1 g2 hr
  obtain ⟨hx, hb, hml, hown, hts, hku, hfr, hlo, hB, hnm9⟩ := id C
  exact va_mmax hx hb (hml.trans hls.1.symm) hown (hts _ hlk) (hts _ w_maxs) (hts _ w_math) (hts _ w_maxc) (by omega) (by omega) (by omega) (by omega) hd (kk p e s m args below meth c R Q H locs cells slots ls C hw hS hls g1 g2 hr)
theorem e_min {al : Bool} {lay : List LC} {idx : Nat} {u v : Int32} (hd : At cc pc 3 pc2 (.invokestatic idx)) (hlk : Cond.methodLink own idx Lib.Math.min.name ∈ TBW) (hd1 : 1 ≤ d) (hst : (st.map fun v => v.category).sum ≤ 8) (kk : Ev l x al cc own rt nL d ca sa post pc2 L (.int (mn u v) :: st) lay M) : Ev l x al cc own rt nL d ca sa post pc L (.int v :: .int u :: st) lay M := by
  obtain ⟨hd, rfl⟩ := hd
  intro p e s m args below meth c R Q H locs cells slots ls C hw hS hls g1 g2 hr
  obtain ⟨hx, hb, hml, hown, hts, hku, hfr, hlo, hB, hnm9⟩ := id C
  exact va_mmin hx hb (hml.trans hls.1.symm) hown (hts _ hlk) (hts _ w_mins) (hts _ w_math) (hts _ w_minc) (by omega) (by omega) (by omega) (by omega) hd (kk p e s m args below meth c R Q H locs cells slots ls C hw hS hls g1 g2 hr)
theorem e_VI {st0 : List Value} (rest : List Value) {As : List Value} {idx n d2 nL2 : Nat} {y : MethodName} {cc2 : ByteArray} {rt2 : Option FieldType} {b ci : Nat} {fs : List Nat} {q : vw_C} {r : Int32} (hd : At cc pc 3 pc2 (.invokevirtual idx)) (co : CO y cc2 nL2 rt2 n) (hlk : Cond.methodLink own idx y ∈ TBW ∧ Cond.instanceMethod y ∈ TBW ∧ Cond.selects y.cls y y ∈ TBW) (he : LAY[b]? = some (0, ci, fs)) (hq : vwCl[ci]? = some q) (hqy : q.1 = y.cls) (hM : Mt l x false y cc2 nL2 rt2 d2 0 0 (.ref (x.2.2.1 + b) :: As) LAY M (pI r M1)) (hn : As.length = n) (hdd : d2 + 1 ≤ d ∧ nL2 ≤ 13) (hrs : (rest.map fun v => v.category).sum ≤ 8) (hst : st0 = As.reverse ++ .ref (x.2.2.1 + b) :: rest) (k : Ev l x false cc own rt nL d ca sa post pc2 L (.int r :: rest) LAY M1) : Ev l x false cc own rt nL d ca sa post pc L st0 LAY M :=
  e_callV hd co hlk he hq hqy hM hn hdd hrs hst (fun v lay2 M2 hp => by obtain ⟨rfl, rfl, rfl⟩ := hp; exact k)
theorem e_VV {st0 : List Value} (rest : List Value) {As : List Value} {idx n d2 nL2 : Nat} {y : MethodName} {cc2 : ByteArray} {rt2 : Option FieldType} {b ci : Nat} {fs : List Nat} {q : vw_C} (hd : At cc pc 3 pc2 (.invokevirtual idx)) (co : CO y cc2 nL2 rt2 n) (hlk : Cond.methodLink own idx y ∈ TBW ∧ Cond.instanceMethod y ∈ TBW ∧ Cond.selects y.cls y y ∈ TBW) (he : LAY[b]? = some (0, ci, fs)) (hq : vwCl[ci]? = some q) (hqy : q.1 = y.cls) (hM : Mt l x false y cc2 nL2 rt2 d2 0 0 (.ref (x.2.2.1 + b) :: As) LAY M (pV M1)) (hn : As.length = n) (hdd : d2 + 1 ≤ d ∧ nL2 ≤ 13) (hrs : (rest.map fun v => v.category).sum ≤ 8) (hst : st0 = As.reverse ++ .ref (x.2.2.1 + b) :: rest) (k : Ev l x false cc own rt nL d ca sa post pc2 L (rest) LAY M1) : Ev l x false cc own rt nL d ca sa post pc L st0 LAY M :=
  e_callV hd co hlk he hq hqy hM hn hdd hrs hst (fun v lay2 M2 hp => by obtain ⟨rfl, rfl, rfl⟩ := hp; exact k)
theorem e_VA {st0 : List Value} (rest : List Value) {As : List Value} {idx n d2 nL2 : Nat} {y : MethodName} {cc2 : ByteArray} {rt2 : Option FieldType} {b ci : Nat} {fs : List Nat} {q : vw_C} {r : Nat} (hd : At cc pc 3 pc2 (.invokevirtual idx)) (co : CO y cc2 nL2 rt2 n) (hlk : Cond.methodLink own idx y ∈ TBW ∧ Cond.instanceMethod y ∈ TBW ∧ Cond.selects y.cls y y ∈ TBW) (he : LAY[b]? = some (0, ci, fs)) (hq : vwCl[ci]? = some q) (hqy : q.1 = y.cls) (hM : Mt l x false y cc2 nL2 rt2 d2 0 0 (.ref (x.2.2.1 + b) :: As) LAY M (pA x r M1)) (hn : As.length = n) (hdd : d2 + 1 ≤ d ∧ nL2 ≤ 13) (hrs : (rest.map fun v => v.category).sum ≤ 8) (hst : st0 = As.reverse ++ .ref (x.2.2.1 + b) :: rest) (k : Ev l x false cc own rt nL d ca sa post pc2 L (.ref (x.2.2.1 + r) :: rest) LAY M1) : Ev l x false cc own rt nL d ca sa post pc L st0 LAY M :=
  e_callV hd co hlk he hq hqy hM hn hdd hrs hst (fun v lay2 M2 hp => by obtain ⟨rfl, rfl, rfl⟩ := hp; exact k)
theorem e_SI {st0 : List Value} (rest : List Value) {As : List Value} {idx n d2 nL2 : Nat} {y : MethodName} {cc2 : ByteArray} {rt2 : Option FieldType} {r : Int32} (hd : At cc pc 3 pc2 (.invokestatic idx)) (co : CO y cc2 nL2 rt2 n) (hlk : Cond.methodLink own idx y ∈ TBW ∧ Cond.static y ∈ TBW) (hM : Mt l x false y cc2 nL2 rt2 d2 0 0 (As) LAY M (pI r M1)) (hn : As.length = n) (hdd : d2 + 1 ≤ d ∧ nL2 ≤ 13) (hrs : (rest.map fun v => v.category).sum ≤ 8) (hst : st0 = As.reverse ++ rest) (k : Ev l x false cc own rt nL d ca sa post pc2 L (.int r :: rest) LAY M1) : Ev l x false cc own rt nL d ca sa post pc L st0 LAY M :=
  e_callS hd co hlk hM hn hdd hrs hst (fun v lay2 M2 hp => by obtain ⟨rfl, rfl, rfl⟩ := hp; exact k)
theorem e_SV {st0 : List Value} (rest : List Value) {As : List Value} {idx n d2 nL2 : Nat} {y : MethodName} {cc2 : ByteArray} {rt2 : Option FieldType} (hd : At cc pc 3 pc2 (.invokestatic idx)) (co : CO y cc2 nL2 rt2 n) (hlk : Cond.methodLink own idx y ∈ TBW ∧ Cond.static y ∈ TBW) (hM : Mt l x false y cc2 nL2 rt2 d2 0 0 (As) LAY M (pV M1)) (hn : As.length = n) (hdd : d2 + 1 ≤ d ∧ nL2 ≤ 13) (hrs : (rest.map fun v => v.category).sum ≤ 8) (hst : st0 = As.reverse ++ rest) (k : Ev l x false cc own rt nL d ca sa post pc2 L (rest) LAY M1) : Ev l x false cc own rt nL d ca sa post pc L st0 LAY M :=
  e_callS hd co hlk hM hn hdd hrs hst (fun v lay2 M2 hp => by obtain ⟨rfl, rfl, rfl⟩ := hp; exact k)
theorem e_SA {st0 : List Value} (rest : List Value) {As : List Value} {idx n d2 nL2 : Nat} {y : MethodName} {cc2 : ByteArray} {rt2 : Option FieldType} {r : Nat} (hd : At cc pc 3 pc2 (.invokestatic idx)) (co : CO y cc2 nL2 rt2 n) (hlk : Cond.methodLink own idx y ∈ TBW ∧ Cond.static y ∈ TBW) (hM : Mt l x false y cc2 nL2 rt2 d2 0 0 (As) LAY M (pA x r M1)) (hn : As.length = n) (hdd : d2 + 1 ≤ d ∧ nL2 ≤ 13) (hrs : (rest.map fun v => v.category).sum ≤ 8) (hst : st0 = As.reverse ++ rest) (k : Ev l x false cc own rt nL d ca sa post pc2 L (.ref (x.2.2.1 + r) :: rest) LAY M1) : Ev l x false cc own rt nL d ca sa post pc L st0 LAY M :=
  e_callS hd co hlk hM hn hdd hrs hst (fun v lay2 M2 hp => by obtain ⟨rfl, rfl, rfl⟩ := hp; exact k)
theorem e_NI {st0 : List Value} (rest : List Value) {As : List Value} {idx n d2 nL2 : Nat} {y : MethodName} {cc2 : ByteArray} {rt2 : Option FieldType} {host : String} {r : Int32} (hd : At cc pc 3 pc2 (.invokestatic idx)) (co : CO y cc2 nL2 rt2 n) (hlk : (own, idx, y, host) ∈ NWT ∧ Cond.static y ∈ TBW) (hM : Mt l x false y cc2 nL2 rt2 d2 0 0 (As) LAY M (pI r M1)) (hn : As.length = n) (hdd : d2 + 1 ≤ d ∧ nL2 ≤ 13) (hrs : (rest.map fun v => v.category).sum ≤ 8) (hst : st0 = As.reverse ++ rest) (k : Ev l x false cc own rt nL d ca sa post pc2 L (.int r :: rest) LAY M1) : Ev l x false cc own rt nL d ca sa post pc L st0 LAY M :=
  e_callSN hd co hlk hM hn hdd hrs hst (fun v lay2 M2 hp => by obtain ⟨rfl, rfl, rfl⟩ := hp; exact k)
theorem e_NV {st0 : List Value} (rest : List Value) {As : List Value} {idx n d2 nL2 : Nat} {y : MethodName} {cc2 : ByteArray} {rt2 : Option FieldType} {host : String} (hd : At cc pc 3 pc2 (.invokestatic idx)) (co : CO y cc2 nL2 rt2 n) (hlk : (own, idx, y, host) ∈ NWT ∧ Cond.static y ∈ TBW) (hM : Mt l x false y cc2 nL2 rt2 d2 0 0 (As) LAY M (pV M1)) (hn : As.length = n) (hdd : d2 + 1 ≤ d ∧ nL2 ≤ 13) (hrs : (rest.map fun v => v.category).sum ≤ 8) (hst : st0 = As.reverse ++ rest) (k : Ev l x false cc own rt nL d ca sa post pc2 L (rest) LAY M1) : Ev l x false cc own rt nL d ca sa post pc L st0 LAY M :=
  e_callSN hd co hlk hM hn hdd hrs hst (fun v lay2 M2 hp => by obtain ⟨rfl, rfl, rfl⟩ := hp; exact k)
theorem e_NA {st0 : List Value} (rest : List Value) {As : List Value} {idx n d2 nL2 : Nat} {y : MethodName} {cc2 : ByteArray} {rt2 : Option FieldType} {host : String} {r : Nat} (hd : At cc pc 3 pc2 (.invokestatic idx)) (co : CO y cc2 nL2 rt2 n) (hlk : (own, idx, y, host) ∈ NWT ∧ Cond.static y ∈ TBW) (hM : Mt l x false y cc2 nL2 rt2 d2 0 0 (As) LAY M (pA x r M1)) (hn : As.length = n) (hdd : d2 + 1 ≤ d ∧ nL2 ≤ 13) (hrs : (rest.map fun v => v.category).sum ≤ 8) (hst : st0 = As.reverse ++ rest) (k : Ev l x false cc own rt nL d ca sa post pc2 L (.ref (x.2.2.1 + r) :: rest) LAY M1) : Ev l x false cc own rt nL d ca sa post pc L st0 LAY M :=
  e_callSN hd co hlk hM hn hdd hrs hst (fun v lay2 M2 hp => by obtain ⟨rfl, rfl, rfl⟩ := hp; exact k)
end EV
