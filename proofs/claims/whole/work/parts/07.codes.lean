/-! each method's code among the words -/
set_option maxRecDepth 200000 in
theorem zm_0 : lw_tbl[169]? = some (z_wCode 0) := rfl
set_option maxRecDepth 200000 in
theorem zm_1 : lw_tbl[828]? = some (z_wCode 1) := rfl
set_option maxRecDepth 200000 in
theorem zm_2 : lw_tbl[832]? = some (z_wCode 2) := rfl
set_option maxRecDepth 200000 in
theorem zm_3 : lw_tbl[848]? = some (z_wCode 3) := rfl
set_option maxRecDepth 200000 in
theorem zm_4 : lw_tbl[837]? = some (z_wCode 4) := rfl
set_option maxRecDepth 200000 in
theorem zm_5 : lw_tbl[841]? = some (z_wCode 5) := rfl
set_option maxRecDepth 200000 in
theorem zm_6 : lw_tbl[844]? = some (z_wCode 6) := rfl
set_option maxRecDepth 200000 in
theorem zm_7 : lw_tbl[194]? = some (z_wCode 7) := rfl
set_option maxRecDepth 200000 in
theorem zm_8 : lw_tbl[907]? = some (z_wCode 8) := rfl
set_option maxRecDepth 200000 in
theorem zm_9 : lw_tbl[946]? = some (z_wCode 9) := rfl
set_option maxRecDepth 200000 in
theorem zm_10 : lw_tbl[911]? = some (z_wCode 10) := rfl
set_option maxRecDepth 200000 in
theorem zm_11 : lw_tbl[915]? = some (z_wCode 11) := rfl
set_option maxRecDepth 200000 in
theorem zm_12 : lw_tbl[919]? = some (z_wCode 12) := rfl
set_option maxRecDepth 200000 in
theorem zm_13 : lw_tbl[923]? = some (z_wCode 13) := rfl
set_option maxRecDepth 200000 in
theorem zm_14 : lw_tbl[927]? = some (z_wCode 14) := rfl
set_option maxRecDepth 200000 in
theorem zm_15 : lw_tbl[936]? = some (z_wCode 15) := rfl
set_option maxRecDepth 200000 in
theorem zm_16 : lw_tbl[932]? = some (z_wCode 16) := rfl
set_option maxRecDepth 200000 in
theorem zm_17 : lw_tbl[145]? = some (z_wCode 17) := rfl
set_option maxRecDepth 200000 in
theorem zm_18 : lw_tbl[614]? = some (z_wCode 18) := rfl
set_option maxRecDepth 200000 in
theorem zm_19 : lw_tbl[814]? = some (z_wCode 19) := rfl
set_option maxRecDepth 200000 in
theorem zm_20 : lw_tbl[625]? = some (z_wCode 20) := rfl
set_option maxRecDepth 200000 in
theorem zm_21 : lw_tbl[632]? = some (z_wCode 21) := rfl
set_option maxRecDepth 200000 in
theorem zm_22 : lw_tbl[640]? = some (z_wCode 22) := rfl
set_option maxRecDepth 200000 in
theorem zm_23 : lw_tbl[648]? = some (z_wCode 23) := rfl
set_option maxRecDepth 200000 in
theorem zm_24 : lw_tbl[644]? = some (z_wCode 24) := rfl
set_option maxRecDepth 200000 in
theorem zm_25 : lw_tbl[231]? = some (z_wCode 25) := rfl
set_option maxRecDepth 200000 in
theorem zm_26 : lw_tbl[700]? = some (z_wCode 26) := rfl
set_option maxRecDepth 200000 in
theorem zm_27 : lw_tbl[714]? = some (z_wCode 27) := rfl
set_option maxRecDepth 200000 in
theorem zm_28 : lw_tbl[718]? = some (z_wCode 28) := rfl
set_option maxRecDepth 200000 in
theorem zm_29 : lw_tbl[308]? = some (z_wCode 29) := rfl
set_option maxRecDepth 200000 in
theorem zm_30 : lw_tbl[867]? = some (z_wCode 30) := rfl
set_option maxRecDepth 200000 in
theorem zm_31 : lw_tbl[871]? = some (z_wCode 31) := rfl
set_option maxRecDepth 200000 in
theorem zm_32 : lw_tbl[890]? = some (z_wCode 32) := rfl
set_option maxRecDepth 200000 in
theorem zm_33 : lw_tbl[875]? = some (z_wCode 33) := rfl
set_option maxRecDepth 200000 in
theorem zm_34 : lw_tbl[881]? = some (z_wCode 34) := rfl
set_option maxRecDepth 200000 in
theorem zm_35 : lw_tbl[884]? = some (z_wCode 35) := rfl
set_option maxRecDepth 200000 in
theorem zm_36 : lw_tbl[263]? = some (z_wCode 36) := rfl
set_option maxRecDepth 200000 in
theorem zm_37 : lw_tbl[760]? = some (z_wCode 37) := rfl
set_option maxRecDepth 200000 in
theorem zm_38 : lw_tbl[764]? = some (z_wCode 38) := rfl
set_option maxRecDepth 200000 in
theorem zm_39 : lw_tbl[768]? = some (z_wCode 39) := rfl
set_option maxRecDepth 200000 in
theorem zm_40 : lw_tbl[773]? = some (z_wCode 40) := rfl
set_option maxRecDepth 200000 in
theorem zm_41 : lw_tbl[779]? = some (z_wCode 41) := rfl
set_option maxRecDepth 200000 in
theorem zm_42 : lw_tbl[132]? = some (z_wCode 42) := rfl
set_option maxRecDepth 200000 in
theorem zm_43 : lw_tbl[461]? = some (z_wCode 43) := rfl
set_option maxRecDepth 200000 in
theorem zm_44 : lw_tbl[470]? = some (z_wCode 44) := rfl
set_option maxRecDepth 200000 in
theorem zm_45 : lw_tbl[477]? = some (z_wCode 45) := rfl
set_option maxRecDepth 200000 in
theorem zm_46 : lw_tbl[489]? = some (z_wCode 46) := rfl
set_option maxRecDepth 200000 in
theorem zm_47 : lw_tbl[497]? = some (z_wCode 47) := rfl
set_option maxRecDepth 200000 in
theorem zm_48 : lw_tbl[501]? = some (z_wCode 48) := rfl
set_option maxRecDepth 200000 in
theorem zm_49 : lw_tbl[493]? = some (z_wCode 49) := rfl
set_option maxRecDepth 200000 in
theorem zm_50 : lw_tbl[578]? = some (z_wCode 50) := rfl
set_option maxRecDepth 200000 in
theorem zm_51 : lw_tbl[582]? = some (z_wCode 51) := rfl
set_option maxRecDepth 200000 in
theorem zm_52 : lw_tbl[283]? = some (z_wCode 52) := rfl
set_option maxRecDepth 200000 in
theorem zm_53 : lw_tbl[799]? = some (z_wCode 53) := rfl
set_option maxRecDepth 200000 in
theorem zm_54 : lw_tbl[803]? = some (z_wCode 54) := rfl
set_option maxRecDepth 200000 in
theorem zm_55 : lw_tbl[819]? = some (z_wCode 55) := rfl
set_option maxRecDepth 200000 in
theorem zm_56 : lw_tbl[809]? = some (z_wCode 56) := rfl
set_option maxRecDepth 200000 in
theorem zm_57 : lw_tbl[108]? = some (z_wCode 57) := rfl
set_option maxRecDepth 200000 in
theorem zm_58 : lw_tbl[441]? = some (z_wCode 58) := rfl
set_option maxRecDepth 200000 in
theorem zm_59 : lw_tbl[513]? = some (z_wCode 59) := rfl
set_option maxRecDepth 200000 in
theorem zm_60 : lw_tbl[457]? = some (z_wCode 60) := rfl
set_option maxRecDepth 200000 in
theorem zm_61 : lw_tbl[466]? = some (z_wCode 61) := rfl
set_option maxRecDepth 200000 in
theorem zm_62 : lw_tbl[485]? = some (z_wCode 62) := rfl
set_option maxRecDepth 200000 in
theorem zm_63 : lw_tbl[481]? = some (z_wCode 63) := rfl
set_option maxRecDepth 200000 in
theorem zm_64 : lw_tbl[554]? = some (z_wCode 64) := rfl
set_option maxRecDepth 200000 in
theorem zm_65 : lw_tbl[449]? = some (z_wCode 65) := rfl
set_option maxRecDepth 200000 in
theorem zm_66 : lw_tbl[565]? = some (z_wCode 66) := rfl
set_option maxRecDepth 200000 in
theorem zm_67 : lw_tbl[603]? = some (z_wCode 67) := rfl
set_option maxRecDepth 200000 in
theorem zm_68 : lw_tbl[753]? = some (z_wCode 68) := rfl
set_option maxRecDepth 200000 in
theorem zm_69 : lw_tbl[594]? = some (z_wCode 69) := rfl
set_option maxRecDepth 200000 in
theorem zm_70 : lw_tbl[636]? = some (z_wCode 70) := rfl
set_option maxRecDepth 200000 in
theorem zm_71 : lw_tbl[676]? = some (z_wCode 71) := rfl
set_option maxRecDepth 200000 in
theorem zm_72 : lw_tbl[654]? = some (z_wCode 72) := rfl
set_option maxRecDepth 200000 in
theorem zm_73 : lw_tbl[620]? = some (z_wCode 73) := rfl
set_option maxRecDepth 200000 in
theorem zm_74 : lw_tbl[245]? = some (z_wCode 74) := rfl
set_option maxRecDepth 200000 in
theorem zm_75 : lw_tbl[683]? = some (z_wCode 75) := rfl
set_option maxRecDepth 200000 in
theorem zm_76 : lw_tbl[687]? = some (z_wCode 76) := rfl
set_option maxRecDepth 200000 in
theorem zm_77 : lw_tbl[691]? = some (z_wCode 77) := rfl
set_option maxRecDepth 200000 in
theorem zm_78 : lw_tbl[696]? = some (z_wCode 78) := rfl
set_option maxRecDepth 200000 in
theorem zm_79 : lw_tbl[707]? = some (z_wCode 79) := rfl
set_option maxRecDepth 200000 in
theorem zm_80 : lw_tbl[209]? = some (z_wCode 80) := rfl
set_option maxRecDepth 200000 in
theorem zm_81 : lw_tbl[376]? = some (z_wCode 81) := rfl
set_option maxRecDepth 200000 in
theorem zm_82 : lw_tbl[391]? = some (z_wCode 82) := rfl
set_option maxRecDepth 200000 in
theorem zm_83 : lw_tbl[403]? = some (z_wCode 83) := rfl
set_option maxRecDepth 200000 in
theorem zm_84 : lw_tbl[412]? = some (z_wCode 84) := rfl
set_option maxRecDepth 200000 in
theorem zm_85 : lw_tbl[436]? = some (z_wCode 85) := rfl
set_option maxRecDepth 200000 in
theorem zm_86 : lw_tbl[445]? = some (z_wCode 86) := rfl
set_option maxRecDepth 200000 in
theorem zm_87 : lw_tbl[97]? = some (z_wCode 87) := rfl
set_option maxRecDepth 200000 in
theorem zm_88 : lw_tbl[361]? = some (z_wCode 88) := rfl
set_option maxRecDepth 200000 in
theorem zm_89 : lw_tbl[365]? = some (z_wCode 89) := rfl
set_option maxRecDepth 200000 in
theorem zm_90 : lw_tbl[383]? = some (z_wCode 90) := rfl
set_option maxRecDepth 200000 in
theorem zm_91 : lw_tbl[395]? = some (z_wCode 91) := rfl
set_option maxRecDepth 200000 in
theorem zm_92 : lw_tbl[407]? = some (z_wCode 92) := rfl
set_option maxRecDepth 200000 in
theorem zm_93 : lw_tbl[417]? = some (z_wCode 93) := rfl
set_option maxRecDepth 200000 in
theorem zm_94 : lw_tbl[421]? = some (z_wCode 94) := rfl
set_option maxRecDepth 200000 in
theorem zm_95 : lw_tbl[425]? = some (z_wCode 95) := rfl
set_option maxRecDepth 200000 in
theorem zm_96 : lw_tbl[505]? = some (z_wCode 96) := rfl
set_option maxRecDepth 200000 in
theorem zm_97 : lw_tbl[524]? = some (z_wCode 97) := rfl
set_option maxRecDepth 200000 in
theorem zm_98 : lw_tbl[528]? = some (z_wCode 98) := rfl
set_option maxRecDepth 200000 in
theorem zm_99 : lw_tbl[534]? = some (z_wCode 99) := rfl
set_option maxRecDepth 200000 in
theorem zm_100 : lw_tbl[539]? = some (z_wCode 100) := rfl
set_option maxRecDepth 200000 in
theorem zm_101 : lw_tbl[543]? = some (z_wCode 101) := rfl
set_option maxRecDepth 200000 in
theorem zm_102 : lw_tbl[547]? = some (z_wCode 102) := rfl
set_option maxRecDepth 200000 in
theorem zm_103 : lw_tbl[558]? = some (z_wCode 103) := rfl
set_option maxRecDepth 200000 in
theorem zm_104 : lw_tbl[570]? = some (z_wCode 104) := rfl
set_option maxRecDepth 200000 in
theorem zm_105 : lw_tbl[586]? = some (z_wCode 105) := rfl
set_option maxRecDepth 200000 in
theorem zm_106 : lw_tbl[610]? = some (z_wCode 106) := rfl
set_option maxRecDepth 200000 in
theorem zm_107 : lw_tbl[659]? = some (z_wCode 107) := rfl
set_option maxRecDepth 200000 in
theorem zm_108 : lw_tbl[663]? = some (z_wCode 108) := rfl
set_option maxRecDepth 200000 in
theorem zm_109 : lw_tbl[672]? = some (z_wCode 109) := rfl
set_option maxRecDepth 200000 in
theorem zm_110 : lw_tbl[680]? = some (z_wCode 110) := rfl
set_option maxRecDepth 200000 in
theorem zm_111 : lw_tbl[737]? = some (z_wCode 111) := rfl
set_option maxRecDepth 200000 in
theorem zm_112 : lw_tbl[742]? = some (z_wCode 112) := rfl
set_option maxRecDepth 200000 in
theorem zm_113 : lw_tbl[757]? = some (z_wCode 113) := rfl
set_option maxRecDepth 200000 in
theorem zm_114 : lw_tbl[791]? = some (z_wCode 114) := rfl
set_option maxRecDepth 200000 in
theorem zm_115 : lw_tbl[796]? = some (z_wCode 115) := rfl
set_option maxRecDepth 200000 in
theorem zm_116 : lw_tbl[825]? = some (z_wCode 116) := rfl
set_option maxRecDepth 200000 in
theorem zm_117 : lw_tbl[852]? = some (z_wCode 117) := rfl
set_option maxRecDepth 200000 in
theorem zm_118 : lw_tbl[864]? = some (z_wCode 118) := rfl
set_option maxRecDepth 200000 in
theorem zm_119 : lw_tbl[898]? = some (z_wCode 119) := rfl
set_option maxRecDepth 200000 in
theorem zm_120 : lw_tbl[942]? = some (z_wCode 120) := rfl
set_option maxRecDepth 200000 in
theorem zm_121 : lw_tbl[372]? = some (z_wCode 121) := rfl
set_option maxRecDepth 200000 in
theorem zm_122 : lw_tbl[368]? = some (z_wCode 122) := rfl
set_option maxRecDepth 200000 in
theorem zm_123 : lw_tbl[432]? = some (z_wCode 123) := rfl
set_option maxRecDepth 200000 in
theorem zm_124 : lw_tbl[860]? = some (z_wCode 124) := rfl
set_option maxRecDepth 200000 in
theorem zm_125 : lw_tbl[901]? = some (z_wCode 125) := rfl
set_option maxRecDepth 200000 in
theorem zm_126 : lw_tbl[387]? = some (z_wCode 126) := rfl
set_option maxRecDepth 200000 in
theorem zm_127 : lw_tbl[399]? = some (z_wCode 127) := rfl
set_option maxRecDepth 200000 in
theorem zm_128 : lw_tbl[429]? = some (z_wCode 128) := rfl
set_option maxRecDepth 200000 in
theorem zm_129 : lw_tbl[509]? = some (z_wCode 129) := rfl
set_option maxRecDepth 200000 in
theorem zm_130 : lw_tbl[590]? = some (z_wCode 130) := rfl
set_option maxRecDepth 200000 in
theorem zm_131 : lw_tbl[745]? = some (z_wCode 131) := rfl
set_option maxRecDepth 200000 in
theorem zm_132 : lw_tbl[517]? = some (z_wCode 132) := rfl
set_option maxRecDepth 200000 in
theorem zm_133 : lw_tbl[550]? = some (z_wCode 133) := rfl
set_option maxRecDepth 200000 in
theorem zm_134 : lw_tbl[561]? = some (z_wCode 134) := rfl
set_option maxRecDepth 200000 in
theorem zm_135 : lw_tbl[574]? = some (z_wCode 135) := rfl
set_option maxRecDepth 200000 in
theorem zm_136 : lw_tbl[666]? = some (z_wCode 136) := rfl
set_option maxRecDepth 200000 in
theorem zm_137 : lw_tbl[856]? = some (z_wCode 137) := rfl
set_option maxRecDepth 200000 in
theorem zm_138 : lw_tbl[453]? = some (z_wCode 138) := rfl
set_option maxRecDepth 200000 in
theorem zm_139 : lw_tbl[749]? = some (z_wCode 139) := rfl
set_option maxRecDepth 200000 in
theorem zm_140 : lw_tbl[628]? = some (z_wCode 140) := rfl
set_option maxRecDepth 200000 in
theorem zm_141 : lw_tbl[710]? = some (z_wCode 141) := rfl
set_option maxRecDepth 200000 in
theorem zm_142 : lw_tbl[733]? = some (z_wCode 142) := rfl
set_option maxRecDepth 200000 in
theorem zm_143 : lw_tbl[951]? = some (z_wCode 143) := rfl
set_option maxRecDepth 200000 in
theorem zm_144 : lw_tbl[1055]? = some (z_wCode 144) := rfl
set_option maxRecDepth 200000 in
theorem zm_145 : lw_tbl[1066]? = some (z_wCode 145) := rfl
set_option maxRecDepth 200000 in
theorem zm_146 : lw_tbl[1099]? = some (z_wCode 146) := rfl
set_option maxRecDepth 200000 in
theorem zm_147 : lw_tbl[1062]? = some (z_wCode 147) := rfl
set_option maxRecDepth 200000 in
theorem zm_148 : lw_tbl[1059]? = some (z_wCode 148) := rfl
set_option maxRecDepth 200000 in
theorem zm_149 : lw_tbl[1070]? = some (z_wCode 149) := rfl
set_option maxRecDepth 200000 in
theorem zm_150 : lw_tbl[1078]? = some (z_wCode 150) := rfl
set_option maxRecDepth 200000 in
theorem zm_151 : lw_tbl[1074]? = some (z_wCode 151) := rfl
set_option maxRecDepth 200000 in
theorem zm_152 : lw_tbl[1082]? = some (z_wCode 152) := rfl
set_option maxRecDepth 200000 in
theorem zm_153 : lw_tbl[1087]? = some (z_wCode 153) := rfl
set_option maxRecDepth 200000 in
theorem zm_154 : lw_tbl[1091]? = some (z_wCode 154) := rfl
set_option maxRecDepth 200000 in
theorem zm_155 : lw_tbl[1102]? = some (z_wCode 155) := rfl
set_option maxRecDepth 200000 in
theorem zm_156 : lw_tbl[1139]? = some (z_wCode 156) := rfl
set_option maxRecDepth 200000 in
theorem zm_157 : lw_tbl[1143]? = some (z_wCode 157) := rfl
set_option maxRecDepth 200000 in
theorem zm_158 : lw_tbl[1107]? = some (z_wCode 158) := rfl
set_option maxRecDepth 200000 in
theorem zm_159 : lw_tbl[1131]? = some (z_wCode 159) := rfl
set_option maxRecDepth 200000 in
theorem zm_160 : lw_tbl[1127]? = some (z_wCode 160) := rfl
set_option maxRecDepth 200000 in
theorem zm_161 : lw_tbl[1115]? = some (z_wCode 161) := rfl
set_option maxRecDepth 200000 in
theorem zm_162 : lw_tbl[1119]? = some (z_wCode 162) := rfl
set_option maxRecDepth 200000 in
theorem zm_163 : lw_tbl[1123]? = some (z_wCode 163) := rfl
set_option maxRecDepth 200000 in
theorem zm_164 : lw_tbl[1111]? = some (z_wCode 164) := rfl
set_option maxRecDepth 200000 in
theorem zm_165 : lw_tbl[1175]? = some (z_wCode 165) := rfl
set_option maxRecDepth 200000 in
theorem zm_166 : lw_tbl[1095]? = some (z_wCode 166) := rfl
set_option maxRecDepth 200000 in
theorem zm_167 : lw_tbl[1135]? = some (z_wCode 167) := rfl
set_option maxRecDepth 200000 in
theorem zm_168 : lw_tbl[1147]? = some (z_wCode 168) := rfl
set_option maxRecDepth 200000 in
theorem zm_169 : lw_tbl[1151]? = some (z_wCode 169) := rfl
set_option maxRecDepth 200000 in
theorem zm_170 : lw_tbl[1155]? = some (z_wCode 170) := rfl
set_option maxRecDepth 200000 in
theorem zm_171 : lw_tbl[1159]? = some (z_wCode 171) := rfl
set_option maxRecDepth 200000 in
theorem zm_172 : lw_tbl[1163]? = some (z_wCode 172) := rfl
set_option maxRecDepth 200000 in
theorem zm_173 : lw_tbl[1171]? = some (z_wCode 173) := rfl
set_option maxRecDepth 200000 in
theorem zm_174 : lw_tbl[1167]? = some (z_wCode 174) := rfl
set_option maxRecDepth 200000 in
theorem zm_175 : lw_tbl[1179]? = some (z_wCode 175) := rfl
set_option maxRecDepth 200000 in
theorem zm_176 : lw_tbl[1187]? = some (z_wCode 176) := rfl
set_option maxRecDepth 200000 in
theorem zm_177 : lw_tbl[1183]? = some (z_wCode 177) := rfl
set_option maxRecDepth 200000 in
theorem zm_178 : lw_tbl[1195]? = some (z_wCode 178) := rfl
set_option maxRecDepth 200000 in
theorem zm_179 : lw_tbl[1191]? = some (z_wCode 179) := rfl
set_option maxRecDepth 200000 in
theorem zm_180 : lw_tbl[1214]? = some (z_wCode 180) := rfl
set_option maxRecDepth 200000 in
theorem zm_181 : lw_tbl[1211]? = some (z_wCode 181) := rfl
set_option maxRecDepth 200000 in
theorem zm_182 : lw_tbl[1207]? = some (z_wCode 182) := rfl
set_option maxRecDepth 200000 in
theorem zm_183 : lw_tbl[1203]? = some (z_wCode 183) := rfl
set_option maxRecDepth 200000 in
theorem zm_184 : lw_tbl[1199]? = some (z_wCode 184) := rfl
set_option maxRecDepth 200000 in
theorem zm_185 : lw_tbl[1218]? = some (z_wCode 185) := rfl
set_option maxRecDepth 200000 in
theorem zm_186 : lw_tbl[1222]? = some (z_wCode 186) := rfl
set_option maxRecDepth 200000 in
theorem zm_187 : lw_tbl[1226]? = some (z_wCode 187) := rfl
set_option maxRecDepth 200000 in
theorem zm_188 : lw_tbl[1257]? = some (z_wCode 188) := rfl
set_option maxRecDepth 200000 in
theorem zm_189 : lw_tbl[1245]? = some (z_wCode 189) := rfl
set_option maxRecDepth 200000 in
theorem zm_190 : lw_tbl[1241]? = some (z_wCode 190) := rfl
set_option maxRecDepth 200000 in
theorem zm_191 : lw_tbl[1249]? = some (z_wCode 191) := rfl
set_option maxRecDepth 200000 in
theorem zm_192 : lw_tbl[1253]? = some (z_wCode 192) := rfl
set_option maxRecDepth 200000 in
theorem zm_193 : lw_tbl[1237]? = some (z_wCode 193) := rfl
set_option maxRecDepth 200000 in
theorem zm_194 : lw_tbl[1233]? = some (z_wCode 194) := rfl
set_option maxRecDepth 200000 in
theorem zm_195 : lw_tbl[1230]? = some (z_wCode 195) := rfl
set_option maxRecDepth 200000 in
theorem zm_196 : lw_tbl[1261]? = some (z_wCode 196) := rfl
set_option maxRecDepth 200000 in
theorem zm_197 : lw_tbl[1269]? = some (z_wCode 197) := rfl
set_option maxRecDepth 200000 in
theorem zm_198 : lw_tbl[1265]? = some (z_wCode 198) := rfl
set_option maxRecDepth 200000 in
theorem zm_199 : lw_tbl[1281]? = some (z_wCode 199) := rfl
set_option maxRecDepth 200000 in
theorem zm_200 : lw_tbl[1293]? = some (z_wCode 200) := rfl
set_option maxRecDepth 200000 in
theorem zm_201 : lw_tbl[1289]? = some (z_wCode 201) := rfl
set_option maxRecDepth 200000 in
theorem zm_202 : lw_tbl[1285]? = some (z_wCode 202) := rfl
set_option maxRecDepth 200000 in
theorem zm_203 : lw_tbl[1277]? = some (z_wCode 203) := rfl
set_option maxRecDepth 200000 in
theorem zm_204 : lw_tbl[1273]? = some (z_wCode 204) := rfl
set_option maxRecDepth 200000 in
theorem zm_205 : lw_tbl[1297]? = some (z_wCode 205) := rfl
set_option maxRecDepth 200000 in
theorem zm_206 : lw_tbl[1305]? = some (z_wCode 206) := rfl
set_option maxRecDepth 200000 in
theorem zm_207 : lw_tbl[1301]? = some (z_wCode 207) := rfl
set_option maxRecDepth 200000 in
theorem zm_208 : lw_tbl[1313]? = some (z_wCode 208) := rfl
set_option maxRecDepth 200000 in
theorem zm_209 : lw_tbl[1317]? = some (z_wCode 209) := rfl
set_option maxRecDepth 200000 in
theorem zm_210 : lw_tbl[1309]? = some (z_wCode 210) := rfl
set_option maxRecDepth 200000 in
theorem zm_211 : lw_tbl[1321]? = some (z_wCode 211) := rfl
set_option maxRecDepth 200000 in
theorem zm_212 : lw_tbl[1330]? = some (z_wCode 212) := rfl
set_option maxRecDepth 200000 in
theorem zm_213 : lw_tbl[1334]? = some (z_wCode 213) := rfl
set_option maxRecDepth 200000 in
theorem zm_214 : lw_tbl[1338]? = some (z_wCode 214) := rfl
set_option maxRecDepth 200000 in
theorem zm_215 : lw_tbl[1326]? = some (z_wCode 215) := rfl
set_option maxRecDepth 200000 in
theorem zm_216 : lw_tbl[1345]? = some (z_wCode 216) := rfl
set_option maxRecDepth 200000 in
theorem zm_217 : lw_tbl[1353]? = some (z_wCode 217) := rfl
set_option maxRecDepth 200000 in
theorem zm_218 : lw_tbl[1357]? = some (z_wCode 218) := rfl
set_option maxRecDepth 200000 in
theorem zm_219 : lw_tbl[1349]? = some (z_wCode 219) := rfl
set_option maxRecDepth 200000 in
theorem zm_220 : lw_tbl[1361]? = some (z_wCode 220) := rfl
set_option maxRecDepth 200000 in
theorem zm_221 : lw_tbl[1342]? = some (z_wCode 221) := rfl
set_option maxRecDepth 200000 in
theorem zm_222 : lw_tbl[1365]? = some (z_wCode 222) := rfl
set_option maxRecDepth 200000 in
theorem zm_223 : lw_tbl[782]? = some (z_wCode 223) := rfl
set_option maxRecDepth 200000 in
theorem zm_224 : lw_tbl[894]? = some (z_wCode 224) := rfl
set_option maxRecDepth 200000 in
theorem zm_225 : lw_tbl[703]? = some (z_wCode 225) := rfl
set_option maxRecDepth 200000 in
theorem zm_226 : lw_tbl[379]? = some (z_wCode 226) := rfl
set_option maxRecDepth 200000 in
theorem zm_227 : lw_tbl[473]? = some (z_wCode 227) := rfl
set_option maxRecDepth 200000 in
theorem zm_228 : lw_tbl[721]? = some (z_wCode 228) := rfl
