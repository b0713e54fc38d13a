section
variable {l : Launch} {D : va_G} {cA : Nat → ClassId} {h0 : Nat} {ad : Ad_} {sh : Sh_} {P : Px_} {σ : St_}
theorem shl_0 : SHL[0]? = some (0, 11) := by decide +kernel
theorem shl_1 : SHL[1]? = some (0, 4) := by decide +kernel
theorem shl_2 : SHL[2]? = some (0, 2) := by decide +kernel
theorem shl_3 : SHL[3]? = some (0, 10) := by decide +kernel
theorem shl_4 : SHL[4]? = some (1, 1700) := by decide +kernel
theorem shl_5 : SHL[5]? = some (1, 1701) := by decide +kernel
theorem shl_6 : SHL[6]? = some (1, 1701) := by decide +kernel
theorem shl_7 : SHL[7]? = some (2, 1701) := by decide +kernel
theorem shl_8 : SHL[8]? = some (2, 6) := by decide +kernel
theorem shl_9 : SHL[9]? = some (2, 10) := by decide +kernel
theorem shl_10 : SHL[10]? = some (2, 9) := by decide +kernel
theorem shl_11 : SHL[11]? = some (1, 9) := by decide +kernel
theorem shl_12 : SHL[12]? = some (0, 1) := by decide +kernel
theorem shl_13 : SHL[13]? = some (1, 10) := by decide +kernel
theorem shl_14 : SHL[14]? = some (1, 10) := by decide +kernel
theorem shl_15 : SHL[15]? = some (1, 10) := by decide +kernel
theorem shl_16 : SHL[16]? = some (1, 5) := by decide +kernel
theorem shl_17 : SHL[17]? = some (1, 5) := by decide +kernel
theorem shl_18 : SHL[18]? = some (1, 4) := by decide +kernel
theorem shl_19 : SHL[19]? = some (1, 4) := by decide +kernel
theorem shl_20 : SHL[20]? = some (1, 90) := by decide +kernel
theorem shl_21 : SHL[21]? = some (1, 50) := by decide +kernel
theorem shl_22 : SHL[22]? = some (1, 9) := by decide +kernel
theorem shl_23 : SHL[23]? = some (0, 3) := by decide +kernel
theorem shl_24 : SHL[24]? = some (1, 300) := by decide +kernel
theorem shl_25 : SHL[25]? = some (1, 300) := by decide +kernel
theorem shl_26 : SHL[26]? = some (1, 30) := by decide +kernel
theorem shl_27 : SHL[27]? = some (1, 7) := by decide +kernel
theorem shl_28 : SHL[28]? = some (0, 1) := by decide +kernel
theorem shl_29 : SHL[29]? = some (1, 10) := by decide +kernel
theorem shl_30 : SHL[30]? = some (1, 10) := by decide +kernel
theorem shl_31 : SHL[31]? = some (1, 10) := by decide +kernel
theorem shl_32 : SHL[32]? = some (1, 5) := by decide +kernel
theorem shl_33 : SHL[33]? = some (1, 5) := by decide +kernel
theorem shl_34 : SHL[34]? = some (1, 4) := by decide +kernel
theorem shl_35 : SHL[35]? = some (1, 4) := by decide +kernel
theorem shl_36 : SHL[36]? = some (1, 90) := by decide +kernel
theorem shl_37 : SHL[37]? = some (1, 50) := by decide +kernel
theorem shl_38 : SHL[38]? = some (1, 9) := by decide +kernel
theorem shl_39 : SHL[39]? = some (0, 3) := by decide +kernel
theorem shl_40 : SHL[40]? = some (1, 300) := by decide +kernel
theorem shl_41 : SHL[41]? = some (1, 300) := by decide +kernel
theorem shl_42 : SHL[42]? = some (1, 30) := by decide +kernel
theorem shl_43 : SHL[43]? = some (1, 7) := by decide +kernel
theorem shl_44 : SHL[44]? = some (0, 8) := by decide +kernel
theorem shl_45 : SHL[45]? = some (1, 9) := by decide +kernel
theorem shl_46 : SHL[46]? = some (1, 4) := by decide +kernel
theorem shl_47 : SHL[47]? = some (0, 0) := by decide +kernel
theorem shl_48 : SHL[48]? = some (4, 41) := by decide +kernel
theorem shl_49 : SHL[49]? = some (0, 8) := by decide +kernel
theorem shl_50 : SHL[50]? = some (1, 9) := by decide +kernel
theorem shl_51 : SHL[51]? = some (1, 4) := by decide +kernel
theorem shl_52 : SHL[52]? = some (0, 8) := by decide +kernel
theorem shl_53 : SHL[53]? = some (1, 9) := by decide +kernel
theorem shl_54 : SHL[54]? = some (1, 4) := by decide +kernel
theorem shl_55 : SHL[55]? = some (0, 8) := by decide +kernel
theorem shl_56 : SHL[56]? = some (1, 9) := by decide +kernel
theorem shl_57 : SHL[57]? = some (1, 4) := by decide +kernel
theorem shl_58 : SHL[58]? = some (0, 8) := by decide +kernel
theorem shl_59 : SHL[59]? = some (1, 9) := by decide +kernel
theorem shl_60 : SHL[60]? = some (1, 4) := by decide +kernel
theorem shl_61 : SHL[61]? = some (0, 8) := by decide +kernel
theorem shl_62 : SHL[62]? = some (1, 9) := by decide +kernel
theorem shl_63 : SHL[63]? = some (1, 4) := by decide +kernel
theorem shl_64 : SHL[64]? = some (0, 8) := by decide +kernel
theorem shl_65 : SHL[65]? = some (1, 9) := by decide +kernel
theorem shl_66 : SHL[66]? = some (1, 4) := by decide +kernel
theorem shl_67 : SHL[67]? = some (0, 8) := by decide +kernel
theorem shl_68 : SHL[68]? = some (1, 9) := by decide +kernel
theorem shl_69 : SHL[69]? = some (1, 4) := by decide +kernel
theorem shl_70 : SHL[70]? = some (0, 8) := by decide +kernel
theorem shl_71 : SHL[71]? = some (1, 9) := by decide +kernel
theorem shl_72 : SHL[72]? = some (1, 4) := by decide +kernel
theorem shl_73 : SHL[73]? = some (0, 8) := by decide +kernel
theorem shl_74 : SHL[74]? = some (1, 9) := by decide +kernel
theorem shl_75 : SHL[75]? = some (1, 4) := by decide +kernel
theorem shl_76 : SHL[76]? = some (0, 8) := by decide +kernel
theorem shl_77 : SHL[77]? = some (1, 9) := by decide +kernel
theorem shl_78 : SHL[78]? = some (1, 4) := by decide +kernel
theorem shl_79 : SHL[79]? = some (0, 8) := by decide +kernel
theorem shl_80 : SHL[80]? = some (1, 9) := by decide +kernel
theorem shl_81 : SHL[81]? = some (1, 4) := by decide +kernel
theorem shl_82 : SHL[82]? = some (0, 8) := by decide +kernel
theorem shl_83 : SHL[83]? = some (1, 9) := by decide +kernel
theorem shl_84 : SHL[84]? = some (1, 4) := by decide +kernel
theorem shl_85 : SHL[85]? = some (0, 8) := by decide +kernel
theorem shl_86 : SHL[86]? = some (1, 9) := by decide +kernel
theorem shl_87 : SHL[87]? = some (1, 4) := by decide +kernel
theorem shl_88 : SHL[88]? = some (0, 8) := by decide +kernel
theorem shl_89 : SHL[89]? = some (1, 9) := by decide +kernel
theorem shl_90 : SHL[90]? = some (1, 4) := by decide +kernel
theorem shl_91 : SHL[91]? = some (0, 8) := by decide +kernel
theorem shl_92 : SHL[92]? = some (1, 9) := by decide +kernel
theorem shl_93 : SHL[93]? = some (1, 4) := by decide +kernel
theorem shl_94 : SHL[94]? = some (0, 8) := by decide +kernel
theorem shl_95 : SHL[95]? = some (1, 9) := by decide +kernel
theorem shl_96 : SHL[96]? = some (1, 4) := by decide +kernel
theorem shl_97 : SHL[97]? = some (0, 8) := by decide +kernel
theorem shl_98 : SHL[98]? = some (1, 9) := by decide +kernel
theorem shl_99 : SHL[99]? = some (1, 4) := by decide +kernel
theorem shl_100 : SHL[100]? = some (0, 8) := by decide +kernel
theorem shl_101 : SHL[101]? = some (1, 9) := by decide +kernel
theorem shl_102 : SHL[102]? = some (1, 4) := by decide +kernel
theorem shl_103 : SHL[103]? = some (0, 8) := by decide +kernel
theorem shl_104 : SHL[104]? = some (1, 9) := by decide +kernel
theorem shl_105 : SHL[105]? = some (1, 4) := by decide +kernel
theorem shl_106 : SHL[106]? = some (0, 8) := by decide +kernel
theorem shl_107 : SHL[107]? = some (1, 9) := by decide +kernel
theorem shl_108 : SHL[108]? = some (1, 4) := by decide +kernel
theorem shl_109 : SHL[109]? = some (0, 8) := by decide +kernel
theorem shl_110 : SHL[110]? = some (1, 9) := by decide +kernel
theorem shl_111 : SHL[111]? = some (1, 4) := by decide +kernel
theorem shl_112 : SHL[112]? = some (0, 8) := by decide +kernel
theorem shl_113 : SHL[113]? = some (1, 9) := by decide +kernel
theorem shl_114 : SHL[114]? = some (1, 4) := by decide +kernel
theorem shl_115 : SHL[115]? = some (0, 8) := by decide +kernel
theorem shl_116 : SHL[116]? = some (1, 9) := by decide +kernel
theorem shl_117 : SHL[117]? = some (1, 4) := by decide +kernel
theorem shl_118 : SHL[118]? = some (0, 8) := by decide +kernel
theorem shl_119 : SHL[119]? = some (1, 9) := by decide +kernel
theorem shl_120 : SHL[120]? = some (1, 4) := by decide +kernel
theorem shl_121 : SHL[121]? = some (0, 8) := by decide +kernel
theorem shl_122 : SHL[122]? = some (1, 9) := by decide +kernel
theorem shl_123 : SHL[123]? = some (1, 4) := by decide +kernel
theorem shl_124 : SHL[124]? = some (0, 8) := by decide +kernel
theorem shl_125 : SHL[125]? = some (1, 9) := by decide +kernel
theorem shl_126 : SHL[126]? = some (1, 4) := by decide +kernel
theorem shl_127 : SHL[127]? = some (0, 8) := by decide +kernel
theorem shl_128 : SHL[128]? = some (1, 9) := by decide +kernel
theorem shl_129 : SHL[129]? = some (1, 4) := by decide +kernel
theorem shl_130 : SHL[130]? = some (0, 8) := by decide +kernel
theorem shl_131 : SHL[131]? = some (1, 9) := by decide +kernel
theorem shl_132 : SHL[132]? = some (1, 4) := by decide +kernel
theorem shl_133 : SHL[133]? = some (0, 8) := by decide +kernel
theorem shl_134 : SHL[134]? = some (1, 9) := by decide +kernel
theorem shl_135 : SHL[135]? = some (1, 4) := by decide +kernel
theorem shl_136 : SHL[136]? = some (0, 8) := by decide +kernel
theorem shl_137 : SHL[137]? = some (1, 9) := by decide +kernel
theorem shl_138 : SHL[138]? = some (1, 4) := by decide +kernel
theorem shl_139 : SHL[139]? = some (0, 8) := by decide +kernel
theorem shl_140 : SHL[140]? = some (1, 9) := by decide +kernel
theorem shl_141 : SHL[141]? = some (1, 4) := by decide +kernel
theorem shl_142 : SHL[142]? = some (0, 8) := by decide +kernel
theorem shl_143 : SHL[143]? = some (1, 9) := by decide +kernel
theorem shl_144 : SHL[144]? = some (1, 4) := by decide +kernel
theorem shl_145 : SHL[145]? = some (0, 8) := by decide +kernel
theorem shl_146 : SHL[146]? = some (1, 9) := by decide +kernel
theorem shl_147 : SHL[147]? = some (1, 4) := by decide +kernel
theorem shl_148 : SHL[148]? = some (0, 8) := by decide +kernel
theorem shl_149 : SHL[149]? = some (1, 9) := by decide +kernel
theorem shl_150 : SHL[150]? = some (1, 4) := by decide +kernel
theorem shl_151 : SHL[151]? = some (0, 8) := by decide +kernel
theorem shl_152 : SHL[152]? = some (1, 9) := by decide +kernel
theorem shl_153 : SHL[153]? = some (1, 4) := by decide +kernel
theorem shl_154 : SHL[154]? = some (0, 8) := by decide +kernel
theorem shl_155 : SHL[155]? = some (1, 9) := by decide +kernel
theorem shl_156 : SHL[156]? = some (1, 4) := by decide +kernel
theorem shl_157 : SHL[157]? = some (0, 8) := by decide +kernel
theorem shl_158 : SHL[158]? = some (1, 9) := by decide +kernel
theorem shl_159 : SHL[159]? = some (1, 4) := by decide +kernel
theorem shl_160 : SHL[160]? = some (0, 8) := by decide +kernel
theorem shl_161 : SHL[161]? = some (1, 9) := by decide +kernel
theorem shl_162 : SHL[162]? = some (1, 4) := by decide +kernel
theorem shl_163 : SHL[163]? = some (0, 8) := by decide +kernel
theorem shl_164 : SHL[164]? = some (1, 9) := by decide +kernel
theorem shl_165 : SHL[165]? = some (1, 4) := by decide +kernel
theorem shl_166 : SHL[166]? = some (0, 8) := by decide +kernel
theorem shl_167 : SHL[167]? = some (1, 9) := by decide +kernel
theorem shl_168 : SHL[168]? = some (1, 4) := by decide +kernel
theorem shl_169 : SHL[169]? = some (0, 8) := by decide +kernel
theorem shl_170 : SHL[170]? = some (1, 9) := by decide +kernel
theorem shl_171 : SHL[171]? = some (1, 4) := by decide +kernel
theorem shl_172 : SHL[172]? = some (4, 3) := by decide +kernel
theorem shl_173 : SHL[173]? = some (1, 30) := by decide +kernel
theorem shl_174 : SHL[174]? = some (0, 5) := by decide +kernel
theorem shl_175 : SHL[175]? = some (1, 30) := by decide +kernel
theorem shl_176 : SHL[176]? = some (1, 30) := by decide +kernel
theorem shl_177 : SHL[177]? = some (1, 30) := by decide +kernel
theorem shl_178 : SHL[178]? = some (1, 30) := by decide +kernel
theorem shl_179 : SHL[179]? = some (3, 30) := by decide +kernel
theorem shl_180 : SHL[180]? = some (1, 30) := by decide +kernel
theorem shl_181 : SHL[181]? = some (1, 30) := by decide +kernel
theorem shl_182 : SHL[182]? = some (3, 100) := by decide +kernel
theorem shl_183 : SHL[183]? = some (0, 9) := by decide +kernel
theorem shl_184 : SHL[184]? = some (1, 100) := by decide +kernel
theorem shl_185 : SHL[185]? = some (1, 100) := by decide +kernel
theorem shl_186 : SHL[186]? = some (1, 100) := by decide +kernel
theorem shl_187 : SHL[187]? = some (1, 100) := by decide +kernel
theorem shl_188 : SHL[188]? = some (1, 55) := by decide +kernel
theorem shl_189 : SHL[189]? = some (1, 55) := by decide +kernel
theorem shl_190 : SHL[190]? = some (1, 55) := by decide +kernel
theorem shl_191 : SHL[191]? = some (1, 55) := by decide +kernel
theorem shl_192 : SHL[192]? = some (0, 6) := by decide +kernel
theorem shl_193 : SHL[193]? = some (0, 9) := by decide +kernel
theorem shl_194 : SHL[194]? = some (1, 100) := by decide +kernel
theorem shl_195 : SHL[195]? = some (1, 100) := by decide +kernel
theorem shl_196 : SHL[196]? = some (1, 100) := by decide +kernel
theorem shl_197 : SHL[197]? = some (1, 100) := by decide +kernel
theorem shl_198 : SHL[198]? = some (1, 55) := by decide +kernel
theorem shl_199 : SHL[199]? = some (1, 55) := by decide +kernel
theorem shl_200 : SHL[200]? = some (1, 55) := by decide +kernel
theorem shl_201 : SHL[201]? = some (1, 55) := by decide +kernel
theorem shl_202 : SHL[202]? = some (0, 8) := by decide +kernel
theorem shl_203 : SHL[203]? = some (1, 9) := by decide +kernel
theorem shl_204 : SHL[204]? = some (1, 4) := by decide +kernel
theorem shl_205 : SHL[205]? = some (0, 7) := by decide +kernel
theorem shl_206 : SHL[206]? = some (0, 9) := by decide +kernel
theorem shl_207 : SHL[207]? = some (1, 100) := by decide +kernel
theorem shl_208 : SHL[208]? = some (1, 100) := by decide +kernel
theorem shl_209 : SHL[209]? = some (1, 100) := by decide +kernel
theorem shl_210 : SHL[210]? = some (1, 100) := by decide +kernel
theorem shl_211 : SHL[211]? = some (1, 55) := by decide +kernel
theorem shl_212 : SHL[212]? = some (1, 55) := by decide +kernel
theorem shl_213 : SHL[213]? = some (1, 55) := by decide +kernel
theorem shl_214 : SHL[214]? = some (1, 55) := by decide +kernel
theorem shl_215 : SHL[215]? = some (0, 8) := by decide +kernel
theorem shl_216 : SHL[216]? = some (1, 9) := by decide +kernel
theorem shl_217 : SHL[217]? = some (1, 4) := by decide +kernel
theorem shl_218 : SHL[218]? = some (2, 2000) := by decide +kernel
theorem shl_219 : SHL[219]? = some (1, 2000) := by decide +kernel
theorem shl_220 : SHL[220]? = some (1, 4096) := by decide +kernel
theorem shl_221 : SHL[221]? = some (0, 8) := by decide +kernel
theorem shl_222 : SHL[222]? = some (1, 9) := by decide +kernel
theorem shl_223 : SHL[223]? = some (1, 4) := by decide +kernel
theorem shl_224 : SHL[224]? = some (0, 8) := by decide +kernel
theorem shl_225 : SHL[225]? = some (1, 9) := by decide +kernel
theorem shl_226 : SHL[226]? = some (1, 4) := by decide +kernel
theorem shl_227 : SHL[227]? = some (0, 8) := by decide +kernel
theorem shl_228 : SHL[228]? = some (1, 9) := by decide +kernel
theorem shl_229 : SHL[229]? = some (1, 4) := by decide +kernel
theorem shl_230 : SHL[230]? = some (0, 8) := by decide +kernel
theorem shl_231 : SHL[231]? = some (1, 9) := by decide +kernel
theorem shl_232 : SHL[232]? = some (1, 4) := by decide +kernel
theorem shl_233 : SHL[233]? = some (0, 12) := by decide +kernel
theorem shl_234 : SHL[234]? = some (1, 1700) := by decide +kernel
theorem shl_235 : SHL[235]? = some (2, 32) := by decide +kernel
theorem shl_236 : SHL[236]? = some (1, 9) := by decide +kernel
theorem shl_237 : SHL[237]? = some (1, 320) := by decide +kernel
theorem shl_238 : SHL[238]? = some (1, 320) := by decide +kernel
theorem shl_239 : SHL[239]? = some (1, 320) := by decide +kernel
theorem shl_240 : SHL[240]? = some (1, 320) := by decide +kernel
theorem shl_241 : SHL[241]? = some (1, 160) := by decide +kernel
theorem shl_242 : SHL[242]? = some (1, 64) := by decide +kernel
theorem shl_243 : SHL[243]? = some (1, 7) := by decide +kernel
theorem shl_244 : SHL[244]? = some (1, 10) := by decide +kernel
theorem shl_245 : SHL[245]? = some (1, 10) := by decide +kernel
theorem shl_246 : SHL[246]? = some (1, 10) := by decide +kernel
theorem shl_247 : SHL[247]? = some (1, 10) := by decide +kernel
theorem shl_248 : SHL[248]? = some (1, 5) := by decide +kernel
theorem shl_249 : SHL[249]? = some (1, 5) := by decide +kernel
theorem shl_250 : SHL[250]? = some (1, 4) := by decide +kernel
theorem shl_251 : SHL[251]? = some (1, 4) := by decide +kernel
theorem shl_252 : SHL[252]? = some (1, 90) := by decide +kernel
theorem shl_253 : SHL[253]? = some (1, 10) := by decide +kernel
theorem shl_254 : SHL[254]? = some (1, 10) := by decide +kernel
theorem shl_255 : SHL[255]? = some (1, 10) := by decide +kernel
theorem shl_256 : SHL[256]? = some (1, 10) := by decide +kernel
theorem shl_257 : SHL[257]? = some (1, 5) := by decide +kernel
theorem shl_258 : SHL[258]? = some (1, 5) := by decide +kernel
theorem shl_259 : SHL[259]? = some (1, 4) := by decide +kernel
theorem shl_260 : SHL[260]? = some (1, 4) := by decide +kernel
theorem shl_261 : SHL[261]? = some (1, 90) := by decide +kernel
theorem shl_262 : SHL[262]? = some (1, 20) := by decide +kernel
theorem shl_263 : SHL[263]? = some (1, 10) := by decide +kernel
theorem shl_264 : SHL[264]? = some (1, 800) := by decide +kernel
theorem shl_265 : SHL[265]? = some (1, 32) := by decide +kernel
theorem shl_266 : SHL[266]? = some (1, 20020) := by decide +kernel
theorem shl_267 : SHL[267]? = some (1, 2002) := by decide +kernel
theorem shl_268 : SHL[268]? = some (1, 2002) := by decide +kernel
theorem shl_269 : SHL[269]? = some (1, 10) := by decide +kernel
theorem shl_270 : SHL[270]? = some (1, 30) := by decide +kernel
theorem shl_271 : SHL[271]? = some (1, 30) := by decide +kernel
theorem shl_272 : SHL[272]? = some (1, 30) := by decide +kernel
theorem shl_273 : SHL[273]? = some (1, 30) := by decide +kernel
theorem shl_274 : SHL[274]? = some (1, 30) := by decide +kernel
theorem shl_275 : SHL[275]? = some (1, 30) := by decide +kernel
theorem shl_276 : SHL[276]? = some (3, 30) := by decide +kernel
theorem shl_277 : SHL[277]? = some (3, 100) := by decide +kernel
theorem shl_278 : SHL[278]? = some (3, 3) := by decide +kernel
theorem shl_279 : SHL[279]? = some (1, 60) := by decide +kernel
theorem dok_0 : ∀ j, j < 4 → defaultValue (tyX0 j) = dv ((FKL.getD 0 []).getD j 0) := by decide +kernel
theorem dok_1 : ∀ j, j < 16 → defaultValue (tyX1 j) = dv ((FKL.getD 1 []).getD j 0) := by decide +kernel
theorem dok_2 : ∀ j, j < 1 → defaultValue (tyX2 j) = dv ((FKL.getD 2 []).getD j 0) := by decide +kernel
theorem dok_3 : ∀ j, j < 6 → defaultValue (tyX3 j) = dv ((FKL.getD 3 []).getD j 0) := by decide +kernel
theorem dok_4 : ∀ j, j < 10 → defaultValue (tyX4 j) = dv ((FKL.getD 4 []).getD j 0) := by decide +kernel
theorem dok_5 : ∀ j, j < 15 → defaultValue (tyX5 j) = dv ((FKL.getD 5 []).getD j 0) := by decide +kernel
theorem dok_6 : ∀ j, j < 5 → defaultValue (tyX6 j) = dv ((FKL.getD 6 []).getD j 0) := by decide +kernel
theorem dok_7 : ∀ j, j < 9 → defaultValue (tyX7 j) = dv ((FKL.getD 7 []).getD j 0) := by decide +kernel
theorem dok_8 : ∀ j, j < 5 → defaultValue (tyX8 j) = dv ((FKL.getD 8 []).getD j 0) := by decide +kernel
theorem dok_9 : ∀ j, j < 10 → defaultValue (tyX9 j) = dv ((FKL.getD 9 []).getD j 0) := by decide +kernel
theorem dok_10 : ∀ j, j < 9 → defaultValue (tyX10 j) = dv ((FKL.getD 10 []).getD j 0) := by decide +kernel
theorem dok_11 : ∀ j, j < 16 → defaultValue (tyX11 j) = dv ((FKL.getD 11 []).getD j 0) := by decide +kernel
theorem dok_12 : ∀ j, j < 91 → defaultValue (tyX12 j) = dv ((FKL.getD 12 []).getD j 0) := by decide +kernel
theorem dX8_init_0 : decode cX8_init 0 = .ok (.aload_n 0, 1) := by decide +kernel
theorem dX8_init_1 : decode cX8_init 1 = .ok (.invokespecial 3, 3) := by decide +kernel
theorem dX8_init_4 : decode cX8_init 4 = .ok (.aload_n 0, 1) := by decide +kernel
theorem dX8_init_5 : decode cX8_init 5 = .ok (.bipush 9, 2) := by decide +kernel
theorem dX8_init_7 : decode cX8_init 7 = .ok (.newarray .int, 2) := by decide +kernel
theorem dX8_init_9 : decode cX8_init 9 = .ok (.putfield 9, 3) := by decide +kernel
theorem dX8_init_12 : decode cX8_init 12 = .ok (.aload_n 0, 1) := by decide +kernel
theorem dX8_init_13 : decode cX8_init 13 = .ok (.iconst 4, 1) := by decide +kernel
theorem dX8_init_14 : decode cX8_init 14 = .ok (.newarray .int, 2) := by decide +kernel
theorem dX8_init_16 : decode cX8_init 16 = .ok (.putfield 15, 3) := by decide +kernel
theorem dX8_init_19 : decode cX8_init 19 = .ok (.aload_n 0, 1) := by decide +kernel
theorem dX8_init_20 : decode cX8_init 20 = .ok (.iconst 0, 1) := by decide +kernel
theorem dX8_init_21 : decode cX8_init 21 = .ok (.putfield 18, 3) := by decide +kernel
theorem dX8_init_24 : decode cX8_init 24 = .ok (.aload_n 0, 1) := by decide +kernel
theorem dX8_init_25 : decode cX8_init 25 = .ok (.iconst 0, 1) := by decide +kernel
theorem dX8_init_26 : decode cX8_init 26 = .ok (.putfield 22, 3) := by decide +kernel
theorem dX8_init_29 : decode cX8_init 29 = .ok (.aload_n 0, 1) := by decide +kernel
theorem dX8_init_30 : decode cX8_init 30 = .ok (.iconst 0, 1) := by decide +kernel
theorem dX8_init_31 : decode cX8_init 31 = .ok (.putfield 25, 3) := by decide +kernel
theorem dX8_init_34 : decode cX8_init 34 = .ok (.return_, 1) := by decide +kernel
theorem wo_RX8_3 : Cond.methodLink RX8 3 objectInit ∈ TB := tbm 378 (by decide +kernel) (by decide +kernel)
theorem wo_i : Cond.instanceMethod objectInit ∈ TB := tbm 162 (by decide +kernel) (by decide +kernel)
theorem wo_c : Cond.code objectInit ⟨#[0xb1]⟩ 1 none ∈ TB := tbm 163 (by decide +kernel) (by decide +kernel)
theorem wa_int : Cond.arrayClass .int ∈ TB := tbm 215 (by decide +kernel) (by decide +kernel)
theorem fpf_8_0 : Fpk TX8 0 true (.array .int) := ⟨rfl, by decide +kernel⟩
theorem fpf_8_1 : Fpk TX8 1 true (.array .int) := ⟨rfl, by decide +kernel⟩
def cE8 (t : Nat) (ρ : Rh_) : Rh_ :=
 (pI (pI (pI (pR (nwR (pR (nwR ρ (t + 1)) t 0 (t + 1)) (t + 2)) t 1 (t + 2)) t 2 (0 : Int32)) t 3 (0 : Int32)) t 4 (0 : Int32))
set_option maxHeartbeats 4000000 in
set_option maxRecDepth 20000 in
theorem k8 (t : Nat) (ρ : Rh_) (h_0 : SHL[t]? = some (0, 8)) (h_1 : SHL[t + 1]? = some (1, 9)) (h_2 : SHL[t + 2]? = some (1, 4)) : Rj l D cA h0 ad yX8_init cX8_init 1 none true 2 2 13 (fun _ : Unit => (none, SHL.take (t + 3), (cE8 t ρ).1, (cE8 t ρ).2)) [.ref (h0 + t)] (SHL.take (t + 1)) ρ.1 ρ.2 (some ()) := by
  refine Rj.of (by decide) (fun _ => rfl) (Nat.le_of_ble_eq_true rfl) ?_
  refine tj_lv0 (lv' := [(0, .ref (h0 + t))]) rfl ?_
  refine tj_aload_n (q := 1) dX8_init_0 rfl (i := 0) rfl (pl := 0) rfl ?_
  refine c_obj (q := 4) wo_RX8_3 wo_i wo_c dX8_init_1 rfl (Nat.le_of_ble_eq_true rfl) (Nat.le_of_ble_eq_true rfl) ?_
  refine tj_aload_n (q := 5) dX8_init_4 rfl (i := 0) rfl (pl := 0) rfl ?_
  refine tj_bipush (q := 7) (v := 9) dX8_init_5 rfl (by decide) ?_
  refine c_newaI (q := 9) (N := 9) (by decide) (by decide) h_1 wa_int (Nat.le_of_ble_eq_true rfl) (Nat.le_of_ble_eq_true rfl) dX8_init_7 rfl ?_
  refine c_putF (q := 12) (j := t + 1) (tk_at (i := t) h_0 (by omega)) fok_8_0 tok_8 fpf_8_0 wl_RX8_9 dX8_init_9 rfl rfl rfl rfl ?_
  refine tj_aload_n (q := 13) dX8_init_12 rfl (i := 0) rfl (pl := 0) rfl ?_
  refine tj_iconst (q := 14) (v := 4) dX8_init_13 rfl (by decide) ?_
  refine c_newaI (q := 16) (N := 4) (by decide) (by decide) h_2 wa_int (Nat.le_of_ble_eq_true rfl) (Nat.le_of_ble_eq_true rfl) dX8_init_14 rfl ?_
  refine c_putF (q := 19) (j := t + 2) (tk_at (i := t) h_0 (by omega)) fok_8_1 tok_8 fpf_8_1 wl_RX8_15 dX8_init_16 rfl rfl rfl rfl ?_
  refine tj_aload_n (q := 20) dX8_init_19 rfl (i := 0) rfl (pl := 0) rfl ?_
  refine tj_iconst (q := 21) (v := 0) dX8_init_20 rfl (by decide) ?_
  refine c_putI (q := 24) (tk_at (i := t) h_0 (by omega)) fok_8_2 tok_8 fpk_8_2 wl_RX8_18 dX8_init_21 rfl rfl rfl ?_
  refine tj_aload_n (q := 25) dX8_init_24 rfl (i := 0) rfl (pl := 0) rfl ?_
  refine tj_iconst (q := 26) (v := 0) dX8_init_25 rfl (by decide) ?_
  refine c_putI (q := 29) (tk_at (i := t) h_0 (by omega)) fok_8_3 tok_8 fpk_8_3 wl_RX8_22 dX8_init_26 rfl rfl rfl ?_
  refine tj_aload_n (q := 30) dX8_init_29 rfl (i := 0) rfl (pl := 0) rfl ?_
  refine tj_iconst (q := 31) (v := 0) dX8_init_30 rfl (by decide) ?_
  refine c_putI (q := 34) (tk_at (i := t) h_0 (by omega)) fok_8_4 tok_8 fpk_8_4 wl_RX8_25 dX8_init_31 rfl rfl rfl ?_
  exact tj_vret rfl rfl (Nat.le_of_ble_eq_true rfl) (Nat.le_of_ble_eq_true rfl) dX8_init_34

theorem dX3_init_0 : decode cX3_init 0 = .ok (.aload_n 0, 1) := by decide +kernel
theorem dX3_init_1 : decode cX3_init 1 = .ok (.invokespecial 3, 3) := by decide +kernel
theorem dX3_init_4 : decode cX3_init 4 = .ok (.aload_n 0, 1) := by decide +kernel
theorem dX3_init_5 : decode cX3_init 5 = .ok (.sipush 300, 3) := by decide +kernel
theorem dX3_init_8 : decode cX3_init 8 = .ok (.newarray .int, 2) := by decide +kernel
theorem dX3_init_10 : decode cX3_init 10 = .ok (.putfield 11, 3) := by decide +kernel
theorem dX3_init_13 : decode cX3_init 13 = .ok (.aload_n 0, 1) := by decide +kernel
theorem dX3_init_14 : decode cX3_init 14 = .ok (.sipush 300, 3) := by decide +kernel
theorem dX3_init_17 : decode cX3_init 17 = .ok (.newarray .int, 2) := by decide +kernel
theorem dX3_init_19 : decode cX3_init 19 = .ok (.putfield 15, 3) := by decide +kernel
theorem dX3_init_22 : decode cX3_init 22 = .ok (.aload_n 0, 1) := by decide +kernel
theorem dX3_init_23 : decode cX3_init 23 = .ok (.bipush 30, 2) := by decide +kernel
theorem dX3_init_25 : decode cX3_init 25 = .ok (.newarray .int, 2) := by decide +kernel
theorem dX3_init_27 : decode cX3_init 27 = .ok (.putfield 18, 3) := by decide +kernel
theorem dX3_init_30 : decode cX3_init 30 = .ok (.aload_n 0, 1) := by decide +kernel
theorem dX3_init_31 : decode cX3_init 31 = .ok (.bipush 7, 2) := by decide +kernel
theorem dX3_init_33 : decode cX3_init 33 = .ok (.newarray .int, 2) := by decide +kernel
theorem dX3_init_35 : decode cX3_init 35 = .ok (.putfield 21, 3) := by decide +kernel
theorem dX3_init_38 : decode cX3_init 38 = .ok (.aload_n 0, 1) := by decide +kernel
theorem dX3_init_39 : decode cX3_init 39 = .ok (.iconst 0, 1) := by decide +kernel
theorem dX3_init_40 : decode cX3_init 40 = .ok (.putfield 24, 3) := by decide +kernel
theorem dX3_init_43 : decode cX3_init 43 = .ok (.aload_n 0, 1) := by decide +kernel
theorem dX3_init_44 : decode cX3_init 44 = .ok (.iconst 0, 1) := by decide +kernel
theorem dX3_init_45 : decode cX3_init 45 = .ok (.putfield 28, 3) := by decide +kernel
theorem dX3_init_48 : decode cX3_init 48 = .ok (.return_, 1) := by decide +kernel
theorem wo_RX3_3 : Cond.methodLink RX3 3 objectInit ∈ TB := tbm 265 (by decide +kernel) (by decide +kernel)
theorem fpf_3_0 : Fpk TX3 0 true (.array .int) := ⟨rfl, by decide +kernel⟩
theorem fpf_3_1 : Fpk TX3 1 true (.array .int) := ⟨rfl, by decide +kernel⟩
theorem fpf_3_2 : Fpk TX3 2 true (.array .int) := ⟨rfl, by decide +kernel⟩
theorem fpf_3_3 : Fpk TX3 3 true (.array .int) := ⟨rfl, by decide +kernel⟩
def cE3 (t : Nat) (ρ : Rh_) : Rh_ :=
 (pI (pI (pR (nwR (pR (nwR (pR (nwR (pR (nwR ρ (t + 1)) t 0 (t + 1)) (t + 2)) t 1 (t + 2)) (t + 3)) t 2 (t + 3)) (t + 4)) t 3 (t + 4)) t 4 (0 : Int32)) t 5 (0 : Int32))
set_option maxHeartbeats 4000000 in
set_option maxRecDepth 20000 in
theorem k3 (t : Nat) (ρ : Rh_) (h_0 : SHL[t]? = some (0, 3)) (h_1 : SHL[t + 1]? = some (1, 300)) (h_2 : SHL[t + 2]? = some (1, 300)) (h_3 : SHL[t + 3]? = some (1, 30)) (h_4 : SHL[t + 4]? = some (1, 7)) : Rj l D cA h0 ad yX3_init cX3_init 1 none true 2 4 637 (fun _ : Unit => (none, SHL.take (t + 5), (cE3 t ρ).1, (cE3 t ρ).2)) [.ref (h0 + t)] (SHL.take (t + 1)) ρ.1 ρ.2 (some ()) := by
  refine Rj.of (by decide) (fun _ => rfl) (Nat.le_of_ble_eq_true rfl) ?_
  refine tj_lv0 (lv' := [(0, .ref (h0 + t))]) rfl ?_
  refine tj_aload_n (q := 1) dX3_init_0 rfl (i := 0) rfl (pl := 0) rfl ?_
  refine c_obj (q := 4) wo_RX3_3 wo_i wo_c dX3_init_1 rfl (Nat.le_of_ble_eq_true rfl) (Nat.le_of_ble_eq_true rfl) ?_
  refine tj_aload_n (q := 5) dX3_init_4 rfl (i := 0) rfl (pl := 0) rfl ?_
  refine tj_sipush (q := 8) (v := 300) dX3_init_5 rfl (by decide) ?_
  refine c_newaI (q := 10) (N := 300) (by decide) (by decide) h_1 wa_int (Nat.le_of_ble_eq_true rfl) (Nat.le_of_ble_eq_true rfl) dX3_init_8 rfl ?_
  refine c_putF (q := 13) (j := t + 1) (tk_at (i := t) h_0 (by omega)) fok_3_0 tok_3 fpf_3_0 wl_RX3_11 dX3_init_10 rfl rfl rfl rfl ?_
  refine tj_aload_n (q := 14) dX3_init_13 rfl (i := 0) rfl (pl := 0) rfl ?_
  refine tj_sipush (q := 17) (v := 300) dX3_init_14 rfl (by decide) ?_
  refine c_newaI (q := 19) (N := 300) (by decide) (by decide) h_2 wa_int (Nat.le_of_ble_eq_true rfl) (Nat.le_of_ble_eq_true rfl) dX3_init_17 rfl ?_
  refine c_putF (q := 22) (j := t + 2) (tk_at (i := t) h_0 (by omega)) fok_3_1 tok_3 fpf_3_1 wl_RX3_15 dX3_init_19 rfl rfl rfl rfl ?_
  refine tj_aload_n (q := 23) dX3_init_22 rfl (i := 0) rfl (pl := 0) rfl ?_
  refine tj_bipush (q := 25) (v := 30) dX3_init_23 rfl (by decide) ?_
  refine c_newaI (q := 27) (N := 30) (by decide) (by decide) h_3 wa_int (Nat.le_of_ble_eq_true rfl) (Nat.le_of_ble_eq_true rfl) dX3_init_25 rfl ?_
  refine c_putF (q := 30) (j := t + 3) (tk_at (i := t) h_0 (by omega)) fok_3_2 tok_3 fpf_3_2 wl_RX3_18 dX3_init_27 rfl rfl rfl rfl ?_
  refine tj_aload_n (q := 31) dX3_init_30 rfl (i := 0) rfl (pl := 0) rfl ?_
  refine tj_bipush (q := 33) (v := 7) dX3_init_31 rfl (by decide) ?_
  refine c_newaI (q := 35) (N := 7) (by decide) (by decide) h_4 wa_int (Nat.le_of_ble_eq_true rfl) (Nat.le_of_ble_eq_true rfl) dX3_init_33 rfl ?_
  refine c_putF (q := 38) (j := t + 4) (tk_at (i := t) h_0 (by omega)) fok_3_3 tok_3 fpf_3_3 wl_RX3_21 dX3_init_35 rfl rfl rfl rfl ?_
  refine tj_aload_n (q := 39) dX3_init_38 rfl (i := 0) rfl (pl := 0) rfl ?_
  refine tj_iconst (q := 40) (v := 0) dX3_init_39 rfl (by decide) ?_
  refine c_putI (q := 43) (tk_at (i := t) h_0 (by omega)) fok_3_4 tok_3 fpk_3_4 wl_RX3_24 dX3_init_40 rfl rfl rfl ?_
  refine tj_aload_n (q := 44) dX3_init_43 rfl (i := 0) rfl (pl := 0) rfl ?_
  refine tj_iconst (q := 45) (v := 0) dX3_init_44 rfl (by decide) ?_
  refine c_putI (q := 48) (tk_at (i := t) h_0 (by omega)) fok_3_5 tok_3 fpk_3_5 wl_RX3_28 dX3_init_45 rfl rfl rfl ?_
  exact tj_vret rfl rfl (Nat.le_of_ble_eq_true rfl) (Nat.le_of_ble_eq_true rfl) dX3_init_48

theorem dX1_init_0 : decode cX1_init 0 = .ok (.aload_n 0, 1) := by decide +kernel
theorem dX1_init_1 : decode cX1_init 1 = .ok (.invokespecial 3, 3) := by decide +kernel
theorem dX1_init_4 : decode cX1_init 4 = .ok (.aload_n 0, 1) := by decide +kernel
theorem dX1_init_5 : decode cX1_init 5 = .ok (.bipush 6, 2) := by decide +kernel
theorem dX1_init_7 : decode cX1_init 7 = .ok (.putfield 9, 3) := by decide +kernel
theorem dX1_init_10 : decode cX1_init 10 = .ok (.aload_n 0, 1) := by decide +kernel
theorem dX1_init_11 : decode cX1_init 11 = .ok (.iconst 0, 1) := by decide +kernel
theorem dX1_init_12 : decode cX1_init 12 = .ok (.putfield 15, 3) := by decide +kernel
theorem dX1_init_15 : decode cX1_init 15 = .ok (.aload_n 0, 1) := by decide +kernel
theorem dX1_init_16 : decode cX1_init 16 = .ok (.iconst 0, 1) := by decide +kernel
theorem dX1_init_17 : decode cX1_init 17 = .ok (.putfield 18, 3) := by decide +kernel
theorem dX1_init_20 : decode cX1_init 20 = .ok (.aload_n 0, 1) := by decide +kernel
theorem dX1_init_21 : decode cX1_init 21 = .ok (.iconst 0, 1) := by decide +kernel
theorem dX1_init_22 : decode cX1_init 22 = .ok (.putfield 21, 3) := by decide +kernel
theorem dX1_init_25 : decode cX1_init 25 = .ok (.aload_n 0, 1) := by decide +kernel
theorem dX1_init_26 : decode cX1_init 26 = .ok (.iconst 0, 1) := by decide +kernel
theorem dX1_init_27 : decode cX1_init 27 = .ok (.putfield 24, 3) := by decide +kernel
theorem dX1_init_30 : decode cX1_init 30 = .ok (.aload_n 0, 1) := by decide +kernel
theorem dX1_init_31 : decode cX1_init 31 = .ok (.bipush 10, 2) := by decide +kernel
theorem dX1_init_33 : decode cX1_init 33 = .ok (.newarray .int, 2) := by decide +kernel
theorem dX1_init_35 : decode cX1_init 35 = .ok (.putfield 27, 3) := by decide +kernel
theorem dX1_init_38 : decode cX1_init 38 = .ok (.aload_n 0, 1) := by decide +kernel
theorem dX1_init_39 : decode cX1_init 39 = .ok (.bipush 10, 2) := by decide +kernel
theorem dX1_init_41 : decode cX1_init 41 = .ok (.newarray .int, 2) := by decide +kernel
theorem dX1_init_43 : decode cX1_init 43 = .ok (.putfield 31, 3) := by decide +kernel
theorem dX1_init_46 : decode cX1_init 46 = .ok (.aload_n 0, 1) := by decide +kernel
theorem dX1_init_47 : decode cX1_init 47 = .ok (.bipush 10, 2) := by decide +kernel
theorem dX1_init_49 : decode cX1_init 49 = .ok (.newarray .int, 2) := by decide +kernel
theorem dX1_init_51 : decode cX1_init 51 = .ok (.putfield 34, 3) := by decide +kernel
theorem dX1_init_54 : decode cX1_init 54 = .ok (.aload_n 0, 1) := by decide +kernel
theorem dX1_init_55 : decode cX1_init 55 = .ok (.iconst 5, 1) := by decide +kernel
theorem dX1_init_56 : decode cX1_init 56 = .ok (.newarray .int, 2) := by decide +kernel
theorem dX1_init_58 : decode cX1_init 58 = .ok (.putfield 37, 3) := by decide +kernel
theorem dX1_init_61 : decode cX1_init 61 = .ok (.aload_n 0, 1) := by decide +kernel
theorem dX1_init_62 : decode cX1_init 62 = .ok (.iconst 5, 1) := by decide +kernel
theorem dX1_init_63 : decode cX1_init 63 = .ok (.newarray .int, 2) := by decide +kernel
theorem dX1_init_65 : decode cX1_init 65 = .ok (.putfield 40, 3) := by decide +kernel
theorem dX1_init_68 : decode cX1_init 68 = .ok (.aload_n 0, 1) := by decide +kernel
theorem dX1_init_69 : decode cX1_init 69 = .ok (.iconst 4, 1) := by decide +kernel
theorem dX1_init_70 : decode cX1_init 70 = .ok (.newarray .int, 2) := by decide +kernel
theorem dX1_init_72 : decode cX1_init 72 = .ok (.putfield 43, 3) := by decide +kernel
theorem dX1_init_75 : decode cX1_init 75 = .ok (.aload_n 0, 1) := by decide +kernel
theorem dX1_init_76 : decode cX1_init 76 = .ok (.iconst 4, 1) := by decide +kernel
theorem dX1_init_77 : decode cX1_init 77 = .ok (.newarray .int, 2) := by decide +kernel
theorem dX1_init_79 : decode cX1_init 79 = .ok (.putfield 46, 3) := by decide +kernel
theorem dX1_init_82 : decode cX1_init 82 = .ok (.aload_n 0, 1) := by decide +kernel
theorem dX1_init_83 : decode cX1_init 83 = .ok (.bipush 90, 2) := by decide +kernel
theorem dX1_init_85 : decode cX1_init 85 = .ok (.newarray .int, 2) := by decide +kernel
theorem dX1_init_87 : decode cX1_init 87 = .ok (.putfield 49, 3) := by decide +kernel
theorem dX1_init_90 : decode cX1_init 90 = .ok (.aload_n 0, 1) := by decide +kernel
theorem dX1_init_91 : decode cX1_init 91 = .ok (.bipush 50, 2) := by decide +kernel
theorem dX1_init_93 : decode cX1_init 93 = .ok (.newarray .int, 2) := by decide +kernel
theorem dX1_init_95 : decode cX1_init 95 = .ok (.putfield 52, 3) := by decide +kernel
theorem dX1_init_98 : decode cX1_init 98 = .ok (.aload_n 0, 1) := by decide +kernel
theorem dX1_init_99 : decode cX1_init 99 = .ok (.bipush 9, 2) := by decide +kernel
theorem dX1_init_101 : decode cX1_init 101 = .ok (.newarray .int, 2) := by decide +kernel
theorem dX1_init_103 : decode cX1_init 103 = .ok (.putfield 55, 3) := by decide +kernel
theorem dX1_init_106 : decode cX1_init 106 = .ok (.aload_n 0, 1) := by decide +kernel
theorem dX1_init_107 : decode cX1_init 107 = .ok (.new 58, 3) := by decide +kernel
theorem dX1_init_110 : decode cX1_init 110 = .ok (.dup, 1) := by decide +kernel
theorem dX1_init_111 : decode cX1_init 111 = .ok (.invokespecial 60, 3) := by decide +kernel
theorem dX1_init_114 : decode cX1_init 114 = .ok (.putfield 61, 3) := by decide +kernel
theorem dX1_init_117 : decode cX1_init 117 = .ok (.return_, 1) := by decide +kernel
theorem wo_RX1_3 : Cond.methodLink RX1 3 objectInit ∈ TB := tbm 259 (by decide +kernel) (by decide +kernel)
theorem fpf_1_5 : Fpk TX1 5 true (.array .int) := ⟨rfl, by decide +kernel⟩
theorem fpf_1_6 : Fpk TX1 6 true (.array .int) := ⟨rfl, by decide +kernel⟩
theorem fpf_1_7 : Fpk TX1 7 true (.array .int) := ⟨rfl, by decide +kernel⟩
theorem fpf_1_8 : Fpk TX1 8 true (.array .int) := ⟨rfl, by decide +kernel⟩
theorem fpf_1_9 : Fpk TX1 9 true (.array .int) := ⟨rfl, by decide +kernel⟩
theorem fpf_1_10 : Fpk TX1 10 true (.array .int) := ⟨rfl, by decide +kernel⟩
theorem fpf_1_11 : Fpk TX1 11 true (.array .int) := ⟨rfl, by decide +kernel⟩
theorem fpf_1_12 : Fpk TX1 12 true (.array .int) := ⟨rfl, by decide +kernel⟩
theorem fpf_1_13 : Fpk TX1 13 true (.array .int) := ⟨rfl, by decide +kernel⟩
theorem fpf_1_14 : Fpk TX1 14 true (.array .int) := ⟨rfl, by decide +kernel⟩
theorem wn_RX1_58 : Cond.classLink RX1 58 RX3 ∈ TB := tbm 260 (by decide +kernel) (by decide +kernel)
theorem wn2_3 : Cond.instantiable RX3 6 ∈ TB := tbm 261 (by decide +kernel) (by decide +kernel)
theorem wn3_3 : Cond.initialized RX3 ∈ TB := tbm 139 (by decide +kernel) (by decide +kernel)
theorem wk_RX1_60 : Ic RX1 60 yX3_init cX3_init 1 := ⟨Or.inr ⟨"BetterThieves", by decide +kernel⟩, tbm 263 (by decide +kernel) (by decide +kernel), tbm 139 (by decide +kernel) (by decide +kernel), tbm 264 (by decide +kernel) (by decide +kernel), rfl, by decide +kernel, by decide⟩
theorem fpf_1_15 : Fpk TX1 15 true (.object "BetterThieves$Law") := ⟨rfl, by decide +kernel⟩
def cE1 (t : Nat) (ρ : Rh_) : Rh_ :=
 (pR (cE3 (t + 11) (nwR (pR (nwR (pR (nwR (pR (nwR (pR (nwR (pR (nwR (pR (nwR (pR (nwR (pR (nwR (pR (nwR (pR (nwR (pI (pI (pI (pI (pI ρ t 0 (6 : Int32)) t 1 (0 : Int32)) t 2 (0 : Int32)) t 3 (0 : Int32)) t 4 (0 : Int32)) (t + 1)) t 5 (t + 1)) (t + 2)) t 6 (t + 2)) (t + 3)) t 7 (t + 3)) (t + 4)) t 8 (t + 4)) (t + 5)) t 9 (t + 5)) (t + 6)) t 10 (t + 6)) (t + 7)) t 11 (t + 7)) (t + 8)) t 12 (t + 8)) (t + 9)) t 13 (t + 9)) (t + 10)) t 14 (t + 10)) (t + 11))) t 15 (t + 11))
set_option maxHeartbeats 4000000 in
set_option maxRecDepth 20000 in
theorem k1 (t : Nat) (ρ : Rh_) (h_0 : SHL[t]? = some (0, 1)) (h_1 : SHL[t + 1]? = some (1, 10)) (h_2 : SHL[t + 2]? = some (1, 10)) (h_3 : SHL[t + 3]? = some (1, 10)) (h_4 : SHL[t + 4]? = some (1, 5)) (h_5 : SHL[t + 5]? = some (1, 5)) (h_6 : SHL[t + 6]? = some (1, 4)) (h_7 : SHL[t + 7]? = some (1, 4)) (h_8 : SHL[t + 8]? = some (1, 90)) (h_9 : SHL[t + 9]? = some (1, 50)) (h_10 : SHL[t + 10]? = some (1, 9)) (h_11 : SHL[t + 11]? = some (0, 3)) (h_12 : SHL[t + 12]? = some (1, 300)) (h_13 : SHL[t + 13]? = some (1, 300)) (h_14 : SHL[t + 14]? = some (1, 30)) (h_15 : SHL[t + 15]? = some (1, 7)) : Rj l D cA h0 ad yX1_init cX1_init 1 none true 3 15 840 (fun _ : Unit => (none, SHL.take (t + 16), (cE1 t ρ).1, (cE1 t ρ).2)) [.ref (h0 + t)] (SHL.take (t + 1)) ρ.1 ρ.2 (some ()) := by
  refine Rj.of (by decide) (fun _ => rfl) (Nat.le_of_ble_eq_true rfl) ?_
  refine tj_lv0 (lv' := [(0, .ref (h0 + t))]) rfl ?_
  refine tj_aload_n (q := 1) dX1_init_0 rfl (i := 0) rfl (pl := 0) rfl ?_
  refine c_obj (q := 4) wo_RX1_3 wo_i wo_c dX1_init_1 rfl (Nat.le_of_ble_eq_true rfl) (Nat.le_of_ble_eq_true rfl) ?_
  refine tj_aload_n (q := 5) dX1_init_4 rfl (i := 0) rfl (pl := 0) rfl ?_
  refine tj_bipush (q := 7) (v := 6) dX1_init_5 rfl (by decide) ?_
  refine c_putI (q := 10) (tk_at (i := t) h_0 (by omega)) fok_1_0 tok_1 fpk_1_0 wl_RX1_9 dX1_init_7 rfl rfl rfl ?_
  refine tj_aload_n (q := 11) dX1_init_10 rfl (i := 0) rfl (pl := 0) rfl ?_
  refine tj_iconst (q := 12) (v := 0) dX1_init_11 rfl (by decide) ?_
  refine c_putI (q := 15) (tk_at (i := t) h_0 (by omega)) fok_1_1 tok_1 fpk_1_1 wl_RX1_15 dX1_init_12 rfl rfl rfl ?_
  refine tj_aload_n (q := 16) dX1_init_15 rfl (i := 0) rfl (pl := 0) rfl ?_
  refine tj_iconst (q := 17) (v := 0) dX1_init_16 rfl (by decide) ?_
  refine c_putI (q := 20) (tk_at (i := t) h_0 (by omega)) fok_1_2 tok_1 fpk_1_2 wl_RX1_18 dX1_init_17 rfl rfl rfl ?_
  refine tj_aload_n (q := 21) dX1_init_20 rfl (i := 0) rfl (pl := 0) rfl ?_
  refine tj_iconst (q := 22) (v := 0) dX1_init_21 rfl (by decide) ?_
  refine c_putI (q := 25) (tk_at (i := t) h_0 (by omega)) fok_1_3 tok_1 fpk_1_3 wl_RX1_21 dX1_init_22 rfl rfl rfl ?_
  refine tj_aload_n (q := 26) dX1_init_25 rfl (i := 0) rfl (pl := 0) rfl ?_
  refine tj_iconst (q := 27) (v := 0) dX1_init_26 rfl (by decide) ?_
  refine c_putI (q := 30) (tk_at (i := t) h_0 (by omega)) fok_1_4 tok_1 fpk_1_4 wl_RX1_24 dX1_init_27 rfl rfl rfl ?_
  refine tj_aload_n (q := 31) dX1_init_30 rfl (i := 0) rfl (pl := 0) rfl ?_
  refine tj_bipush (q := 33) (v := 10) dX1_init_31 rfl (by decide) ?_
  refine c_newaI (q := 35) (N := 10) (by decide) (by decide) h_1 wa_int (Nat.le_of_ble_eq_true rfl) (Nat.le_of_ble_eq_true rfl) dX1_init_33 rfl ?_
  refine c_putF (q := 38) (j := t + 1) (tk_at (i := t) h_0 (by omega)) fok_1_5 tok_1 fpf_1_5 wl_RX1_27 dX1_init_35 rfl rfl rfl rfl ?_
  refine tj_aload_n (q := 39) dX1_init_38 rfl (i := 0) rfl (pl := 0) rfl ?_
  refine tj_bipush (q := 41) (v := 10) dX1_init_39 rfl (by decide) ?_
  refine c_newaI (q := 43) (N := 10) (by decide) (by decide) h_2 wa_int (Nat.le_of_ble_eq_true rfl) (Nat.le_of_ble_eq_true rfl) dX1_init_41 rfl ?_
  refine c_putF (q := 46) (j := t + 2) (tk_at (i := t) h_0 (by omega)) fok_1_6 tok_1 fpf_1_6 wl_RX1_31 dX1_init_43 rfl rfl rfl rfl ?_
  refine tj_aload_n (q := 47) dX1_init_46 rfl (i := 0) rfl (pl := 0) rfl ?_
  refine tj_bipush (q := 49) (v := 10) dX1_init_47 rfl (by decide) ?_
  refine c_newaI (q := 51) (N := 10) (by decide) (by decide) h_3 wa_int (Nat.le_of_ble_eq_true rfl) (Nat.le_of_ble_eq_true rfl) dX1_init_49 rfl ?_
  refine c_putF (q := 54) (j := t + 3) (tk_at (i := t) h_0 (by omega)) fok_1_7 tok_1 fpf_1_7 wl_RX1_34 dX1_init_51 rfl rfl rfl rfl ?_
  refine tj_aload_n (q := 55) dX1_init_54 rfl (i := 0) rfl (pl := 0) rfl ?_
  refine tj_iconst (q := 56) (v := 5) dX1_init_55 rfl (by decide) ?_
  refine c_newaI (q := 58) (N := 5) (by decide) (by decide) h_4 wa_int (Nat.le_of_ble_eq_true rfl) (Nat.le_of_ble_eq_true rfl) dX1_init_56 rfl ?_
  refine c_putF (q := 61) (j := t + 4) (tk_at (i := t) h_0 (by omega)) fok_1_8 tok_1 fpf_1_8 wl_RX1_37 dX1_init_58 rfl rfl rfl rfl ?_
  refine tj_aload_n (q := 62) dX1_init_61 rfl (i := 0) rfl (pl := 0) rfl ?_
  refine tj_iconst (q := 63) (v := 5) dX1_init_62 rfl (by decide) ?_
  refine c_newaI (q := 65) (N := 5) (by decide) (by decide) h_5 wa_int (Nat.le_of_ble_eq_true rfl) (Nat.le_of_ble_eq_true rfl) dX1_init_63 rfl ?_
  refine c_putF (q := 68) (j := t + 5) (tk_at (i := t) h_0 (by omega)) fok_1_9 tok_1 fpf_1_9 wl_RX1_40 dX1_init_65 rfl rfl rfl rfl ?_
  refine tj_aload_n (q := 69) dX1_init_68 rfl (i := 0) rfl (pl := 0) rfl ?_
  refine tj_iconst (q := 70) (v := 4) dX1_init_69 rfl (by decide) ?_
  refine c_newaI (q := 72) (N := 4) (by decide) (by decide) h_6 wa_int (Nat.le_of_ble_eq_true rfl) (Nat.le_of_ble_eq_true rfl) dX1_init_70 rfl ?_
  refine c_putF (q := 75) (j := t + 6) (tk_at (i := t) h_0 (by omega)) fok_1_10 tok_1 fpf_1_10 wl_RX1_43 dX1_init_72 rfl rfl rfl rfl ?_
  refine tj_aload_n (q := 76) dX1_init_75 rfl (i := 0) rfl (pl := 0) rfl ?_
  refine tj_iconst (q := 77) (v := 4) dX1_init_76 rfl (by decide) ?_
  refine c_newaI (q := 79) (N := 4) (by decide) (by decide) h_7 wa_int (Nat.le_of_ble_eq_true rfl) (Nat.le_of_ble_eq_true rfl) dX1_init_77 rfl ?_
  refine c_putF (q := 82) (j := t + 7) (tk_at (i := t) h_0 (by omega)) fok_1_11 tok_1 fpf_1_11 wl_RX1_46 dX1_init_79 rfl rfl rfl rfl ?_
  refine tj_aload_n (q := 83) dX1_init_82 rfl (i := 0) rfl (pl := 0) rfl ?_
  refine tj_bipush (q := 85) (v := 90) dX1_init_83 rfl (by decide) ?_
  refine c_newaI (q := 87) (N := 90) (by decide) (by decide) h_8 wa_int (Nat.le_of_ble_eq_true rfl) (Nat.le_of_ble_eq_true rfl) dX1_init_85 rfl ?_
  refine c_putF (q := 90) (j := t + 8) (tk_at (i := t) h_0 (by omega)) fok_1_12 tok_1 fpf_1_12 wl_RX1_49 dX1_init_87 rfl rfl rfl rfl ?_
  refine tj_aload_n (q := 91) dX1_init_90 rfl (i := 0) rfl (pl := 0) rfl ?_
  refine tj_bipush (q := 93) (v := 50) dX1_init_91 rfl (by decide) ?_
  refine c_newaI (q := 95) (N := 50) (by decide) (by decide) h_9 wa_int (Nat.le_of_ble_eq_true rfl) (Nat.le_of_ble_eq_true rfl) dX1_init_93 rfl ?_
  refine c_putF (q := 98) (j := t + 9) (tk_at (i := t) h_0 (by omega)) fok_1_13 tok_1 fpf_1_13 wl_RX1_52 dX1_init_95 rfl rfl rfl rfl ?_
  refine tj_aload_n (q := 99) dX1_init_98 rfl (i := 0) rfl (pl := 0) rfl ?_
  refine tj_bipush (q := 101) (v := 9) dX1_init_99 rfl (by decide) ?_
  refine c_newaI (q := 103) (N := 9) (by decide) (by decide) h_10 wa_int (Nat.le_of_ble_eq_true rfl) (Nat.le_of_ble_eq_true rfl) dX1_init_101 rfl ?_
  refine c_putF (q := 106) (j := t + 10) (tk_at (i := t) h_0 (by omega)) fok_1_14 tok_1 fpf_1_14 wl_RX1_55 dX1_init_103 rfl rfl rfl rfl ?_
  refine tj_aload_n (q := 107) dX1_init_106 rfl (i := 0) rfl (pl := 0) rfl ?_
  refine c_new (q := 110) (ci := 3) rfl iX3 tok_3 dok_3 rfl h_11 wn_RX1_58 wn2_3 wn3_3 (Nat.le_of_ble_eq_true rfl) (Nat.le_of_ble_eq_true rfl) dX1_init_107 rfl ?_
  refine tj_dup (q := 111) dX1_init_110 rfl rfl ?_
  refine c_call (q := 114) wk_RX1_60 (k3 (t + 11) _ h_11 h_12 h_13 h_14 h_15) (Nat.le_of_ble_eq_true rfl) ⟨(Nat.le_of_ble_eq_true rfl), (Nat.le_of_ble_eq_true rfl)⟩ (Nat.le_of_ble_eq_true rfl) dX1_init_111 rfl ?_
  refine c_putF (q := 117) (j := t + 11) (tk_at (i := t) h_0 (by omega)) fok_1_15 tok_1 fpf_1_15 wl_RX1_61 dX1_init_114 rfl rfl rfl rfl ?_
  exact tj_vret rfl rfl (Nat.le_of_ble_eq_true rfl) (Nat.le_of_ble_eq_true rfl) dX1_init_117

theorem dX9_init_0 : decode cX9_init 0 = .ok (.aload_n 0, 1) := by decide +kernel
theorem dX9_init_1 : decode cX9_init 1 = .ok (.invokespecial 3, 3) := by decide +kernel
theorem dX9_init_4 : decode cX9_init 4 = .ok (.aload_n 0, 1) := by decide +kernel
theorem dX9_init_5 : decode cX9_init 5 = .ok (.bipush 100, 2) := by decide +kernel
theorem dX9_init_7 : decode cX9_init 7 = .ok (.newarray .int, 2) := by decide +kernel
theorem dX9_init_9 : decode cX9_init 9 = .ok (.putfield 11, 3) := by decide +kernel
theorem dX9_init_12 : decode cX9_init 12 = .ok (.aload_n 0, 1) := by decide +kernel
theorem dX9_init_13 : decode cX9_init 13 = .ok (.bipush 100, 2) := by decide +kernel
theorem dX9_init_15 : decode cX9_init 15 = .ok (.newarray .int, 2) := by decide +kernel
theorem dX9_init_17 : decode cX9_init 17 = .ok (.putfield 15, 3) := by decide +kernel
theorem dX9_init_20 : decode cX9_init 20 = .ok (.aload_n 0, 1) := by decide +kernel
theorem dX9_init_21 : decode cX9_init 21 = .ok (.bipush 100, 2) := by decide +kernel
theorem dX9_init_23 : decode cX9_init 23 = .ok (.newarray .int, 2) := by decide +kernel
theorem dX9_init_25 : decode cX9_init 25 = .ok (.putfield 18, 3) := by decide +kernel
theorem dX9_init_28 : decode cX9_init 28 = .ok (.aload_n 0, 1) := by decide +kernel
theorem dX9_init_29 : decode cX9_init 29 = .ok (.bipush 100, 2) := by decide +kernel
theorem dX9_init_31 : decode cX9_init 31 = .ok (.newarray .int, 2) := by decide +kernel
theorem dX9_init_33 : decode cX9_init 33 = .ok (.putfield 21, 3) := by decide +kernel
theorem dX9_init_36 : decode cX9_init 36 = .ok (.aload_n 0, 1) := by decide +kernel
theorem dX9_init_37 : decode cX9_init 37 = .ok (.iconst 0, 1) := by decide +kernel
theorem dX9_init_38 : decode cX9_init 38 = .ok (.putfield 24, 3) := by decide +kernel
theorem dX9_init_41 : decode cX9_init 41 = .ok (.aload_n 0, 1) := by decide +kernel
theorem dX9_init_42 : decode cX9_init 42 = .ok (.bipush 55, 2) := by decide +kernel
theorem dX9_init_44 : decode cX9_init 44 = .ok (.newarray .int, 2) := by decide +kernel
theorem dX9_init_46 : decode cX9_init 46 = .ok (.putfield 28, 3) := by decide +kernel
theorem dX9_init_49 : decode cX9_init 49 = .ok (.aload_n 0, 1) := by decide +kernel
theorem dX9_init_50 : decode cX9_init 50 = .ok (.bipush 55, 2) := by decide +kernel
theorem dX9_init_52 : decode cX9_init 52 = .ok (.newarray .int, 2) := by decide +kernel
theorem dX9_init_54 : decode cX9_init 54 = .ok (.putfield 31, 3) := by decide +kernel
theorem dX9_init_57 : decode cX9_init 57 = .ok (.aload_n 0, 1) := by decide +kernel
theorem dX9_init_58 : decode cX9_init 58 = .ok (.bipush 55, 2) := by decide +kernel
theorem dX9_init_60 : decode cX9_init 60 = .ok (.newarray .int, 2) := by decide +kernel
theorem dX9_init_62 : decode cX9_init 62 = .ok (.putfield 34, 3) := by decide +kernel
theorem dX9_init_65 : decode cX9_init 65 = .ok (.aload_n 0, 1) := by decide +kernel
theorem dX9_init_66 : decode cX9_init 66 = .ok (.bipush 55, 2) := by decide +kernel
theorem dX9_init_68 : decode cX9_init 68 = .ok (.newarray .int, 2) := by decide +kernel
theorem dX9_init_70 : decode cX9_init 70 = .ok (.putfield 37, 3) := by decide +kernel
theorem dX9_init_73 : decode cX9_init 73 = .ok (.aload_n 0, 1) := by decide +kernel
theorem dX9_init_74 : decode cX9_init 74 = .ok (.iconst 0, 1) := by decide +kernel
theorem dX9_init_75 : decode cX9_init 75 = .ok (.putfield 40, 3) := by decide +kernel
theorem dX9_init_78 : decode cX9_init 78 = .ok (.return_, 1) := by decide +kernel
theorem wo_RX9_3 : Cond.methodLink RX9 3 objectInit ∈ TB := tbm 497 (by decide +kernel) (by decide +kernel)
theorem fpf_9_0 : Fpk TX9 0 true (.array .int) := ⟨rfl, by decide +kernel⟩
theorem fpf_9_1 : Fpk TX9 1 true (.array .int) := ⟨rfl, by decide +kernel⟩
theorem fpf_9_2 : Fpk TX9 2 true (.array .int) := ⟨rfl, by decide +kernel⟩
theorem fpf_9_3 : Fpk TX9 3 true (.array .int) := ⟨rfl, by decide +kernel⟩
theorem fpf_9_5 : Fpk TX9 5 true (.array .int) := ⟨rfl, by decide +kernel⟩
theorem fpf_9_6 : Fpk TX9 6 true (.array .int) := ⟨rfl, by decide +kernel⟩
theorem fpf_9_7 : Fpk TX9 7 true (.array .int) := ⟨rfl, by decide +kernel⟩
theorem fpf_9_8 : Fpk TX9 8 true (.array .int) := ⟨rfl, by decide +kernel⟩
def cE9 (t : Nat) (ρ : Rh_) : Rh_ :=
 (pI (pR (nwR (pR (nwR (pR (nwR (pR (nwR (pI (pR (nwR (pR (nwR (pR (nwR (pR (nwR ρ (t + 1)) t 0 (t + 1)) (t + 2)) t 1 (t + 2)) (t + 3)) t 2 (t + 3)) (t + 4)) t 3 (t + 4)) t 4 (0 : Int32)) (t + 5)) t 5 (t + 5)) (t + 6)) t 6 (t + 6)) (t + 7)) t 7 (t + 7)) (t + 8)) t 8 (t + 8)) t 9 (0 : Int32))
set_option maxHeartbeats 4000000 in
set_option maxRecDepth 20000 in
theorem k9 (t : Nat) (ρ : Rh_) (h_0 : SHL[t]? = some (0, 9)) (h_1 : SHL[t + 1]? = some (1, 100)) (h_2 : SHL[t + 2]? = some (1, 100)) (h_3 : SHL[t + 3]? = some (1, 100)) (h_4 : SHL[t + 4]? = some (1, 100)) (h_5 : SHL[t + 5]? = some (1, 55)) (h_6 : SHL[t + 6]? = some (1, 55)) (h_7 : SHL[t + 7]? = some (1, 55)) (h_8 : SHL[t + 8]? = some (1, 55)) : Rj l D cA h0 ad yX9_init cX9_init 1 none true 2 8 620 (fun _ : Unit => (none, SHL.take (t + 9), (cE9 t ρ).1, (cE9 t ρ).2)) [.ref (h0 + t)] (SHL.take (t + 1)) ρ.1 ρ.2 (some ()) := by
  refine Rj.of (by decide) (fun _ => rfl) (Nat.le_of_ble_eq_true rfl) ?_
  refine tj_lv0 (lv' := [(0, .ref (h0 + t))]) rfl ?_
  refine tj_aload_n (q := 1) dX9_init_0 rfl (i := 0) rfl (pl := 0) rfl ?_
  refine c_obj (q := 4) wo_RX9_3 wo_i wo_c dX9_init_1 rfl (Nat.le_of_ble_eq_true rfl) (Nat.le_of_ble_eq_true rfl) ?_
  refine tj_aload_n (q := 5) dX9_init_4 rfl (i := 0) rfl (pl := 0) rfl ?_
  refine tj_bipush (q := 7) (v := 100) dX9_init_5 rfl (by decide) ?_
  refine c_newaI (q := 9) (N := 100) (by decide) (by decide) h_1 wa_int (Nat.le_of_ble_eq_true rfl) (Nat.le_of_ble_eq_true rfl) dX9_init_7 rfl ?_
  refine c_putF (q := 12) (j := t + 1) (tk_at (i := t) h_0 (by omega)) fok_9_0 tok_9 fpf_9_0 wl_RX9_11 dX9_init_9 rfl rfl rfl rfl ?_
  refine tj_aload_n (q := 13) dX9_init_12 rfl (i := 0) rfl (pl := 0) rfl ?_
  refine tj_bipush (q := 15) (v := 100) dX9_init_13 rfl (by decide) ?_
  refine c_newaI (q := 17) (N := 100) (by decide) (by decide) h_2 wa_int (Nat.le_of_ble_eq_true rfl) (Nat.le_of_ble_eq_true rfl) dX9_init_15 rfl ?_
  refine c_putF (q := 20) (j := t + 2) (tk_at (i := t) h_0 (by omega)) fok_9_1 tok_9 fpf_9_1 wl_RX9_15 dX9_init_17 rfl rfl rfl rfl ?_
  refine tj_aload_n (q := 21) dX9_init_20 rfl (i := 0) rfl (pl := 0) rfl ?_
  refine tj_bipush (q := 23) (v := 100) dX9_init_21 rfl (by decide) ?_
  refine c_newaI (q := 25) (N := 100) (by decide) (by decide) h_3 wa_int (Nat.le_of_ble_eq_true rfl) (Nat.le_of_ble_eq_true rfl) dX9_init_23 rfl ?_
  refine c_putF (q := 28) (j := t + 3) (tk_at (i := t) h_0 (by omega)) fok_9_2 tok_9 fpf_9_2 wl_RX9_18 dX9_init_25 rfl rfl rfl rfl ?_
  refine tj_aload_n (q := 29) dX9_init_28 rfl (i := 0) rfl (pl := 0) rfl ?_
  refine tj_bipush (q := 31) (v := 100) dX9_init_29 rfl (by decide) ?_
  refine c_newaI (q := 33) (N := 100) (by decide) (by decide) h_4 wa_int (Nat.le_of_ble_eq_true rfl) (Nat.le_of_ble_eq_true rfl) dX9_init_31 rfl ?_
  refine c_putF (q := 36) (j := t + 4) (tk_at (i := t) h_0 (by omega)) fok_9_3 tok_9 fpf_9_3 wl_RX9_21 dX9_init_33 rfl rfl rfl rfl ?_
  refine tj_aload_n (q := 37) dX9_init_36 rfl (i := 0) rfl (pl := 0) rfl ?_
  refine tj_iconst (q := 38) (v := 0) dX9_init_37 rfl (by decide) ?_
  refine c_putI (q := 41) (tk_at (i := t) h_0 (by omega)) fok_9_4 tok_9 fpk_9_4 wl_RX9_24 dX9_init_38 rfl rfl rfl ?_
  refine tj_aload_n (q := 42) dX9_init_41 rfl (i := 0) rfl (pl := 0) rfl ?_
  refine tj_bipush (q := 44) (v := 55) dX9_init_42 rfl (by decide) ?_
  refine c_newaI (q := 46) (N := 55) (by decide) (by decide) h_5 wa_int (Nat.le_of_ble_eq_true rfl) (Nat.le_of_ble_eq_true rfl) dX9_init_44 rfl ?_
  refine c_putF (q := 49) (j := t + 5) (tk_at (i := t) h_0 (by omega)) fok_9_5 tok_9 fpf_9_5 wl_RX9_28 dX9_init_46 rfl rfl rfl rfl ?_
  refine tj_aload_n (q := 50) dX9_init_49 rfl (i := 0) rfl (pl := 0) rfl ?_
  refine tj_bipush (q := 52) (v := 55) dX9_init_50 rfl (by decide) ?_
  refine c_newaI (q := 54) (N := 55) (by decide) (by decide) h_6 wa_int (Nat.le_of_ble_eq_true rfl) (Nat.le_of_ble_eq_true rfl) dX9_init_52 rfl ?_
  refine c_putF (q := 57) (j := t + 6) (tk_at (i := t) h_0 (by omega)) fok_9_6 tok_9 fpf_9_6 wl_RX9_31 dX9_init_54 rfl rfl rfl rfl ?_
  refine tj_aload_n (q := 58) dX9_init_57 rfl (i := 0) rfl (pl := 0) rfl ?_
  refine tj_bipush (q := 60) (v := 55) dX9_init_58 rfl (by decide) ?_
  refine c_newaI (q := 62) (N := 55) (by decide) (by decide) h_7 wa_int (Nat.le_of_ble_eq_true rfl) (Nat.le_of_ble_eq_true rfl) dX9_init_60 rfl ?_
  refine c_putF (q := 65) (j := t + 7) (tk_at (i := t) h_0 (by omega)) fok_9_7 tok_9 fpf_9_7 wl_RX9_34 dX9_init_62 rfl rfl rfl rfl ?_
  refine tj_aload_n (q := 66) dX9_init_65 rfl (i := 0) rfl (pl := 0) rfl ?_
  refine tj_bipush (q := 68) (v := 55) dX9_init_66 rfl (by decide) ?_
  refine c_newaI (q := 70) (N := 55) (by decide) (by decide) h_8 wa_int (Nat.le_of_ble_eq_true rfl) (Nat.le_of_ble_eq_true rfl) dX9_init_68 rfl ?_
  refine c_putF (q := 73) (j := t + 8) (tk_at (i := t) h_0 (by omega)) fok_9_8 tok_9 fpf_9_8 wl_RX9_37 dX9_init_70 rfl rfl rfl rfl ?_
  refine tj_aload_n (q := 74) dX9_init_73 rfl (i := 0) rfl (pl := 0) rfl ?_
  refine tj_iconst (q := 75) (v := 0) dX9_init_74 rfl (by decide) ?_
  refine c_putI (q := 78) (tk_at (i := t) h_0 (by omega)) fok_9_9 tok_9 fpk_9_9 wl_RX9_40 dX9_init_75 rfl rfl rfl ?_
  exact tj_vret rfl rfl (Nat.le_of_ble_eq_true rfl) (Nat.le_of_ble_eq_true rfl) dX9_init_78

theorem dX10_init_0 : decode cX10_init 0 = .ok (.aload_n 0, 1) := by decide +kernel
theorem dX10_init_1 : decode cX10_init 1 = .ok (.invokespecial 3, 3) := by decide +kernel
theorem dX10_init_4 : decode cX10_init 4 = .ok (.aload_n 0, 1) := by decide +kernel
theorem dX10_init_5 : decode cX10_init 5 = .ok (.sipush 1700, 3) := by decide +kernel
theorem dX10_init_8 : decode cX10_init 8 = .ok (.newarray .int, 2) := by decide +kernel
theorem dX10_init_10 : decode cX10_init 10 = .ok (.putfield 9, 3) := by decide +kernel
theorem dX10_init_13 : decode cX10_init 13 = .ok (.aload_n 0, 1) := by decide +kernel
theorem dX10_init_14 : decode cX10_init 14 = .ok (.iconst 0, 1) := by decide +kernel
theorem dX10_init_15 : decode cX10_init 15 = .ok (.putfield 15, 3) := by decide +kernel
theorem dX10_init_18 : decode cX10_init 18 = .ok (.aload_n 0, 1) := by decide +kernel
theorem dX10_init_19 : decode cX10_init 19 = .ok (.sipush 1701, 3) := by decide +kernel
theorem dX10_init_22 : decode cX10_init 22 = .ok (.newarray .int, 2) := by decide +kernel
theorem dX10_init_24 : decode cX10_init 24 = .ok (.putfield 19, 3) := by decide +kernel
theorem dX10_init_27 : decode cX10_init 27 = .ok (.aload_n 0, 1) := by decide +kernel
theorem dX10_init_28 : decode cX10_init 28 = .ok (.sipush 1701, 3) := by decide +kernel
theorem dX10_init_31 : decode cX10_init 31 = .ok (.newarray .int, 2) := by decide +kernel
theorem dX10_init_33 : decode cX10_init 33 = .ok (.putfield 22, 3) := by decide +kernel
theorem dX10_init_36 : decode cX10_init 36 = .ok (.aload_n 0, 1) := by decide +kernel
theorem dX10_init_37 : decode cX10_init 37 = .ok (.sipush 1701, 3) := by decide +kernel
theorem dX10_init_40 : decode cX10_init 40 = .ok (.newarray .long, 2) := by decide +kernel
theorem dX10_init_42 : decode cX10_init 42 = .ok (.putfield 25, 3) := by decide +kernel
theorem dX10_init_45 : decode cX10_init 45 = .ok (.aload_n 0, 1) := by decide +kernel
theorem dX10_init_46 : decode cX10_init 46 = .ok (.iconst 0, 1) := by decide +kernel
theorem dX10_init_47 : decode cX10_init 47 = .ok (.putfield 29, 3) := by decide +kernel
theorem dX10_init_50 : decode cX10_init 50 = .ok (.aload_n 0, 1) := by decide +kernel
theorem dX10_init_51 : decode cX10_init 51 = .ok (.iconst 0, 1) := by decide +kernel
theorem dX10_init_52 : decode cX10_init 52 = .ok (.putfield 32, 3) := by decide +kernel
theorem dX10_init_55 : decode cX10_init 55 = .ok (.aload_n 0, 1) := by decide +kernel
theorem dX10_init_56 : decode cX10_init 56 = .ok (.iconst 0, 1) := by decide +kernel
theorem dX10_init_57 : decode cX10_init 57 = .ok (.putfield 35, 3) := by decide +kernel
theorem dX10_init_60 : decode cX10_init 60 = .ok (.aload_n 0, 1) := by decide +kernel
theorem dX10_init_61 : decode cX10_init 61 = .ok (.iconst (-1), 1) := by decide +kernel
theorem dX10_init_62 : decode cX10_init 62 = .ok (.putfield 38, 3) := by decide +kernel
theorem dX10_init_65 : decode cX10_init 65 = .ok (.return_, 1) := by decide +kernel
theorem wo_RX10_3 : Cond.methodLink RX10 3 objectInit ∈ TB := tbm 181 (by decide +kernel) (by decide +kernel)
theorem fpf_10_0 : Fpk TX10 0 true (.array .int) := ⟨rfl, by decide +kernel⟩
theorem fpf_10_2 : Fpk TX10 2 true (.array .int) := ⟨rfl, by decide +kernel⟩
theorem fpf_10_3 : Fpk TX10 3 true (.array .int) := ⟨rfl, by decide +kernel⟩
theorem wa_long : Cond.arrayClass .long ∈ TB := tbm 216 (by decide +kernel) (by decide +kernel)
theorem fpf_10_4 : Fpk TX10 4 true (.array .long) := ⟨rfl, by decide +kernel⟩
def cE10 (ρ : Rh_) : Rh_ :=
 (pI (pI (pI (pI (pR (nwR (pR (nwR (pR (nwR (pI (pR (nwR ρ 4) 3 0 4) 3 1 (0 : Int32)) 5) 3 2 5) 6) 3 3 6) 7) 3 4 7) 3 5 (0 : Int32)) 3 6 (0 : Int32)) 3 7 (0 : Int32)) 3 8 (-1 : Int32))
set_option maxHeartbeats 4000000 in
set_option maxRecDepth 20000 in
theorem k10 (ρ : Rh_) : Rj l D cA h0 ad yX10_init cX10_init 1 none true 2 4 6803 (fun _ : Unit => (none, SHL.take 8, (cE10 ρ).1, (cE10 ρ).2)) [.ref (h0 + 3)] (SHL.take 4) ρ.1 ρ.2 (some ()) := by
  refine Rj.of (by decide) (fun _ => rfl) (Nat.le_of_ble_eq_true rfl) ?_
  refine tj_lv0 (lv' := [(0, .ref (h0 + 3))]) rfl ?_
  refine tj_aload_n (q := 1) dX10_init_0 rfl (i := 0) rfl (pl := 0) rfl ?_
  refine c_obj (q := 4) wo_RX10_3 wo_i wo_c dX10_init_1 rfl (Nat.le_of_ble_eq_true rfl) (Nat.le_of_ble_eq_true rfl) ?_
  refine tj_aload_n (q := 5) dX10_init_4 rfl (i := 0) rfl (pl := 0) rfl ?_
  refine tj_sipush (q := 8) (v := 1700) dX10_init_5 rfl (by decide) ?_
  refine c_newaI (q := 10) (N := 1700) (by decide) (by decide) shl_4 wa_int (Nat.le_of_ble_eq_true rfl) (Nat.le_of_ble_eq_true rfl) dX10_init_8 rfl ?_
  refine c_putF (q := 13) (j := 4) (tk_at (i := 3) shl_3 (by decide)) fok_10_0 tok_10 fpf_10_0 wl_RX10_9 dX10_init_10 rfl rfl rfl rfl ?_
  refine tj_aload_n (q := 14) dX10_init_13 rfl (i := 0) rfl (pl := 0) rfl ?_
  refine tj_iconst (q := 15) (v := 0) dX10_init_14 rfl (by decide) ?_
  refine c_putI (q := 18) (tk_at (i := 3) shl_3 (by decide)) fok_10_1 tok_10 fpk_10_1 wl_RX10_15 dX10_init_15 rfl rfl rfl ?_
  refine tj_aload_n (q := 19) dX10_init_18 rfl (i := 0) rfl (pl := 0) rfl ?_
  refine tj_sipush (q := 22) (v := 1701) dX10_init_19 rfl (by decide) ?_
  refine c_newaI (q := 24) (N := 1701) (by decide) (by decide) shl_5 wa_int (Nat.le_of_ble_eq_true rfl) (Nat.le_of_ble_eq_true rfl) dX10_init_22 rfl ?_
  refine c_putF (q := 27) (j := 5) (tk_at (i := 3) shl_3 (by decide)) fok_10_2 tok_10 fpf_10_2 wl_RX10_19 dX10_init_24 rfl rfl rfl rfl ?_
  refine tj_aload_n (q := 28) dX10_init_27 rfl (i := 0) rfl (pl := 0) rfl ?_
  refine tj_sipush (q := 31) (v := 1701) dX10_init_28 rfl (by decide) ?_
  refine c_newaI (q := 33) (N := 1701) (by decide) (by decide) shl_6 wa_int (Nat.le_of_ble_eq_true rfl) (Nat.le_of_ble_eq_true rfl) dX10_init_31 rfl ?_
  refine c_putF (q := 36) (j := 6) (tk_at (i := 3) shl_3 (by decide)) fok_10_3 tok_10 fpf_10_3 wl_RX10_22 dX10_init_33 rfl rfl rfl rfl ?_
  refine tj_aload_n (q := 37) dX10_init_36 rfl (i := 0) rfl (pl := 0) rfl ?_
  refine tj_sipush (q := 40) (v := 1701) dX10_init_37 rfl (by decide) ?_
  refine c_newaL (q := 42) (N := 1701) (by decide) (by decide) shl_7 wa_long (Nat.le_of_ble_eq_true rfl) (Nat.le_of_ble_eq_true rfl) dX10_init_40 rfl ?_
  refine c_putF (q := 45) (j := 7) (tk_at (i := 3) shl_3 (by decide)) fok_10_4 tok_10 fpf_10_4 wl_RX10_25 dX10_init_42 rfl rfl rfl rfl ?_
  refine tj_aload_n (q := 46) dX10_init_45 rfl (i := 0) rfl (pl := 0) rfl ?_
  refine tj_iconst (q := 47) (v := 0) dX10_init_46 rfl (by decide) ?_
  refine c_putI (q := 50) (tk_at (i := 3) shl_3 (by decide)) fok_10_5 tok_10 fpk_10_5 wl_RX10_29 dX10_init_47 rfl rfl rfl ?_
  refine tj_aload_n (q := 51) dX10_init_50 rfl (i := 0) rfl (pl := 0) rfl ?_
  refine tj_iconst (q := 52) (v := 0) dX10_init_51 rfl (by decide) ?_
  refine c_putI (q := 55) (tk_at (i := 3) shl_3 (by decide)) fok_10_6 tok_10 fpk_10_6 wl_RX10_32 dX10_init_52 rfl rfl rfl ?_
  refine tj_aload_n (q := 56) dX10_init_55 rfl (i := 0) rfl (pl := 0) rfl ?_
  refine tj_iconst (q := 57) (v := 0) dX10_init_56 rfl (by decide) ?_
  refine c_putI (q := 60) (tk_at (i := 3) shl_3 (by decide)) fok_10_7 tok_10 fpk_10_7 wl_RX10_35 dX10_init_57 rfl rfl rfl ?_
  refine tj_aload_n (q := 61) dX10_init_60 rfl (i := 0) rfl (pl := 0) rfl ?_
  refine tj_iconst (q := 62) (v := (-1)) dX10_init_61 rfl (by decide) ?_
  refine c_putI (q := 65) (tk_at (i := 3) shl_3 (by decide)) fok_10_8 tok_10 fpk_10_8 wl_RX10_38 dX10_init_62 rfl rfl rfl ?_
  exact tj_vret rfl rfl (Nat.le_of_ble_eq_true rfl) (Nat.le_of_ble_eq_true rfl) dX10_init_65

theorem dX2_init_0 : decode cX2_init 0 = .ok (.aload_n 0, 1) := by decide +kernel
theorem dX2_init_1 : decode cX2_init 1 = .ok (.invokespecial 3, 3) := by decide +kernel
theorem dX2_init_4 : decode cX2_init 4 = .ok (.aload_n 0, 1) := by decide +kernel
theorem dX2_init_5 : decode cX2_init 5 = .ok (.new 9, 3) := by decide +kernel
theorem dX2_init_8 : decode cX2_init 8 = .ok (.dup, 1) := by decide +kernel
theorem dX2_init_9 : decode cX2_init 9 = .ok (.invokespecial 11, 3) := by decide +kernel
theorem dX2_init_12 : decode cX2_init 12 = .ok (.putfield 12, 3) := by decide +kernel
theorem dX2_init_15 : decode cX2_init 15 = .ok (.return_, 1) := by decide +kernel
theorem wo_RX2_3 : Cond.methodLink RX2 3 objectInit ∈ TB := tbm 175 (by decide +kernel) (by decide +kernel)
theorem wn_RX2_9 : Cond.classLink RX2 9 RX10 ∈ TB := tbm 176 (by decide +kernel) (by decide +kernel)
theorem wn2_10 : Cond.instantiable RX10 9 ∈ TB := tbm 177 (by decide +kernel) (by decide +kernel)
theorem wn3_10 : Cond.initialized RX10 ∈ TB := tbm 137 (by decide +kernel) (by decide +kernel)
theorem wk_RX2_11 : Ic RX2 11 yX10_init cX10_init 1 := ⟨Or.inr ⟨"BetterThieves", by decide +kernel⟩, tbm 179 (by decide +kernel) (by decide +kernel), tbm 137 (by decide +kernel) (by decide +kernel), tbm 180 (by decide +kernel) (by decide +kernel), rfl, by decide +kernel, by decide⟩
theorem fpf_2_0 : Fpk TX2 0 true (.object "BetterThieves$Tokens") := ⟨rfl, by decide +kernel⟩
def cE2 (ρ : Rh_) : Rh_ :=
 (pR (cE10 (nwR ρ 3)) 2 0 3)
set_option maxHeartbeats 4000000 in
set_option maxRecDepth 20000 in
theorem k2 (ρ : Rh_) : Rj l D cA h0 ad yX2_init cX2_init 1 none true 3 5 6812 (fun _ : Unit => (none, SHL.take 8, (cE2 ρ).1, (cE2 ρ).2)) [.ref (h0 + 2)] (SHL.take 3) ρ.1 ρ.2 (some ()) := by
  refine Rj.of (by decide) (fun _ => rfl) (Nat.le_of_ble_eq_true rfl) ?_
  refine tj_lv0 (lv' := [(0, .ref (h0 + 2))]) rfl ?_
  refine tj_aload_n (q := 1) dX2_init_0 rfl (i := 0) rfl (pl := 0) rfl ?_
  refine c_obj (q := 4) wo_RX2_3 wo_i wo_c dX2_init_1 rfl (Nat.le_of_ble_eq_true rfl) (Nat.le_of_ble_eq_true rfl) ?_
  refine tj_aload_n (q := 5) dX2_init_4 rfl (i := 0) rfl (pl := 0) rfl ?_
  refine c_new (q := 8) (ci := 10) rfl iX10 tok_10 dok_10 rfl shl_3 wn_RX2_9 wn2_10 wn3_10 (Nat.le_of_ble_eq_true rfl) (Nat.le_of_ble_eq_true rfl) dX2_init_5 rfl ?_
  refine tj_dup (q := 9) dX2_init_8 rfl rfl ?_
  refine c_call (q := 12) wk_RX2_11 (k10 _) (Nat.le_of_ble_eq_true rfl) ⟨(Nat.le_of_ble_eq_true rfl), (Nat.le_of_ble_eq_true rfl)⟩ (Nat.le_of_ble_eq_true rfl) dX2_init_9 rfl ?_
  refine c_putF (q := 15) (j := 3) (tk_at (i := 2) shl_2 (by decide)) fok_2_0 tok_2 fpf_2_0 wl_RX2_12 dX2_init_12 rfl rfl rfl rfl ?_
  exact tj_vret rfl rfl (Nat.le_of_ble_eq_true rfl) (Nat.le_of_ble_eq_true rfl) dX2_init_15

theorem dX4_init_0 : decode cX4_init 0 = .ok (.aload_n 0, 1) := by decide +kernel
theorem dX4_init_1 : decode cX4_init 1 = .ok (.invokespecial 3, 3) := by decide +kernel
theorem dX4_init_4 : decode cX4_init 4 = .ok (.aload_n 0, 1) := by decide +kernel
theorem dX4_init_5 : decode cX4_init 5 = .ok (.new 9, 3) := by decide +kernel
theorem dX4_init_8 : decode cX4_init 8 = .ok (.dup, 1) := by decide +kernel
theorem dX4_init_9 : decode cX4_init 9 = .ok (.invokespecial 11, 3) := by decide +kernel
theorem dX4_init_12 : decode cX4_init 12 = .ok (.putfield 12, 3) := by decide +kernel
theorem dX4_init_15 : decode cX4_init 15 = .ok (.aload_n 0, 1) := by decide +kernel
theorem dX4_init_16 : decode cX4_init 16 = .ok (.aload_n 0, 1) := by decide +kernel
theorem dX4_init_17 : decode cX4_init 17 = .ok (.getfield 12, 3) := by decide +kernel
theorem dX4_init_20 : decode cX4_init 20 = .ok (.getfield 18, 3) := by decide +kernel
theorem dX4_init_23 : decode cX4_init 23 = .ok (.putfield 22, 3) := by decide +kernel
theorem dX4_init_26 : decode cX4_init 26 = .ok (.aload_n 0, 1) := by decide +kernel
theorem dX4_init_27 : decode cX4_init 27 = .ok (.bipush 6, 2) := by decide +kernel
theorem dX4_init_29 : decode cX4_init 29 = .ok (.newarray .long, 2) := by decide +kernel
theorem dX4_init_31 : decode cX4_init 31 = .ok (.putfield 23, 3) := by decide +kernel
theorem dX4_init_34 : decode cX4_init 34 = .ok (.aload_n 0, 1) := by decide +kernel
theorem dX4_init_35 : decode cX4_init 35 = .ok (.bipush 10, 2) := by decide +kernel
theorem dX4_init_37 : decode cX4_init 37 = .ok (.newarray .long, 2) := by decide +kernel
theorem dX4_init_39 : decode cX4_init 39 = .ok (.putfield 27, 3) := by decide +kernel
theorem dX4_init_42 : decode cX4_init 42 = .ok (.aload_n 0, 1) := by decide +kernel
theorem dX4_init_43 : decode cX4_init 43 = .ok (.bipush 9, 2) := by decide +kernel
theorem dX4_init_45 : decode cX4_init 45 = .ok (.newarray .long, 2) := by decide +kernel
theorem dX4_init_47 : decode cX4_init 47 = .ok (.putfield 30, 3) := by decide +kernel
theorem dX4_init_50 : decode cX4_init 50 = .ok (.aload_n 0, 1) := by decide +kernel
theorem dX4_init_51 : decode cX4_init 51 = .ok (.bipush 9, 2) := by decide +kernel
theorem dX4_init_53 : decode cX4_init 53 = .ok (.newarray .int, 2) := by decide +kernel
theorem dX4_init_55 : decode cX4_init 55 = .ok (.putfield 33, 3) := by decide +kernel
theorem dX4_init_58 : decode cX4_init 58 = .ok (.aload_n 0, 1) := by decide +kernel
theorem dX4_init_59 : decode cX4_init 59 = .ok (.iconst 0, 1) := by decide +kernel
theorem dX4_init_60 : decode cX4_init 60 = .ok (.putfield 37, 3) := by decide +kernel
theorem dX4_init_63 : decode cX4_init 63 = .ok (.aload_n 0, 1) := by decide +kernel
theorem dX4_init_64 : decode cX4_init 64 = .ok (.iconst 0, 1) := by decide +kernel
theorem dX4_init_65 : decode cX4_init 65 = .ok (.putfield 41, 3) := by decide +kernel
theorem dX4_init_68 : decode cX4_init 68 = .ok (.aload_n 0, 1) := by decide +kernel
theorem dX4_init_69 : decode cX4_init 69 = .ok (.iconst 0, 1) := by decide +kernel
theorem dX4_init_70 : decode cX4_init 70 = .ok (.putfield 44, 3) := by decide +kernel
theorem dX4_init_73 : decode cX4_init 73 = .ok (.aload_n 0, 1) := by decide +kernel
theorem dX4_init_74 : decode cX4_init 74 = .ok (.iconst 0, 1) := by decide +kernel
theorem dX4_init_75 : decode cX4_init 75 = .ok (.putfield 47, 3) := by decide +kernel
theorem dX4_init_78 : decode cX4_init 78 = .ok (.return_, 1) := by decide +kernel
theorem wo_RX4_3 : Cond.methodLink RX4 3 objectInit ∈ TB := tbm 169 (by decide +kernel) (by decide +kernel)
theorem wn_RX4_9 : Cond.classLink RX4 9 RX2 ∈ TB := tbm 170 (by decide +kernel) (by decide +kernel)
theorem wn2_2 : Cond.instantiable RX2 1 ∈ TB := tbm 171 (by decide +kernel) (by decide +kernel)
theorem wn3_2 : Cond.initialized RX2 ∈ TB := tbm 136 (by decide +kernel) (by decide +kernel)
theorem wk_RX4_11 : Ic RX4 11 yX2_init cX2_init 1 := ⟨Or.inr ⟨"BetterThieves", by decide +kernel⟩, tbm 173 (by decide +kernel) (by decide +kernel), tbm 136 (by decide +kernel) (by decide +kernel), tbm 174 (by decide +kernel) (by decide +kernel), rfl, by decide +kernel, by decide⟩
theorem fpf_4_0 : Fpk TX4 0 true (.object "BetterThieves$Formula") := ⟨rfl, by decide +kernel⟩
theorem wl_RX4_18 : Cond.fieldLink RX4 18 (TX2 0).1 (TX2 0).2.1 (TX2 0).2.2.1 ∈ TB := tbm 218 (by decide +kernel) (by decide +kernel)
theorem fpf_4_1 : Fpk TX4 1 true (.object "BetterThieves$Tokens") := ⟨rfl, by decide +kernel⟩
theorem fpf_4_2 : Fpk TX4 2 true (.array .long) := ⟨rfl, by decide +kernel⟩
theorem fpf_4_3 : Fpk TX4 3 true (.array .long) := ⟨rfl, by decide +kernel⟩
theorem fpf_4_4 : Fpk TX4 4 true (.array .long) := ⟨rfl, by decide +kernel⟩
theorem fpf_4_5 : Fpk TX4 5 true (.array .int) := ⟨rfl, by decide +kernel⟩
def cE4 (ρ : Rh_) : Rh_ :=
 (pI (pI (pI (pI (pR (nwR (pR (nwR (pR (nwR (pR (nwR (pR (pR (cE2 (nwR ρ 2)) 1 0 2) 1 1 3) 8) 1 2 8) 9) 1 3 9) 10) 1 4 10) 11) 1 5 11) 1 6 (0 : Int32)) 1 7 (0 : Int32)) 1 8 (0 : Int32)) 1 9 (0 : Int32))
set_option maxHeartbeats 4000000 in
set_option maxRecDepth 20000 in
theorem k4 (ρ : Rh_) : Rj l D cA h0 ad yX4_init cX4_init 1 none true 4 10 6847 (fun _ : Unit => (none, SHL.take 12, (cE4 ρ).1, (cE4 ρ).2)) [.ref (h0 + 1)] (SHL.take 2) ρ.1 ρ.2 (some ()) := by
  refine Rj.of (by decide) (fun _ => rfl) (Nat.le_of_ble_eq_true rfl) ?_
  refine tj_lv0 (lv' := [(0, .ref (h0 + 1))]) rfl ?_
  refine tj_aload_n (q := 1) dX4_init_0 rfl (i := 0) rfl (pl := 0) rfl ?_
  refine c_obj (q := 4) wo_RX4_3 wo_i wo_c dX4_init_1 rfl (Nat.le_of_ble_eq_true rfl) (Nat.le_of_ble_eq_true rfl) ?_
  refine tj_aload_n (q := 5) dX4_init_4 rfl (i := 0) rfl (pl := 0) rfl ?_
  refine c_new (q := 8) (ci := 2) rfl iX2 tok_2 dok_2 rfl shl_2 wn_RX4_9 wn2_2 wn3_2 (Nat.le_of_ble_eq_true rfl) (Nat.le_of_ble_eq_true rfl) dX4_init_5 rfl ?_
  refine tj_dup (q := 9) dX4_init_8 rfl rfl ?_
  refine c_call (q := 12) wk_RX4_11 (k2 _) (Nat.le_of_ble_eq_true rfl) ⟨(Nat.le_of_ble_eq_true rfl), (Nat.le_of_ble_eq_true rfl)⟩ (Nat.le_of_ble_eq_true rfl) dX4_init_9 rfl ?_
  refine c_putF (q := 15) (j := 2) (tk_at (i := 1) shl_1 (by decide)) fok_4_0 tok_4 fpf_4_0 wl_RX4_12 dX4_init_12 rfl rfl rfl rfl ?_
  refine tj_aload_n (q := 16) dX4_init_15 rfl (i := 0) rfl (pl := 0) rfl ?_
  refine tj_aload_n (q := 17) dX4_init_16 rfl (i := 0) rfl (pl := 0) rfl ?_
  refine tj_getR (k := 0) (q := 20) (j := 2) (tk_at (i := 1) shl_1 (by decide)) rfl fok_4_0 wl_RX4_12 dX4_init_17 rfl ?_
  refine tj_getR (k := 0) (q := 23) (j := 3) (tk_at (i := 2) shl_2 (by decide)) rfl fok_2_0 wl_RX4_18 dX4_init_20 rfl ?_
  refine c_putF (q := 26) (j := 3) (tk_at (i := 1) shl_1 (by decide)) fok_4_1 tok_4 fpf_4_1 wl_RX4_22 dX4_init_23 rfl rfl rfl rfl ?_
  refine tj_aload_n (q := 27) dX4_init_26 rfl (i := 0) rfl (pl := 0) rfl ?_
  refine tj_bipush (q := 29) (v := 6) dX4_init_27 rfl (by decide) ?_
  refine c_newaL (q := 31) (N := 6) (by decide) (by decide) shl_8 wa_long (Nat.le_of_ble_eq_true rfl) (Nat.le_of_ble_eq_true rfl) dX4_init_29 rfl ?_
  refine c_putF (q := 34) (j := 8) (tk_at (i := 1) shl_1 (by decide)) fok_4_2 tok_4 fpf_4_2 wl_RX4_23 dX4_init_31 rfl rfl rfl rfl ?_
  refine tj_aload_n (q := 35) dX4_init_34 rfl (i := 0) rfl (pl := 0) rfl ?_
  refine tj_bipush (q := 37) (v := 10) dX4_init_35 rfl (by decide) ?_
  refine c_newaL (q := 39) (N := 10) (by decide) (by decide) shl_9 wa_long (Nat.le_of_ble_eq_true rfl) (Nat.le_of_ble_eq_true rfl) dX4_init_37 rfl ?_
  refine c_putF (q := 42) (j := 9) (tk_at (i := 1) shl_1 (by decide)) fok_4_3 tok_4 fpf_4_3 wl_RX4_27 dX4_init_39 rfl rfl rfl rfl ?_
  refine tj_aload_n (q := 43) dX4_init_42 rfl (i := 0) rfl (pl := 0) rfl ?_
  refine tj_bipush (q := 45) (v := 9) dX4_init_43 rfl (by decide) ?_
  refine c_newaL (q := 47) (N := 9) (by decide) (by decide) shl_10 wa_long (Nat.le_of_ble_eq_true rfl) (Nat.le_of_ble_eq_true rfl) dX4_init_45 rfl ?_
  refine c_putF (q := 50) (j := 10) (tk_at (i := 1) shl_1 (by decide)) fok_4_4 tok_4 fpf_4_4 wl_RX4_30 dX4_init_47 rfl rfl rfl rfl ?_
  refine tj_aload_n (q := 51) dX4_init_50 rfl (i := 0) rfl (pl := 0) rfl ?_
  refine tj_bipush (q := 53) (v := 9) dX4_init_51 rfl (by decide) ?_
  refine c_newaI (q := 55) (N := 9) (by decide) (by decide) shl_11 wa_int (Nat.le_of_ble_eq_true rfl) (Nat.le_of_ble_eq_true rfl) dX4_init_53 rfl ?_
  refine c_putF (q := 58) (j := 11) (tk_at (i := 1) shl_1 (by decide)) fok_4_5 tok_4 fpf_4_5 wl_RX4_33 dX4_init_55 rfl rfl rfl rfl ?_
  refine tj_aload_n (q := 59) dX4_init_58 rfl (i := 0) rfl (pl := 0) rfl ?_
  refine tj_iconst (q := 60) (v := 0) dX4_init_59 rfl (by decide) ?_
  refine c_putI (q := 63) (tk_at (i := 1) shl_1 (by decide)) fok_4_6 tok_4 fpk_4_6 wl_RX4_37 dX4_init_60 rfl rfl rfl ?_
  refine tj_aload_n (q := 64) dX4_init_63 rfl (i := 0) rfl (pl := 0) rfl ?_
  refine tj_iconst (q := 65) (v := 0) dX4_init_64 rfl (by decide) ?_
  refine c_putI (q := 68) (tk_at (i := 1) shl_1 (by decide)) fok_4_7 tok_4 fpk_4_7 wl_RX4_41 dX4_init_65 rfl rfl rfl ?_
  refine tj_aload_n (q := 69) dX4_init_68 rfl (i := 0) rfl (pl := 0) rfl ?_
  refine tj_iconst (q := 70) (v := 0) dX4_init_69 rfl (by decide) ?_
  refine c_putI (q := 73) (tk_at (i := 1) shl_1 (by decide)) fok_4_8 tok_4 fpk_4_8 wl_RX4_44 dX4_init_70 rfl rfl rfl ?_
  refine tj_aload_n (q := 74) dX4_init_73 rfl (i := 0) rfl (pl := 0) rfl ?_
  refine tj_iconst (q := 75) (v := 0) dX4_init_74 rfl (by decide) ?_
  refine c_putI (q := 78) (tk_at (i := 1) shl_1 (by decide)) fok_4_9 tok_4 fpk_4_9 wl_RX4_47 dX4_init_75 rfl rfl rfl ?_
  exact tj_vret rfl rfl (Nat.le_of_ble_eq_true rfl) (Nat.le_of_ble_eq_true rfl) dX4_init_78

theorem dX6_init_0 : decode cX6_init 0 = .ok (.aload_n 0, 1) := by decide +kernel
theorem dX6_init_1 : decode cX6_init 1 = .ok (.invokespecial 3, 3) := by decide +kernel
theorem dX6_init_4 : decode cX6_init 4 = .ok (.aload_n 0, 1) := by decide +kernel
theorem dX6_init_5 : decode cX6_init 5 = .ok (.new 9, 3) := by decide +kernel
theorem dX6_init_8 : decode cX6_init 8 = .ok (.dup, 1) := by decide +kernel
theorem dX6_init_9 : decode cX6_init 9 = .ok (.invokespecial 11, 3) := by decide +kernel
theorem dX6_init_12 : decode cX6_init 12 = .ok (.putfield 12, 3) := by decide +kernel
theorem dX6_init_15 : decode cX6_init 15 = .ok (.aload_n 0, 1) := by decide +kernel
theorem dX6_init_16 : decode cX6_init 16 = .ok (.new 18, 3) := by decide +kernel
theorem dX6_init_19 : decode cX6_init 19 = .ok (.dup, 1) := by decide +kernel
theorem dX6_init_20 : decode cX6_init 20 = .ok (.invokespecial 20, 3) := by decide +kernel
theorem dX6_init_23 : decode cX6_init 23 = .ok (.putfield 21, 3) := by decide +kernel
theorem dX6_init_26 : decode cX6_init 26 = .ok (.aload_n 0, 1) := by decide +kernel
theorem dX6_init_27 : decode cX6_init 27 = .ok (.iconst 0, 1) := by decide +kernel
theorem dX6_init_28 : decode cX6_init 28 = .ok (.putfield 25, 3) := by decide +kernel
theorem dX6_init_31 : decode cX6_init 31 = .ok (.aload_n 0, 1) := by decide +kernel
theorem dX6_init_32 : decode cX6_init 32 = .ok (.iconst (-1), 1) := by decide +kernel
theorem dX6_init_33 : decode cX6_init 33 = .ok (.putfield 29, 3) := by decide +kernel
theorem dX6_init_36 : decode cX6_init 36 = .ok (.aload_n 0, 1) := by decide +kernel
theorem dX6_init_37 : decode cX6_init 37 = .ok (.iconst (-1), 1) := by decide +kernel
theorem dX6_init_38 : decode cX6_init 38 = .ok (.putfield 32, 3) := by decide +kernel
theorem dX6_init_41 : decode cX6_init 41 = .ok (.return_, 1) := by decide +kernel
theorem wo_RX6_3 : Cond.methodLink RX6 3 objectInit ∈ TB := tbm 550 (by decide +kernel) (by decide +kernel)
theorem wn_RX6_9 : Cond.classLink RX6 9 RX9 ∈ TB := tbm 551 (by decide +kernel) (by decide +kernel)
theorem wn2_9 : Cond.instantiable RX9 10 ∈ TB := tbm 493 (by decide +kernel) (by decide +kernel)
theorem wn3_9 : Cond.initialized RX9 ∈ TB := tbm 143 (by decide +kernel) (by decide +kernel)
theorem wk_RX6_11 : Ic RX6 11 yX9_init cX9_init 1 := ⟨Or.inr ⟨"BetterThieves", by decide +kernel⟩, tbm 495 (by decide +kernel) (by decide +kernel), tbm 143 (by decide +kernel) (by decide +kernel), tbm 496 (by decide +kernel) (by decide +kernel), rfl, by decide +kernel, by decide⟩
theorem fpf_6_0 : Fpk TX6 0 true (.object "BetterThieves$Swaps") := ⟨rfl, by decide +kernel⟩
theorem wn_RX6_18 : Cond.classLink RX6 18 RX8 ∈ TB := tbm 553 (by decide +kernel) (by decide +kernel)
theorem wn2_8 : Cond.instantiable RX8 5 ∈ TB := tbm 374 (by decide +kernel) (by decide +kernel)
theorem wn3_8 : Cond.initialized RX8 ∈ TB := tbm 140 (by decide +kernel) (by decide +kernel)
theorem wk_RX6_20 : Ic RX6 20 yX8_init cX8_init 1 := ⟨Or.inr ⟨"BetterThieves", by decide +kernel⟩, tbm 376 (by decide +kernel) (by decide +kernel), tbm 140 (by decide +kernel) (by decide +kernel), tbm 377 (by decide +kernel) (by decide +kernel), rfl, by decide +kernel, by decide⟩
theorem fpf_6_1 : Fpk TX6 1 true (.object "BetterThieves$State") := ⟨rfl, by decide +kernel⟩
def cE6 (ρ : Rh_) : Rh_ :=
 (pI (pI (pI (pR (cE8 202 (nwR (pR (cE9 193 (nwR ρ 193)) 192 0 193) 202)) 192 1 202) 192 2 (0 : Int32)) 192 3 (-1 : Int32)) 192 4 (-1 : Int32))
set_option maxHeartbeats 4000000 in
set_option maxRecDepth 20000 in
theorem k6 (ρ : Rh_) : Rj l D cA h0 ad yX6_init cX6_init 1 none true 3 12 648 (fun _ : Unit => (none, SHL.take 205, (cE6 ρ).1, (cE6 ρ).2)) [.ref (h0 + 192)] (SHL.take 193) ρ.1 ρ.2 (some ()) := by
  refine Rj.of (by decide) (fun _ => rfl) (Nat.le_of_ble_eq_true rfl) ?_
  refine tj_lv0 (lv' := [(0, .ref (h0 + 192))]) rfl ?_
  refine tj_aload_n (q := 1) dX6_init_0 rfl (i := 0) rfl (pl := 0) rfl ?_
  refine c_obj (q := 4) wo_RX6_3 wo_i wo_c dX6_init_1 rfl (Nat.le_of_ble_eq_true rfl) (Nat.le_of_ble_eq_true rfl) ?_
  refine tj_aload_n (q := 5) dX6_init_4 rfl (i := 0) rfl (pl := 0) rfl ?_
  refine c_new (q := 8) (ci := 9) rfl iX9 tok_9 dok_9 rfl shl_193 wn_RX6_9 wn2_9 wn3_9 (Nat.le_of_ble_eq_true rfl) (Nat.le_of_ble_eq_true rfl) dX6_init_5 rfl ?_
  refine tj_dup (q := 9) dX6_init_8 rfl rfl ?_
  refine c_call (q := 12) wk_RX6_11 (k9 193 _ shl_193 shl_194 shl_195 shl_196 shl_197 shl_198 shl_199 shl_200 shl_201) (Nat.le_of_ble_eq_true rfl) ⟨(Nat.le_of_ble_eq_true rfl), (Nat.le_of_ble_eq_true rfl)⟩ (Nat.le_of_ble_eq_true rfl) dX6_init_9 rfl ?_
  refine c_putF (q := 15) (j := 193) (tk_at (i := 192) shl_192 (by decide)) fok_6_0 tok_6 fpf_6_0 wl_RX6_12 dX6_init_12 rfl rfl rfl rfl ?_
  refine tj_aload_n (q := 16) dX6_init_15 rfl (i := 0) rfl (pl := 0) rfl ?_
  refine c_new (q := 19) (ci := 8) rfl iX8 tok_8 dok_8 rfl shl_202 wn_RX6_18 wn2_8 wn3_8 (Nat.le_of_ble_eq_true rfl) (Nat.le_of_ble_eq_true rfl) dX6_init_16 rfl ?_
  refine tj_dup (q := 20) dX6_init_19 rfl rfl ?_
  refine c_call (q := 23) wk_RX6_20 (k8 202 _ shl_202 shl_203 shl_204) (Nat.le_of_ble_eq_true rfl) ⟨(Nat.le_of_ble_eq_true rfl), (Nat.le_of_ble_eq_true rfl)⟩ (Nat.le_of_ble_eq_true rfl) dX6_init_20 rfl ?_
  refine c_putF (q := 26) (j := 202) (tk_at (i := 192) shl_192 (by decide)) fok_6_1 tok_6 fpf_6_1 wl_RX6_21 dX6_init_23 rfl rfl rfl rfl ?_
  refine tj_aload_n (q := 27) dX6_init_26 rfl (i := 0) rfl (pl := 0) rfl ?_
  refine tj_iconst (q := 28) (v := 0) dX6_init_27 rfl (by decide) ?_
  refine c_putI (q := 31) (tk_at (i := 192) shl_192 (by decide)) fok_6_2 tok_6 fpk_6_2 wl_RX6_25 dX6_init_28 rfl rfl rfl ?_
  refine tj_aload_n (q := 32) dX6_init_31 rfl (i := 0) rfl (pl := 0) rfl ?_
  refine tj_iconst (q := 33) (v := (-1)) dX6_init_32 rfl (by decide) ?_
  refine c_putI (q := 36) (tk_at (i := 192) shl_192 (by decide)) fok_6_3 tok_6 fpk_6_3 wl_RX6_29 dX6_init_33 rfl rfl rfl ?_
  refine tj_aload_n (q := 37) dX6_init_36 rfl (i := 0) rfl (pl := 0) rfl ?_
  refine tj_iconst (q := 38) (v := (-1)) dX6_init_37 rfl (by decide) ?_
  refine c_putI (q := 41) (tk_at (i := 192) shl_192 (by decide)) fok_6_4 tok_6 fpk_6_4 wl_RX6_32 dX6_init_38 rfl rfl rfl ?_
  exact tj_vret rfl rfl (Nat.le_of_ble_eq_true rfl) (Nat.le_of_ble_eq_true rfl) dX6_init_41

theorem dX7_init_0 : decode cX7_init 0 = .ok (.aload_n 0, 1) := by decide +kernel
theorem dX7_init_1 : decode cX7_init 1 = .ok (.invokespecial 3, 3) := by decide +kernel
theorem dX7_init_4 : decode cX7_init 4 = .ok (.aload_n 0, 1) := by decide +kernel
theorem dX7_init_5 : decode cX7_init 5 = .ok (.new 9, 3) := by decide +kernel
theorem dX7_init_8 : decode cX7_init 8 = .ok (.dup, 1) := by decide +kernel
theorem dX7_init_9 : decode cX7_init 9 = .ok (.invokespecial 11, 3) := by decide +kernel
theorem dX7_init_12 : decode cX7_init 12 = .ok (.putfield 12, 3) := by decide +kernel
theorem dX7_init_15 : decode cX7_init 15 = .ok (.aload_n 0, 1) := by decide +kernel
theorem dX7_init_16 : decode cX7_init 16 = .ok (.new 18, 3) := by decide +kernel
theorem dX7_init_19 : decode cX7_init 19 = .ok (.dup, 1) := by decide +kernel
theorem dX7_init_20 : decode cX7_init 20 = .ok (.invokespecial 20, 3) := by decide +kernel
theorem dX7_init_23 : decode cX7_init 23 = .ok (.putfield 21, 3) := by decide +kernel
theorem dX7_init_26 : decode cX7_init 26 = .ok (.aload_n 0, 1) := by decide +kernel
theorem dX7_init_27 : decode cX7_init 27 = .ok (.sipush 2000, 3) := by decide +kernel
theorem dX7_init_30 : decode cX7_init 30 = .ok (.newarray .long, 2) := by decide +kernel
theorem dX7_init_32 : decode cX7_init 32 = .ok (.putfield 25, 3) := by decide +kernel
theorem dX7_init_35 : decode cX7_init 35 = .ok (.aload_n 0, 1) := by decide +kernel
theorem dX7_init_36 : decode cX7_init 36 = .ok (.sipush 2000, 3) := by decide +kernel
theorem dX7_init_39 : decode cX7_init 39 = .ok (.newarray .int, 2) := by decide +kernel
theorem dX7_init_41 : decode cX7_init 41 = .ok (.putfield 29, 3) := by decide +kernel
theorem dX7_init_44 : decode cX7_init 44 = .ok (.aload_n 0, 1) := by decide +kernel
theorem dX7_init_45 : decode cX7_init 45 = .ok (.sipush 4096, 3) := by decide +kernel
theorem dX7_init_48 : decode cX7_init 48 = .ok (.newarray .int, 2) := by decide +kernel
theorem dX7_init_50 : decode cX7_init 50 = .ok (.putfield 33, 3) := by decide +kernel
theorem dX7_init_53 : decode cX7_init 53 = .ok (.aload_n 0, 1) := by decide +kernel
theorem dX7_init_54 : decode cX7_init 54 = .ok (.iconst 0, 1) := by decide +kernel
theorem dX7_init_55 : decode cX7_init 55 = .ok (.putfield 36, 3) := by decide +kernel
theorem dX7_init_58 : decode cX7_init 58 = .ok (.aload_n 0, 1) := by decide +kernel
theorem dX7_init_59 : decode cX7_init 59 = .ok (.iconst 0, 1) := by decide +kernel
theorem dX7_init_60 : decode cX7_init 60 = .ok (.putfield 40, 3) := by decide +kernel
theorem dX7_init_63 : decode cX7_init 63 = .ok (.aload_n 0, 1) := by decide +kernel
theorem dX7_init_64 : decode cX7_init 64 = .ok (.iconst 0, 1) := by decide +kernel
theorem dX7_init_65 : decode cX7_init 65 = .ok (.putfield 43, 3) := by decide +kernel
theorem dX7_init_68 : decode cX7_init 68 = .ok (.aload_n 0, 1) := by decide +kernel
theorem dX7_init_69 : decode cX7_init 69 = .ok (.iconst (-1), 1) := by decide +kernel
theorem dX7_init_70 : decode cX7_init 70 = .ok (.putfield 46, 3) := by decide +kernel
theorem dX7_init_73 : decode cX7_init 73 = .ok (.return_, 1) := by decide +kernel
theorem wo_RX7_3 : Cond.methodLink RX7 3 objectInit ∈ TB := tbm 580 (by decide +kernel) (by decide +kernel)
theorem wn_RX7_9 : Cond.classLink RX7 9 RX9 ∈ TB := tbm 581 (by decide +kernel) (by decide +kernel)
theorem wk_RX7_11 : Ic RX7 11 yX9_init cX9_init 1 := ⟨Or.inr ⟨"BetterThieves", by decide +kernel⟩, tbm 495 (by decide +kernel) (by decide +kernel), tbm 143 (by decide +kernel) (by decide +kernel), tbm 496 (by decide +kernel) (by decide +kernel), rfl, by decide +kernel, by decide⟩
theorem fpf_7_0 : Fpk TX7 0 true (.object "BetterThieves$Swaps") := ⟨rfl, by decide +kernel⟩
theorem wn_RX7_18 : Cond.classLink RX7 18 RX8 ∈ TB := tbm 583 (by decide +kernel) (by decide +kernel)
theorem wk_RX7_20 : Ic RX7 20 yX8_init cX8_init 1 := ⟨Or.inr ⟨"BetterThieves", by decide +kernel⟩, tbm 376 (by decide +kernel) (by decide +kernel), tbm 140 (by decide +kernel) (by decide +kernel), tbm 377 (by decide +kernel) (by decide +kernel), rfl, by decide +kernel, by decide⟩
theorem fpf_7_1 : Fpk TX7 1 true (.object "BetterThieves$State") := ⟨rfl, by decide +kernel⟩
theorem fpf_7_2 : Fpk TX7 2 true (.array .long) := ⟨rfl, by decide +kernel⟩
theorem fpf_7_3 : Fpk TX7 3 true (.array .int) := ⟨rfl, by decide +kernel⟩
theorem fpf_7_4 : Fpk TX7 4 true (.array .int) := ⟨rfl, by decide +kernel⟩
def cE7 (ρ : Rh_) : Rh_ :=
 (pI (pI (pI (pI (pR (nwR (pR (nwR (pR (nwR (pR (cE8 215 (nwR (pR (cE9 206 (nwR ρ 206)) 205 0 206) 215)) 205 1 215) 218) 205 2 218) 219) 205 3 219) 220) 205 4 220) 205 5 (0 : Int32)) 205 6 (0 : Int32)) 205 7 (0 : Int32)) 205 8 (-1 : Int32))
set_option maxHeartbeats 4000000 in
set_option maxRecDepth 20000 in
theorem k7 (ρ : Rh_) : Rj l D cA h0 ad yX7_init cX7_init 1 none true 3 15 8744 (fun _ : Unit => (none, SHL.take 221, (cE7 ρ).1, (cE7 ρ).2)) [.ref (h0 + 205)] (SHL.take 206) ρ.1 ρ.2 (some ()) := by
  refine Rj.of (by decide) (fun _ => rfl) (Nat.le_of_ble_eq_true rfl) ?_
  refine tj_lv0 (lv' := [(0, .ref (h0 + 205))]) rfl ?_
  refine tj_aload_n (q := 1) dX7_init_0 rfl (i := 0) rfl (pl := 0) rfl ?_
  refine c_obj (q := 4) wo_RX7_3 wo_i wo_c dX7_init_1 rfl (Nat.le_of_ble_eq_true rfl) (Nat.le_of_ble_eq_true rfl) ?_
  refine tj_aload_n (q := 5) dX7_init_4 rfl (i := 0) rfl (pl := 0) rfl ?_
  refine c_new (q := 8) (ci := 9) rfl iX9 tok_9 dok_9 rfl shl_206 wn_RX7_9 wn2_9 wn3_9 (Nat.le_of_ble_eq_true rfl) (Nat.le_of_ble_eq_true rfl) dX7_init_5 rfl ?_
  refine tj_dup (q := 9) dX7_init_8 rfl rfl ?_
  refine c_call (q := 12) wk_RX7_11 (k9 206 _ shl_206 shl_207 shl_208 shl_209 shl_210 shl_211 shl_212 shl_213 shl_214) (Nat.le_of_ble_eq_true rfl) ⟨(Nat.le_of_ble_eq_true rfl), (Nat.le_of_ble_eq_true rfl)⟩ (Nat.le_of_ble_eq_true rfl) dX7_init_9 rfl ?_
  refine c_putF (q := 15) (j := 206) (tk_at (i := 205) shl_205 (by decide)) fok_7_0 tok_7 fpf_7_0 wl_RX7_12 dX7_init_12 rfl rfl rfl rfl ?_
  refine tj_aload_n (q := 16) dX7_init_15 rfl (i := 0) rfl (pl := 0) rfl ?_
  refine c_new (q := 19) (ci := 8) rfl iX8 tok_8 dok_8 rfl shl_215 wn_RX7_18 wn2_8 wn3_8 (Nat.le_of_ble_eq_true rfl) (Nat.le_of_ble_eq_true rfl) dX7_init_16 rfl ?_
  refine tj_dup (q := 20) dX7_init_19 rfl rfl ?_
  refine c_call (q := 23) wk_RX7_20 (k8 215 _ shl_215 shl_216 shl_217) (Nat.le_of_ble_eq_true rfl) ⟨(Nat.le_of_ble_eq_true rfl), (Nat.le_of_ble_eq_true rfl)⟩ (Nat.le_of_ble_eq_true rfl) dX7_init_20 rfl ?_
  refine c_putF (q := 26) (j := 215) (tk_at (i := 205) shl_205 (by decide)) fok_7_1 tok_7 fpf_7_1 wl_RX7_21 dX7_init_23 rfl rfl rfl rfl ?_
  refine tj_aload_n (q := 27) dX7_init_26 rfl (i := 0) rfl (pl := 0) rfl ?_
  refine tj_sipush (q := 30) (v := 2000) dX7_init_27 rfl (by decide) ?_
  refine c_newaL (q := 32) (N := 2000) (by decide) (by decide) shl_218 wa_long (Nat.le_of_ble_eq_true rfl) (Nat.le_of_ble_eq_true rfl) dX7_init_30 rfl ?_
  refine c_putF (q := 35) (j := 218) (tk_at (i := 205) shl_205 (by decide)) fok_7_2 tok_7 fpf_7_2 wl_RX7_25 dX7_init_32 rfl rfl rfl rfl ?_
  refine tj_aload_n (q := 36) dX7_init_35 rfl (i := 0) rfl (pl := 0) rfl ?_
  refine tj_sipush (q := 39) (v := 2000) dX7_init_36 rfl (by decide) ?_
  refine c_newaI (q := 41) (N := 2000) (by decide) (by decide) shl_219 wa_int (Nat.le_of_ble_eq_true rfl) (Nat.le_of_ble_eq_true rfl) dX7_init_39 rfl ?_
  refine c_putF (q := 44) (j := 219) (tk_at (i := 205) shl_205 (by decide)) fok_7_3 tok_7 fpf_7_3 wl_RX7_29 dX7_init_41 rfl rfl rfl rfl ?_
  refine tj_aload_n (q := 45) dX7_init_44 rfl (i := 0) rfl (pl := 0) rfl ?_
  refine tj_sipush (q := 48) (v := 4096) dX7_init_45 rfl (by decide) ?_
  refine c_newaI (q := 50) (N := 4096) (by decide) (by decide) shl_220 wa_int (Nat.le_of_ble_eq_true rfl) (Nat.le_of_ble_eq_true rfl) dX7_init_48 rfl ?_
  refine c_putF (q := 53) (j := 220) (tk_at (i := 205) shl_205 (by decide)) fok_7_4 tok_7 fpf_7_4 wl_RX7_33 dX7_init_50 rfl rfl rfl rfl ?_
  refine tj_aload_n (q := 54) dX7_init_53 rfl (i := 0) rfl (pl := 0) rfl ?_
  refine tj_iconst (q := 55) (v := 0) dX7_init_54 rfl (by decide) ?_
  refine c_putI (q := 58) (tk_at (i := 205) shl_205 (by decide)) fok_7_5 tok_7 fpk_7_5 wl_RX7_36 dX7_init_55 rfl rfl rfl ?_
  refine tj_aload_n (q := 59) dX7_init_58 rfl (i := 0) rfl (pl := 0) rfl ?_
  refine tj_iconst (q := 60) (v := 0) dX7_init_59 rfl (by decide) ?_
  refine c_putI (q := 63) (tk_at (i := 205) shl_205 (by decide)) fok_7_6 tok_7 fpk_7_6 wl_RX7_40 dX7_init_60 rfl rfl rfl ?_
  refine tj_aload_n (q := 64) dX7_init_63 rfl (i := 0) rfl (pl := 0) rfl ?_
  refine tj_iconst (q := 65) (v := 0) dX7_init_64 rfl (by decide) ?_
  refine c_putI (q := 68) (tk_at (i := 205) shl_205 (by decide)) fok_7_7 tok_7 fpk_7_7 wl_RX7_43 dX7_init_65 rfl rfl rfl ?_
  refine tj_aload_n (q := 69) dX7_init_68 rfl (i := 0) rfl (pl := 0) rfl ?_
  refine tj_iconst (q := 70) (v := (-1)) dX7_init_69 rfl (by decide) ?_
  refine c_putI (q := 73) (tk_at (i := 205) shl_205 (by decide)) fok_7_8 tok_7 fpk_7_8 wl_RX7_46 dX7_init_70 rfl rfl rfl ?_
  exact tj_vret rfl rfl (Nat.le_of_ble_eq_true rfl) (Nat.le_of_ble_eq_true rfl) dX7_init_73

theorem dX5_init_0 : decode cX5_init 0 = .ok (.aload_n 0, 1) := by decide +kernel
theorem dX5_init_1 : decode cX5_init 1 = .ok (.invokespecial 3, 3) := by decide +kernel
theorem dX5_init_4 : decode cX5_init 4 = .ok (.aload_n 0, 1) := by decide +kernel
theorem dX5_init_5 : decode cX5_init 5 = .ok (.bipush 30, 2) := by decide +kernel
theorem dX5_init_7 : decode cX5_init 7 = .ok (.newarray .int, 2) := by decide +kernel
theorem dX5_init_9 : decode cX5_init 9 = .ok (.putfield 11, 3) := by decide +kernel
theorem dX5_init_12 : decode cX5_init 12 = .ok (.aload_n 0, 1) := by decide +kernel
theorem dX5_init_13 : decode cX5_init 13 = .ok (.bipush 30, 2) := by decide +kernel
theorem dX5_init_15 : decode cX5_init 15 = .ok (.newarray .int, 2) := by decide +kernel
theorem dX5_init_17 : decode cX5_init 17 = .ok (.putfield 15, 3) := by decide +kernel
theorem dX5_init_20 : decode cX5_init 20 = .ok (.aload_n 0, 1) := by decide +kernel
theorem dX5_init_21 : decode cX5_init 21 = .ok (.bipush 30, 2) := by decide +kernel
theorem dX5_init_23 : decode cX5_init 23 = .ok (.newarray .int, 2) := by decide +kernel
theorem dX5_init_25 : decode cX5_init 25 = .ok (.putfield 18, 3) := by decide +kernel
theorem dX5_init_28 : decode cX5_init 28 = .ok (.aload_n 0, 1) := by decide +kernel
theorem dX5_init_29 : decode cX5_init 29 = .ok (.bipush 30, 2) := by decide +kernel
theorem dX5_init_31 : decode cX5_init 31 = .ok (.newarray .int, 2) := by decide +kernel
theorem dX5_init_33 : decode cX5_init 33 = .ok (.putfield 21, 3) := by decide +kernel
theorem dX5_init_36 : decode cX5_init 36 = .ok (.aload_n 0, 1) := by decide +kernel
theorem dX5_init_37 : decode cX5_init 37 = .ok (.bipush 30, 2) := by decide +kernel
theorem dX5_init_39 : decode cX5_init 39 = .ok (.newarray .boolean, 2) := by decide +kernel
theorem dX5_init_41 : decode cX5_init 41 = .ok (.putfield 24, 3) := by decide +kernel
theorem dX5_init_44 : decode cX5_init 44 = .ok (.aload_n 0, 1) := by decide +kernel
theorem dX5_init_45 : decode cX5_init 45 = .ok (.bipush 30, 2) := by decide +kernel
theorem dX5_init_47 : decode cX5_init 47 = .ok (.newarray .int, 2) := by decide +kernel
theorem dX5_init_49 : decode cX5_init 49 = .ok (.putfield 28, 3) := by decide +kernel
theorem dX5_init_52 : decode cX5_init 52 = .ok (.aload_n 0, 1) := by decide +kernel
theorem dX5_init_53 : decode cX5_init 53 = .ok (.bipush 30, 2) := by decide +kernel
theorem dX5_init_55 : decode cX5_init 55 = .ok (.newarray .int, 2) := by decide +kernel
theorem dX5_init_57 : decode cX5_init 57 = .ok (.putfield 31, 3) := by decide +kernel
theorem dX5_init_60 : decode cX5_init 60 = .ok (.aload_n 0, 1) := by decide +kernel
theorem dX5_init_61 : decode cX5_init 61 = .ok (.iconst 0, 1) := by decide +kernel
theorem dX5_init_62 : decode cX5_init 62 = .ok (.putfield 34, 3) := by decide +kernel
theorem dX5_init_65 : decode cX5_init 65 = .ok (.aload_n 0, 1) := by decide +kernel
theorem dX5_init_66 : decode cX5_init 66 = .ok (.bipush 100, 2) := by decide +kernel
theorem dX5_init_68 : decode cX5_init 68 = .ok (.newarray .boolean, 2) := by decide +kernel
theorem dX5_init_70 : decode cX5_init 70 = .ok (.putfield 38, 3) := by decide +kernel
theorem dX5_init_73 : decode cX5_init 73 = .ok (.aload_n 0, 1) := by decide +kernel
theorem dX5_init_74 : decode cX5_init 74 = .ok (.iconst 0, 1) := by decide +kernel
theorem dX5_init_75 : decode cX5_init 75 = .ok (.putfield 41, 3) := by decide +kernel
theorem dX5_init_78 : decode cX5_init 78 = .ok (.aload_n 0, 1) := by decide +kernel
theorem dX5_init_79 : decode cX5_init 79 = .ok (.iconst (-1), 1) := by decide +kernel
theorem dX5_init_80 : decode cX5_init 80 = .ok (.putfield 44, 3) := by decide +kernel
theorem dX5_init_83 : decode cX5_init 83 = .ok (.aload_n 0, 1) := by decide +kernel
theorem dX5_init_84 : decode cX5_init 84 = .ok (.iconst (-1), 1) := by decide +kernel
theorem dX5_init_85 : decode cX5_init 85 = .ok (.putfield 47, 3) := by decide +kernel
theorem dX5_init_88 : decode cX5_init 88 = .ok (.aload_n 0, 1) := by decide +kernel
theorem dX5_init_89 : decode cX5_init 89 = .ok (.iconst (-1), 1) := by decide +kernel
theorem dX5_init_90 : decode cX5_init 90 = .ok (.putfield 50, 3) := by decide +kernel
theorem dX5_init_93 : decode cX5_init 93 = .ok (.aload_n 0, 1) := by decide +kernel
theorem dX5_init_94 : decode cX5_init 94 = .ok (.iconst (-1), 1) := by decide +kernel
theorem dX5_init_95 : decode cX5_init 95 = .ok (.putfield 53, 3) := by decide +kernel
theorem dX5_init_98 : decode cX5_init 98 = .ok (.aload_n 0, 1) := by decide +kernel
theorem dX5_init_99 : decode cX5_init 99 = .ok (.iconst (-1), 1) := by decide +kernel
theorem dX5_init_100 : decode cX5_init 100 = .ok (.putfield 56, 3) := by decide +kernel
theorem dX5_init_103 : decode cX5_init 103 = .ok (.return_, 1) := by decide +kernel
theorem wo_RX5_3 : Cond.methodLink RX5 3 objectInit ∈ TB := tbm 437 (by decide +kernel) (by decide +kernel)
theorem fpf_5_0 : Fpk TX5 0 true (.array .int) := ⟨rfl, by decide +kernel⟩
theorem fpf_5_1 : Fpk TX5 1 true (.array .int) := ⟨rfl, by decide +kernel⟩
theorem fpf_5_2 : Fpk TX5 2 true (.array .int) := ⟨rfl, by decide +kernel⟩
theorem fpf_5_3 : Fpk TX5 3 true (.array .int) := ⟨rfl, by decide +kernel⟩
theorem wa_boolean : Cond.arrayClass .boolean ∈ TB := tbm 491 (by decide +kernel) (by decide +kernel)
theorem fpf_5_4 : Fpk TX5 4 true (.array .boolean) := ⟨rfl, by decide +kernel⟩
theorem fpf_5_5 : Fpk TX5 5 true (.array .int) := ⟨rfl, by decide +kernel⟩
theorem fpf_5_6 : Fpk TX5 6 true (.array .int) := ⟨rfl, by decide +kernel⟩
theorem fpf_5_8 : Fpk TX5 8 true (.array .boolean) := ⟨rfl, by decide +kernel⟩
def cE5 (ρ : Rh_) : Rh_ :=
 (pI (pI (pI (pI (pI (pI (pR (nwR (pI (pR (nwR (pR (nwR (pR (nwR (pR (nwR (pR (nwR (pR (nwR (pR (nwR ρ 175) 174 0 175) 176) 174 1 176) 177) 174 2 177) 178) 174 3 178) 179) 174 4 179) 180) 174 5 180) 181) 174 6 181) 174 7 (0 : Int32)) 182) 174 8 182) 174 9 (0 : Int32)) 174 10 (-1 : Int32)) 174 11 (-1 : Int32)) 174 12 (-1 : Int32)) 174 13 (-1 : Int32)) 174 14 (-1 : Int32))
set_option maxHeartbeats 4000000 in
set_option maxRecDepth 20000 in
theorem k5 (ρ : Rh_) : Rj l D cA h0 ad yX5_init cX5_init 1 none true 2 8 310 (fun _ : Unit => (none, SHL.take 183, (cE5 ρ).1, (cE5 ρ).2)) [.ref (h0 + 174)] (SHL.take 175) ρ.1 ρ.2 (some ()) := by
  refine Rj.of (by decide) (fun _ => rfl) (Nat.le_of_ble_eq_true rfl) ?_
  refine tj_lv0 (lv' := [(0, .ref (h0 + 174))]) rfl ?_
  refine tj_aload_n (q := 1) dX5_init_0 rfl (i := 0) rfl (pl := 0) rfl ?_
  refine c_obj (q := 4) wo_RX5_3 wo_i wo_c dX5_init_1 rfl (Nat.le_of_ble_eq_true rfl) (Nat.le_of_ble_eq_true rfl) ?_
  refine tj_aload_n (q := 5) dX5_init_4 rfl (i := 0) rfl (pl := 0) rfl ?_
  refine tj_bipush (q := 7) (v := 30) dX5_init_5 rfl (by decide) ?_
  refine c_newaI (q := 9) (N := 30) (by decide) (by decide) shl_175 wa_int (Nat.le_of_ble_eq_true rfl) (Nat.le_of_ble_eq_true rfl) dX5_init_7 rfl ?_
  refine c_putF (q := 12) (j := 175) (tk_at (i := 174) shl_174 (by decide)) fok_5_0 tok_5 fpf_5_0 wl_RX5_11 dX5_init_9 rfl rfl rfl rfl ?_
  refine tj_aload_n (q := 13) dX5_init_12 rfl (i := 0) rfl (pl := 0) rfl ?_
  refine tj_bipush (q := 15) (v := 30) dX5_init_13 rfl (by decide) ?_
  refine c_newaI (q := 17) (N := 30) (by decide) (by decide) shl_176 wa_int (Nat.le_of_ble_eq_true rfl) (Nat.le_of_ble_eq_true rfl) dX5_init_15 rfl ?_
  refine c_putF (q := 20) (j := 176) (tk_at (i := 174) shl_174 (by decide)) fok_5_1 tok_5 fpf_5_1 wl_RX5_15 dX5_init_17 rfl rfl rfl rfl ?_
  refine tj_aload_n (q := 21) dX5_init_20 rfl (i := 0) rfl (pl := 0) rfl ?_
  refine tj_bipush (q := 23) (v := 30) dX5_init_21 rfl (by decide) ?_
  refine c_newaI (q := 25) (N := 30) (by decide) (by decide) shl_177 wa_int (Nat.le_of_ble_eq_true rfl) (Nat.le_of_ble_eq_true rfl) dX5_init_23 rfl ?_
  refine c_putF (q := 28) (j := 177) (tk_at (i := 174) shl_174 (by decide)) fok_5_2 tok_5 fpf_5_2 wl_RX5_18 dX5_init_25 rfl rfl rfl rfl ?_
  refine tj_aload_n (q := 29) dX5_init_28 rfl (i := 0) rfl (pl := 0) rfl ?_
  refine tj_bipush (q := 31) (v := 30) dX5_init_29 rfl (by decide) ?_
  refine c_newaI (q := 33) (N := 30) (by decide) (by decide) shl_178 wa_int (Nat.le_of_ble_eq_true rfl) (Nat.le_of_ble_eq_true rfl) dX5_init_31 rfl ?_
  refine c_putF (q := 36) (j := 178) (tk_at (i := 174) shl_174 (by decide)) fok_5_3 tok_5 fpf_5_3 wl_RX5_21 dX5_init_33 rfl rfl rfl rfl ?_
  refine tj_aload_n (q := 37) dX5_init_36 rfl (i := 0) rfl (pl := 0) rfl ?_
  refine tj_bipush (q := 39) (v := 30) dX5_init_37 rfl (by decide) ?_
  refine c_newaZ (q := 41) (N := 30) (by decide) (by decide) shl_179 wa_boolean (Nat.le_of_ble_eq_true rfl) (Nat.le_of_ble_eq_true rfl) dX5_init_39 rfl ?_
  refine c_putF (q := 44) (j := 179) (tk_at (i := 174) shl_174 (by decide)) fok_5_4 tok_5 fpf_5_4 wl_RX5_24 dX5_init_41 rfl rfl rfl rfl ?_
  refine tj_aload_n (q := 45) dX5_init_44 rfl (i := 0) rfl (pl := 0) rfl ?_
  refine tj_bipush (q := 47) (v := 30) dX5_init_45 rfl (by decide) ?_
  refine c_newaI (q := 49) (N := 30) (by decide) (by decide) shl_180 wa_int (Nat.le_of_ble_eq_true rfl) (Nat.le_of_ble_eq_true rfl) dX5_init_47 rfl ?_
  refine c_putF (q := 52) (j := 180) (tk_at (i := 174) shl_174 (by decide)) fok_5_5 tok_5 fpf_5_5 wl_RX5_28 dX5_init_49 rfl rfl rfl rfl ?_
  refine tj_aload_n (q := 53) dX5_init_52 rfl (i := 0) rfl (pl := 0) rfl ?_
  refine tj_bipush (q := 55) (v := 30) dX5_init_53 rfl (by decide) ?_
  refine c_newaI (q := 57) (N := 30) (by decide) (by decide) shl_181 wa_int (Nat.le_of_ble_eq_true rfl) (Nat.le_of_ble_eq_true rfl) dX5_init_55 rfl ?_
  refine c_putF (q := 60) (j := 181) (tk_at (i := 174) shl_174 (by decide)) fok_5_6 tok_5 fpf_5_6 wl_RX5_31 dX5_init_57 rfl rfl rfl rfl ?_
  refine tj_aload_n (q := 61) dX5_init_60 rfl (i := 0) rfl (pl := 0) rfl ?_
  refine tj_iconst (q := 62) (v := 0) dX5_init_61 rfl (by decide) ?_
  refine c_putI (q := 65) (tk_at (i := 174) shl_174 (by decide)) fok_5_7 tok_5 fpk_5_7 wl_RX5_34 dX5_init_62 rfl rfl rfl ?_
  refine tj_aload_n (q := 66) dX5_init_65 rfl (i := 0) rfl (pl := 0) rfl ?_
  refine tj_bipush (q := 68) (v := 100) dX5_init_66 rfl (by decide) ?_
  refine c_newaZ (q := 70) (N := 100) (by decide) (by decide) shl_182 wa_boolean (Nat.le_of_ble_eq_true rfl) (Nat.le_of_ble_eq_true rfl) dX5_init_68 rfl ?_
  refine c_putF (q := 73) (j := 182) (tk_at (i := 174) shl_174 (by decide)) fok_5_8 tok_5 fpf_5_8 wl_RX5_38 dX5_init_70 rfl rfl rfl rfl ?_
  refine tj_aload_n (q := 74) dX5_init_73 rfl (i := 0) rfl (pl := 0) rfl ?_
  refine tj_iconst (q := 75) (v := 0) dX5_init_74 rfl (by decide) ?_
  refine c_putI (q := 78) (tk_at (i := 174) shl_174 (by decide)) fok_5_9 tok_5 fpk_5_9 wl_RX5_41 dX5_init_75 rfl rfl rfl ?_
  refine tj_aload_n (q := 79) dX5_init_78 rfl (i := 0) rfl (pl := 0) rfl ?_
  refine tj_iconst (q := 80) (v := (-1)) dX5_init_79 rfl (by decide) ?_
  refine c_putI (q := 83) (tk_at (i := 174) shl_174 (by decide)) fok_5_10 tok_5 fpk_5_10 wl_RX5_44 dX5_init_80 rfl rfl rfl ?_
  refine tj_aload_n (q := 84) dX5_init_83 rfl (i := 0) rfl (pl := 0) rfl ?_
  refine tj_iconst (q := 85) (v := (-1)) dX5_init_84 rfl (by decide) ?_
  refine c_putI (q := 88) (tk_at (i := 174) shl_174 (by decide)) fok_5_11 tok_5 fpk_5_11 wl_RX5_47 dX5_init_85 rfl rfl rfl ?_
  refine tj_aload_n (q := 89) dX5_init_88 rfl (i := 0) rfl (pl := 0) rfl ?_
  refine tj_iconst (q := 90) (v := (-1)) dX5_init_89 rfl (by decide) ?_
  refine c_putI (q := 93) (tk_at (i := 174) shl_174 (by decide)) fok_5_12 tok_5 fpk_5_12 wl_RX5_50 dX5_init_90 rfl rfl rfl ?_
  refine tj_aload_n (q := 94) dX5_init_93 rfl (i := 0) rfl (pl := 0) rfl ?_
  refine tj_iconst (q := 95) (v := (-1)) dX5_init_94 rfl (by decide) ?_
  refine c_putI (q := 98) (tk_at (i := 174) shl_174 (by decide)) fok_5_13 tok_5 fpk_5_13 wl_RX5_53 dX5_init_95 rfl rfl rfl ?_
  refine tj_aload_n (q := 99) dX5_init_98 rfl (i := 0) rfl (pl := 0) rfl ?_
  refine tj_iconst (q := 100) (v := (-1)) dX5_init_99 rfl (by decide) ?_
  refine c_putI (q := 103) (tk_at (i := 174) shl_174 (by decide)) fok_5_14 tok_5 fpk_5_14 wl_RX5_56 dX5_init_100 rfl rfl rfl ?_
  exact tj_vret rfl rfl (Nat.le_of_ble_eq_true rfl) (Nat.le_of_ble_eq_true rfl) dX5_init_103

end
