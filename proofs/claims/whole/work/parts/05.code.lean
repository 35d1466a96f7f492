/-! the codes of part 03 are what the bytes decode to -/
theorem kc_0 : kChkY 0 = true := by decide +kernel
theorem kc_1 : kChkY 1 = true := by decide +kernel
theorem kc_2 : kChkY 2 = true := by decide +kernel
theorem kc_3 : kChkY 3 = true := by decide +kernel
theorem kc_4 : kChkY 4 = true := by decide +kernel
theorem kc_5 : kChkY 5 = true := by decide +kernel
theorem kc_6 : kChkY 6 = true := by decide +kernel
theorem kc_7 : kChkY 7 = true := by decide +kernel
theorem kc_8 : kChkY 8 = true := by decide +kernel
theorem kc_9 : kChkY 9 = true := by decide +kernel
theorem kc_10 : kChkY 10 = true := by decide +kernel
theorem kc_11 : kChkY 11 = true := by decide +kernel
theorem kc_12 : kChkY 12 = true := by decide +kernel
theorem kc_13 : kChkY 13 = true := by decide +kernel
theorem kc_14 : kChkY 14 = true := by decide +kernel
theorem kc_15 : kChkY 15 = true := by decide +kernel
theorem kc_16 : kChkY 16 = true := by decide +kernel
theorem kc_17 : kChkY 17 = true := by decide +kernel
theorem kc_18 : kChkY 18 = true := by decide +kernel
theorem kc_19 : kChkY 19 = true := by decide +kernel
theorem kc_20 : kChkY 20 = true := by decide +kernel
theorem kc_21 : kChkY 21 = true := by decide +kernel
theorem kc_22 : kChkY 22 = true := by decide +kernel
theorem kc_23 : kChkY 23 = true := by decide +kernel
theorem kc_24 : kChkY 24 = true := by decide +kernel
theorem kc_25 : kChkY 25 = true := by decide +kernel
theorem kc_26 : kChkY 26 = true := by decide +kernel
theorem kc_27 : kChkY 27 = true := by decide +kernel
theorem kc_28 : kChkY 28 = true := by decide +kernel
theorem kc_29 : kChkY 29 = true := by decide +kernel
theorem kc_30 : kChkY 30 = true := by decide +kernel
theorem kc_31 : kChkY 31 = true := by decide +kernel
theorem kc_32 : kChkY 32 = true := by decide +kernel
theorem kc_33 : kChkY 33 = true := by decide +kernel
theorem kc_34 : kChkY 34 = true := by decide +kernel
theorem kc_35 : kChkY 35 = true := by decide +kernel
theorem kc_36 : kChkY 36 = true := by decide +kernel
theorem kc_37 : kChkY 37 = true := by decide +kernel
theorem kc_38 : kChkY 38 = true := by decide +kernel
theorem kc_39 : kChkY 39 = true := by decide +kernel
theorem kc_40 : kChkY 40 = true := by decide +kernel
theorem kc_41 : kChkY 41 = true := by decide +kernel
theorem kc_42 : kChkY 42 = true := by decide +kernel
theorem kc_43 : kChkY 43 = true := by decide +kernel
theorem kc_44 : kChkY 44 = true := by decide +kernel
theorem kc_45 : kChkY 45 = true := by decide +kernel
theorem kc_46 : kChkY 46 = true := by decide +kernel
theorem kc_47 : kChkY 47 = true := by decide +kernel
theorem kc_48 : kChkY 48 = true := by decide +kernel
theorem kc_49 : kChkY 49 = true := by decide +kernel
theorem kc_50 : kChkY 50 = true := by decide +kernel
theorem kc_51 : kChkY 51 = true := by decide +kernel
theorem kc_52 : kChkY 52 = true := by decide +kernel
theorem kc_53 : kChkY 53 = true := by decide +kernel
theorem kc_54 : kChkY 54 = true := by decide +kernel
theorem kc_55 : kChkY 55 = true := by decide +kernel
theorem kc_56 : kChkY 56 = true := by decide +kernel
theorem kc_57 : kChkY 57 = true := by decide +kernel
theorem kc_58 : kChkY 58 = true := by decide +kernel
theorem kc_59 : kChkY 59 = true := by decide +kernel
theorem kc_60 : kChkY 60 = true := by decide +kernel
theorem kc_61 : kChkY 61 = true := by decide +kernel
theorem kc_62 : kChkY 62 = true := by decide +kernel
theorem kc_63 : kChkY 63 = true := by decide +kernel
theorem kc_64 : kChkY 64 = true := by decide +kernel
theorem kc_65 : kChkY 65 = true := by decide +kernel
theorem kc_66 : kChkY 66 = true := by decide +kernel
theorem kc_67 : kChkY 67 = true := by decide +kernel
theorem kc_68 : kChkY 68 = true := by decide +kernel
theorem kc_69 : kChkY 69 = true := by decide +kernel
theorem kc_70 : kChkY 70 = true := by decide +kernel
theorem kc_71 : kChkY 71 = true := by decide +kernel
theorem kc_72 : kChkY 72 = true := by decide +kernel
theorem kc_73 : kChkY 73 = true := by decide +kernel
theorem kc_74 : kChkY 74 = true := by decide +kernel
theorem kc_75 : kChkY 75 = true := by decide +kernel
theorem kc_76 : kChkY 76 = true := by decide +kernel
theorem kc_77 : kChkY 77 = true := by decide +kernel
theorem kc_78 : kChkY 78 = true := by decide +kernel
theorem kc_79 : kChkY 79 = true := by decide +kernel
theorem kc_80 : kChkY 80 = true := by decide +kernel
theorem kc_81 : kChkY 81 = true := by decide +kernel
theorem kc_82 : kChkY 82 = true := by decide +kernel
theorem kc_83 : kChkY 83 = true := by decide +kernel
theorem kc_84 : kChkY 84 = true := by decide +kernel
theorem kc_85 : kChkY 85 = true := by decide +kernel
theorem kc_86 : kChkY 86 = true := by decide +kernel
theorem kc_87 : kChkY 87 = true := by decide +kernel
theorem kc_88 : kChkY 88 = true := by decide +kernel
theorem kc_89 : kChkY 89 = true := by decide +kernel
theorem kc_90 : kChkY 90 = true := by decide +kernel
theorem kc_91 : kChkY 91 = true := by decide +kernel
theorem kc_92 : kChkY 92 = true := by decide +kernel
theorem kc_93 : kChkY 93 = true := by decide +kernel
theorem kc_94 : kChkY 94 = true := by decide +kernel
theorem kc_95 : kChkY 95 = true := by decide +kernel
theorem kc_96 : kChkY 96 = true := by decide +kernel
theorem kc_97 : kChkY 97 = true := by decide +kernel
theorem kc_98 : kChkY 98 = true := by decide +kernel
theorem kc_99 : kChkY 99 = true := by decide +kernel
theorem kc_100 : kChkY 100 = true := by decide +kernel
theorem kc_101 : kChkY 101 = true := by decide +kernel
theorem kc_102 : kChkY 102 = true := by decide +kernel
theorem kc_103 : kChkY 103 = true := by decide +kernel
theorem kc_104 : kChkY 104 = true := by decide +kernel
theorem kc_105 : kChkY 105 = true := by decide +kernel
theorem kc_106 : kChkY 106 = true := by decide +kernel
theorem kc_107 : kChkY 107 = true := by decide +kernel
theorem kc_108 : kChkY 108 = true := by decide +kernel
theorem kc_109 : kChkY 109 = true := by decide +kernel
theorem kc_110 : kChkY 110 = true := by decide +kernel
theorem kc_111 : kChkY 111 = true := by decide +kernel
theorem kc_112 : kChkY 112 = true := by decide +kernel
theorem kc_113 : kChkY 113 = true := by decide +kernel
theorem kc_114 : kChkY 114 = true := by decide +kernel
theorem kc_115 : kChkY 115 = true := by decide +kernel
theorem kc_116 : kChkY 116 = true := by decide +kernel
theorem kc_117 : kChkY 117 = true := by decide +kernel
theorem kc_118 : kChkY 118 = true := by decide +kernel
theorem kc_119 : kChkY 119 = true := by decide +kernel
theorem kc_120 : kChkY 120 = true := by decide +kernel
theorem kc_121 : kChkY 121 = true := by decide +kernel
theorem kc_122 : kChkY 122 = true := by decide +kernel
theorem kc_123 : kChkY 123 = true := by decide +kernel
theorem kc_124 : kChkY 124 = true := by decide +kernel
theorem kc_125 : kChkY 125 = true := by decide +kernel
theorem kc_126 : kChkY 126 = true := by decide +kernel
theorem kc_127 : kChkY 127 = true := by decide +kernel
theorem kc_128 : kChkY 128 = true := by decide +kernel
theorem kc_129 : kChkY 129 = true := by decide +kernel
theorem kc_130 : kChkY 130 = true := by decide +kernel
theorem kc_131 : kChkY 131 = true := by decide +kernel
theorem kc_132 : kChkY 132 = true := by decide +kernel
theorem kc_133 : kChkY 133 = true := by decide +kernel
theorem kc_134 : kChkY 134 = true := by decide +kernel
theorem kc_135 : kChkY 135 = true := by decide +kernel
theorem kc_136 : kChkY 136 = true := by decide +kernel
theorem kc_137 : kChkY 137 = true := by decide +kernel
theorem kc_138 : kChkY 138 = true := by decide +kernel
theorem kc_139 : kChkY 139 = true := by decide +kernel
theorem kc_140 : kChkY 140 = true := by decide +kernel
theorem kc_141 : kChkY 141 = true := by decide +kernel
theorem kc_142 : kChkY 142 = true := by decide +kernel
theorem kc_143 : kChkY 143 = true := by decide +kernel
theorem kc_144 : kChkY 144 = true := by decide +kernel
theorem kc_145 : kChkY 145 = true := by decide +kernel
theorem kc_146 : kChkY 146 = true := by decide +kernel
theorem kc_147 : kChkY 147 = true := by decide +kernel
theorem kc_148 : kChkY 148 = true := by decide +kernel
theorem kc_149 : kChkY 149 = true := by decide +kernel
theorem kc_150 : kChkY 150 = true := by decide +kernel
theorem kc_151 : kChkY 151 = true := by decide +kernel
theorem kc_152 : kChkY 152 = true := by decide +kernel
theorem kc_153 : kChkY 153 = true := by decide +kernel
theorem kc_154 : kChkY 154 = true := by decide +kernel
theorem kc_155 : kChkY 155 = true := by decide +kernel
theorem kc_156 : kChkY 156 = true := by decide +kernel
theorem kc_157 : kChkY 157 = true := by decide +kernel
theorem kc_158 : kChkY 158 = true := by decide +kernel
theorem kc_159 : kChkY 159 = true := by decide +kernel
theorem kc_160 : kChkY 160 = true := by decide +kernel
theorem kc_161 : kChkY 161 = true := by decide +kernel
theorem kc_162 : kChkY 162 = true := by decide +kernel
theorem kc_163 : kChkY 163 = true := by decide +kernel
theorem kc_164 : kChkY 164 = true := by decide +kernel
theorem kc_165 : kChkY 165 = true := by decide +kernel
theorem kc_166 : kChkY 166 = true := by decide +kernel
theorem kc_167 : kChkY 167 = true := by decide +kernel
theorem kc_168 : kChkY 168 = true := by decide +kernel
theorem kc_169 : kChkY 169 = true := by decide +kernel
theorem kc_170 : kChkY 170 = true := by decide +kernel
theorem kc_171 : kChkY 171 = true := by decide +kernel
theorem kc_172 : kChkY 172 = true := by decide +kernel
theorem kc_173 : kChkY 173 = true := by decide +kernel
theorem kc_174 : kChkY 174 = true := by decide +kernel
theorem kc_175 : kChkY 175 = true := by decide +kernel
theorem kc_176 : kChkY 176 = true := by decide +kernel
theorem kc_177 : kChkY 177 = true := by decide +kernel
theorem kc_178 : kChkY 178 = true := by decide +kernel
theorem kc_179 : kChkY 179 = true := by decide +kernel
theorem kc_180 : kChkY 180 = true := by decide +kernel
theorem kc_181 : kChkY 181 = true := by decide +kernel
theorem kc_182 : kChkY 182 = true := by decide +kernel
theorem kc_183 : kChkY 183 = true := by decide +kernel
theorem kc_184 : kChkY 184 = true := by decide +kernel
theorem kc_185 : kChkY 185 = true := by decide +kernel
theorem kc_186 : kChkY 186 = true := by decide +kernel
theorem kc_187 : kChkY 187 = true := by decide +kernel
theorem kc_188 : kChkY 188 = true := by decide +kernel
theorem kc_189 : kChkY 189 = true := by decide +kernel
theorem kc_190 : kChkY 190 = true := by decide +kernel
theorem kc_191 : kChkY 191 = true := by decide +kernel
theorem kc_192 : kChkY 192 = true := by decide +kernel
theorem kc_193 : kChkY 193 = true := by decide +kernel
theorem kc_194 : kChkY 194 = true := by decide +kernel
theorem kc_195 : kChkY 195 = true := by decide +kernel
theorem kc_196 : kChkY 196 = true := by decide +kernel
theorem kc_197 : kChkY 197 = true := by decide +kernel
theorem kc_198 : kChkY 198 = true := by decide +kernel
theorem kc_199 : kChkY 199 = true := by decide +kernel
theorem kc_200 : kChkY 200 = true := by decide +kernel
theorem kc_201 : kChkY 201 = true := by decide +kernel
theorem kc_202 : kChkY 202 = true := by decide +kernel
theorem kc_203 : kChkY 203 = true := by decide +kernel
theorem kc_204 : kChkY 204 = true := by decide +kernel
theorem kc_205 : kChkY 205 = true := by decide +kernel
theorem kc_206 : kChkY 206 = true := by decide +kernel
theorem kc_207 : kChkY 207 = true := by decide +kernel
theorem kc_208 : kChkY 208 = true := by decide +kernel
theorem kc_209 : kChkY 209 = true := by decide +kernel
theorem kc_210 : kChkY 210 = true := by decide +kernel
theorem kc_211 : kChkY 211 = true := by decide +kernel
theorem kc_212 : kChkY 212 = true := by decide +kernel
theorem kc_213 : kChkY 213 = true := by decide +kernel
theorem kc_214 : kChkY 214 = true := by decide +kernel
theorem kc_215 : kChkY 215 = true := by decide +kernel
theorem kc_216 : kChkY 216 = true := by decide +kernel
theorem kc_217 : kChkY 217 = true := by decide +kernel
theorem kc_218 : kChkY 218 = true := by decide +kernel
theorem kc_219 : kChkY 219 = true := by decide +kernel
theorem kc_220 : kChkY 220 = true := by decide +kernel
theorem kc_221 : kChkY 221 = true := by decide +kernel
theorem kc_222 : kChkY 222 = true := by decide +kernel
theorem kc_223 : kChkY 223 = true := by decide +kernel
theorem kc_224 : kChkY 224 = true := by decide +kernel
theorem kc_225 : kChkY 225 = true := by decide +kernel
theorem kc_226 : kChkY 226 = true := by decide +kernel
theorem kc_227 : kChkY 227 = true := by decide +kernel
theorem kc_228 : kChkY 228 = true := by decide +kernel
theorem kc_229 : kChkY 229 = true := by decide +kernel
theorem kc_230 : kChkY 230 = true := by decide +kernel
theorem kc_231 : kChkY 231 = true := by decide +kernel
theorem kc_232 : kChkY 232 = true := by decide +kernel
theorem kc_233 : kChkY 233 = true := by decide +kernel
theorem kc_234 : kChkY 234 = true := by decide +kernel
theorem kc_235 : kChkY 235 = true := by decide +kernel
theorem kc_236 : kChkY 236 = true := by decide +kernel
theorem kc_237 : kChkY 237 = true := by decide +kernel
theorem kc_238 : kChkY 238 = true := by decide +kernel
theorem kc_239 : kChkY 239 = true := by decide +kernel
theorem kc_240 : kChkY 240 = true := by decide +kernel
theorem kc_241 : kChkY 241 = true := by decide +kernel
theorem kc_242 : kChkY 242 = true := by decide +kernel
theorem kc_243 : kChkY 243 = true := by decide +kernel
theorem kc_244 : kChkY 244 = true := by decide +kernel
theorem kc_245 : kChkY 245 = true := by decide +kernel
theorem kc_246 : kChkY 246 = true := by decide +kernel
theorem kc_247 : kChkY 247 = true := by decide +kernel
theorem kc_248 : kChkY 248 = true := by decide +kernel
theorem kc_249 : kChkY 249 = true := by decide +kernel
theorem kc_250 : kChkY 250 = true := by decide +kernel
theorem all_td {α : Type} {p : α → Bool} (n : Nat) {l : List α} (h1 : (l.take n).all p = true) (h2 : (l.drop n).all p = true) : l.all p = true := by
  rw [← List.take_append_drop n l, List.all_append, h1, h2]
  rfl
theorem kl_0 : (List.take 50 (code9 251)).all (kChk1 (mByt 251)) = true := by decide +kernel
theorem kl_1 : (List.take 50 (List.drop 50 (code9 251))).all (kChk1 (mByt 251)) = true := by decide +kernel
theorem kl_2 : (List.take 50 (List.drop 50 (List.drop 50 (code9 251)))).all (kChk1 (mByt 251)) = true := by decide +kernel
theorem kl_3 : (List.take 50 (List.drop 50 (List.drop 50 (List.drop 50 (code9 251))))).all (kChk1 (mByt 251)) = true := by decide +kernel
theorem kl_4 : (List.take 50 (List.drop 50 (List.drop 50 (List.drop 50 (List.drop 50 (code9 251)))))).all (kChk1 (mByt 251)) = true := by decide +kernel
theorem kl_5 : (List.take 50 (List.drop 50 (List.drop 50 (List.drop 50 (List.drop 50 (List.drop 50 (code9 251))))))).all (kChk1 (mByt 251)) = true := by decide +kernel
theorem kl_6 : (List.take 50 (List.drop 50 (List.drop 50 (List.drop 50 (List.drop 50 (List.drop 50 (List.drop 50 (code9 251)))))))).all (kChk1 (mByt 251)) = true := by decide +kernel
theorem kl_7 : (List.take 50 (List.drop 50 (List.drop 50 (List.drop 50 (List.drop 50 (List.drop 50 (List.drop 50 (List.drop 50 (code9 251))))))))).all (kChk1 (mByt 251)) = true := by decide +kernel
theorem kl_8 : (List.take 50 (List.drop 50 (List.drop 50 (List.drop 50 (List.drop 50 (List.drop 50 (List.drop 50 (List.drop 50 (List.drop 50 (code9 251)))))))))).all (kChk1 (mByt 251)) = true := by decide +kernel
theorem kl_9 : (List.take 50 (List.drop 50 (List.drop 50 (List.drop 50 (List.drop 50 (List.drop 50 (List.drop 50 (List.drop 50 (List.drop 50 (List.drop 50 (code9 251))))))))))).all (kChk1 (mByt 251)) = true := by decide +kernel
theorem kl_10 : (List.take 50 (List.drop 50 (List.drop 50 (List.drop 50 (List.drop 50 (List.drop 50 (List.drop 50 (List.drop 50 (List.drop 50 (List.drop 50 (List.drop 50 (code9 251)))))))))))).all (kChk1 (mByt 251)) = true := by decide +kernel
theorem kl_11 : (List.take 50 (List.drop 50 (List.drop 50 (List.drop 50 (List.drop 50 (List.drop 50 (List.drop 50 (List.drop 50 (List.drop 50 (List.drop 50 (List.drop 50 (List.drop 50 (code9 251))))))))))))).all (kChk1 (mByt 251)) = true := by decide +kernel
theorem kl_12 : (List.take 50 (List.drop 50 (List.drop 50 (List.drop 50 (List.drop 50 (List.drop 50 (List.drop 50 (List.drop 50 (List.drop 50 (List.drop 50 (List.drop 50 (List.drop 50 (List.drop 50 (code9 251)))))))))))))).all (kChk1 (mByt 251)) = true := by decide +kernel
theorem kl_13 : (List.take 50 (List.drop 50 (List.drop 50 (List.drop 50 (List.drop 50 (List.drop 50 (List.drop 50 (List.drop 50 (List.drop 50 (List.drop 50 (List.drop 50 (List.drop 50 (List.drop 50 (List.drop 50 (code9 251))))))))))))))).all (kChk1 (mByt 251)) = true := by decide +kernel
theorem kl_14 : (List.take 50 (List.drop 50 (List.drop 50 (List.drop 50 (List.drop 50 (List.drop 50 (List.drop 50 (List.drop 50 (List.drop 50 (List.drop 50 (List.drop 50 (List.drop 50 (List.drop 50 (List.drop 50 (List.drop 50 (code9 251)))))))))))))))).all (kChk1 (mByt 251)) = true := by decide +kernel
theorem kl_15 : (List.take 50 (List.drop 50 (List.drop 50 (List.drop 50 (List.drop 50 (List.drop 50 (List.drop 50 (List.drop 50 (List.drop 50 (List.drop 50 (List.drop 50 (List.drop 50 (List.drop 50 (List.drop 50 (List.drop 50 (List.drop 50 (code9 251))))))))))))))))).all (kChk1 (mByt 251)) = true := by decide +kernel
theorem kl_16 : (List.take 50 (List.drop 50 (List.drop 50 (List.drop 50 (List.drop 50 (List.drop 50 (List.drop 50 (List.drop 50 (List.drop 50 (List.drop 50 (List.drop 50 (List.drop 50 (List.drop 50 (List.drop 50 (List.drop 50 (List.drop 50 (List.drop 50 (code9 251)))))))))))))))))).all (kChk1 (mByt 251)) = true := by decide +kernel
theorem kl_17 : (List.take 50 (List.drop 50 (List.drop 50 (List.drop 50 (List.drop 50 (List.drop 50 (List.drop 50 (List.drop 50 (List.drop 50 (List.drop 50 (List.drop 50 (List.drop 50 (List.drop 50 (List.drop 50 (List.drop 50 (List.drop 50 (List.drop 50 (List.drop 50 (code9 251))))))))))))))))))).all (kChk1 (mByt 251)) = true := by decide +kernel
theorem kl_18 : (List.take 50 (List.drop 50 (List.drop 50 (List.drop 50 (List.drop 50 (List.drop 50 (List.drop 50 (List.drop 50 (List.drop 50 (List.drop 50 (List.drop 50 (List.drop 50 (List.drop 50 (List.drop 50 (List.drop 50 (List.drop 50 (List.drop 50 (List.drop 50 (List.drop 50 (code9 251)))))))))))))))))))).all (kChk1 (mByt 251)) = true := by decide +kernel
theorem kl_19 : (List.take 50 (List.drop 50 (List.drop 50 (List.drop 50 (List.drop 50 (List.drop 50 (List.drop 50 (List.drop 50 (List.drop 50 (List.drop 50 (List.drop 50 (List.drop 50 (List.drop 50 (List.drop 50 (List.drop 50 (List.drop 50 (List.drop 50 (List.drop 50 (List.drop 50 (List.drop 50 (code9 251))))))))))))))))))))).all (kChk1 (mByt 251)) = true := by decide +kernel
theorem kl_end : ((List.drop 50 (List.drop 50 (List.drop 50 (List.drop 50 (List.drop 50 (List.drop 50 (List.drop 50 (List.drop 50 (List.drop 50 (List.drop 50 (List.drop 50 (List.drop 50 (List.drop 50 (List.drop 50 (List.drop 50 (List.drop 50 (List.drop 50 (List.drop 50 (List.drop 50 (List.drop 50 (code9 251)))))))))))))))))))))).all (kChk1 (mByt 251)) = true := by decide +kernel
theorem kc_251 : kChkY 251 = true := all_td 50 kl_0 (all_td 50 kl_1 (all_td 50 kl_2 (all_td 50 kl_3 (all_td 50 kl_4 (all_td 50 kl_5 (all_td 50 kl_6 (all_td 50 kl_7 (all_td 50 kl_8 (all_td 50 kl_9 (all_td 50 kl_10 (all_td 50 kl_11 (all_td 50 kl_12 (all_td 50 kl_13 (all_td 50 kl_14 (all_td 50 kl_15 (all_td 50 kl_16 (all_td 50 kl_17 (all_td 50 kl_18 (all_td 50 kl_19 (kl_end))))))))))))))))))))
theorem kc_b0 : ∀ y ∈ List.range' 0 21, kChkY y = true := List.forall_mem_cons.mpr ⟨kc_0, List.forall_mem_cons.mpr ⟨kc_1, List.forall_mem_cons.mpr ⟨kc_2, List.forall_mem_cons.mpr ⟨kc_3, List.forall_mem_cons.mpr ⟨kc_4, List.forall_mem_cons.mpr ⟨kc_5, List.forall_mem_cons.mpr ⟨kc_6, List.forall_mem_cons.mpr ⟨kc_7, List.forall_mem_cons.mpr ⟨kc_8, List.forall_mem_cons.mpr ⟨kc_9, List.forall_mem_cons.mpr ⟨kc_10, List.forall_mem_cons.mpr ⟨kc_11, List.forall_mem_cons.mpr ⟨kc_12, List.forall_mem_cons.mpr ⟨kc_13, List.forall_mem_cons.mpr ⟨kc_14, List.forall_mem_cons.mpr ⟨kc_15, List.forall_mem_cons.mpr ⟨kc_16, List.forall_mem_cons.mpr ⟨kc_17, List.forall_mem_cons.mpr ⟨kc_18, List.forall_mem_cons.mpr ⟨kc_19, List.forall_mem_cons.mpr ⟨kc_20, fun _ h => absurd h List.not_mem_nil⟩⟩⟩⟩⟩⟩⟩⟩⟩⟩⟩⟩⟩⟩⟩⟩⟩⟩⟩⟩⟩
theorem kc_b1 : ∀ y ∈ List.range' 21 21, kChkY y = true := List.forall_mem_cons.mpr ⟨kc_21, List.forall_mem_cons.mpr ⟨kc_22, List.forall_mem_cons.mpr ⟨kc_23, List.forall_mem_cons.mpr ⟨kc_24, List.forall_mem_cons.mpr ⟨kc_25, List.forall_mem_cons.mpr ⟨kc_26, List.forall_mem_cons.mpr ⟨kc_27, List.forall_mem_cons.mpr ⟨kc_28, List.forall_mem_cons.mpr ⟨kc_29, List.forall_mem_cons.mpr ⟨kc_30, List.forall_mem_cons.mpr ⟨kc_31, List.forall_mem_cons.mpr ⟨kc_32, List.forall_mem_cons.mpr ⟨kc_33, List.forall_mem_cons.mpr ⟨kc_34, List.forall_mem_cons.mpr ⟨kc_35, List.forall_mem_cons.mpr ⟨kc_36, List.forall_mem_cons.mpr ⟨kc_37, List.forall_mem_cons.mpr ⟨kc_38, List.forall_mem_cons.mpr ⟨kc_39, List.forall_mem_cons.mpr ⟨kc_40, List.forall_mem_cons.mpr ⟨kc_41, fun _ h => absurd h List.not_mem_nil⟩⟩⟩⟩⟩⟩⟩⟩⟩⟩⟩⟩⟩⟩⟩⟩⟩⟩⟩⟩⟩
theorem kc_b2 : ∀ y ∈ List.range' 42 21, kChkY y = true := List.forall_mem_cons.mpr ⟨kc_42, List.forall_mem_cons.mpr ⟨kc_43, List.forall_mem_cons.mpr ⟨kc_44, List.forall_mem_cons.mpr ⟨kc_45, List.forall_mem_cons.mpr ⟨kc_46, List.forall_mem_cons.mpr ⟨kc_47, List.forall_mem_cons.mpr ⟨kc_48, List.forall_mem_cons.mpr ⟨kc_49, List.forall_mem_cons.mpr ⟨kc_50, List.forall_mem_cons.mpr ⟨kc_51, List.forall_mem_cons.mpr ⟨kc_52, List.forall_mem_cons.mpr ⟨kc_53, List.forall_mem_cons.mpr ⟨kc_54, List.forall_mem_cons.mpr ⟨kc_55, List.forall_mem_cons.mpr ⟨kc_56, List.forall_mem_cons.mpr ⟨kc_57, List.forall_mem_cons.mpr ⟨kc_58, List.forall_mem_cons.mpr ⟨kc_59, List.forall_mem_cons.mpr ⟨kc_60, List.forall_mem_cons.mpr ⟨kc_61, List.forall_mem_cons.mpr ⟨kc_62, fun _ h => absurd h List.not_mem_nil⟩⟩⟩⟩⟩⟩⟩⟩⟩⟩⟩⟩⟩⟩⟩⟩⟩⟩⟩⟩⟩
theorem kc_b3 : ∀ y ∈ List.range' 63 21, kChkY y = true := List.forall_mem_cons.mpr ⟨kc_63, List.forall_mem_cons.mpr ⟨kc_64, List.forall_mem_cons.mpr ⟨kc_65, List.forall_mem_cons.mpr ⟨kc_66, List.forall_mem_cons.mpr ⟨kc_67, List.forall_mem_cons.mpr ⟨kc_68, List.forall_mem_cons.mpr ⟨kc_69, List.forall_mem_cons.mpr ⟨kc_70, List.forall_mem_cons.mpr ⟨kc_71, List.forall_mem_cons.mpr ⟨kc_72, List.forall_mem_cons.mpr ⟨kc_73, List.forall_mem_cons.mpr ⟨kc_74, List.forall_mem_cons.mpr ⟨kc_75, List.forall_mem_cons.mpr ⟨kc_76, List.forall_mem_cons.mpr ⟨kc_77, List.forall_mem_cons.mpr ⟨kc_78, List.forall_mem_cons.mpr ⟨kc_79, List.forall_mem_cons.mpr ⟨kc_80, List.forall_mem_cons.mpr ⟨kc_81, List.forall_mem_cons.mpr ⟨kc_82, List.forall_mem_cons.mpr ⟨kc_83, fun _ h => absurd h List.not_mem_nil⟩⟩⟩⟩⟩⟩⟩⟩⟩⟩⟩⟩⟩⟩⟩⟩⟩⟩⟩⟩⟩
theorem kc_b4 : ∀ y ∈ List.range' 84 21, kChkY y = true := List.forall_mem_cons.mpr ⟨kc_84, List.forall_mem_cons.mpr ⟨kc_85, List.forall_mem_cons.mpr ⟨kc_86, List.forall_mem_cons.mpr ⟨kc_87, List.forall_mem_cons.mpr ⟨kc_88, List.forall_mem_cons.mpr ⟨kc_89, List.forall_mem_cons.mpr ⟨kc_90, List.forall_mem_cons.mpr ⟨kc_91, List.forall_mem_cons.mpr ⟨kc_92, List.forall_mem_cons.mpr ⟨kc_93, List.forall_mem_cons.mpr ⟨kc_94, List.forall_mem_cons.mpr ⟨kc_95, List.forall_mem_cons.mpr ⟨kc_96, List.forall_mem_cons.mpr ⟨kc_97, List.forall_mem_cons.mpr ⟨kc_98, List.forall_mem_cons.mpr ⟨kc_99, List.forall_mem_cons.mpr ⟨kc_100, List.forall_mem_cons.mpr ⟨kc_101, List.forall_mem_cons.mpr ⟨kc_102, List.forall_mem_cons.mpr ⟨kc_103, List.forall_mem_cons.mpr ⟨kc_104, fun _ h => absurd h List.not_mem_nil⟩⟩⟩⟩⟩⟩⟩⟩⟩⟩⟩⟩⟩⟩⟩⟩⟩⟩⟩⟩⟩
theorem kc_b5 : ∀ y ∈ List.range' 105 21, kChkY y = true := List.forall_mem_cons.mpr ⟨kc_105, List.forall_mem_cons.mpr ⟨kc_106, List.forall_mem_cons.mpr ⟨kc_107, List.forall_mem_cons.mpr ⟨kc_108, List.forall_mem_cons.mpr ⟨kc_109, List.forall_mem_cons.mpr ⟨kc_110, List.forall_mem_cons.mpr ⟨kc_111, List.forall_mem_cons.mpr ⟨kc_112, List.forall_mem_cons.mpr ⟨kc_113, List.forall_mem_cons.mpr ⟨kc_114, List.forall_mem_cons.mpr ⟨kc_115, List.forall_mem_cons.mpr ⟨kc_116, List.forall_mem_cons.mpr ⟨kc_117, List.forall_mem_cons.mpr ⟨kc_118, List.forall_mem_cons.mpr ⟨kc_119, List.forall_mem_cons.mpr ⟨kc_120, List.forall_mem_cons.mpr ⟨kc_121, List.forall_mem_cons.mpr ⟨kc_122, List.forall_mem_cons.mpr ⟨kc_123, List.forall_mem_cons.mpr ⟨kc_124, List.forall_mem_cons.mpr ⟨kc_125, fun _ h => absurd h List.not_mem_nil⟩⟩⟩⟩⟩⟩⟩⟩⟩⟩⟩⟩⟩⟩⟩⟩⟩⟩⟩⟩⟩
theorem kc_b6 : ∀ y ∈ List.range' 126 21, kChkY y = true := List.forall_mem_cons.mpr ⟨kc_126, List.forall_mem_cons.mpr ⟨kc_127, List.forall_mem_cons.mpr ⟨kc_128, List.forall_mem_cons.mpr ⟨kc_129, List.forall_mem_cons.mpr ⟨kc_130, List.forall_mem_cons.mpr ⟨kc_131, List.forall_mem_cons.mpr ⟨kc_132, List.forall_mem_cons.mpr ⟨kc_133, List.forall_mem_cons.mpr ⟨kc_134, List.forall_mem_cons.mpr ⟨kc_135, List.forall_mem_cons.mpr ⟨kc_136, List.forall_mem_cons.mpr ⟨kc_137, List.forall_mem_cons.mpr ⟨kc_138, List.forall_mem_cons.mpr ⟨kc_139, List.forall_mem_cons.mpr ⟨kc_140, List.forall_mem_cons.mpr ⟨kc_141, List.forall_mem_cons.mpr ⟨kc_142, List.forall_mem_cons.mpr ⟨kc_143, List.forall_mem_cons.mpr ⟨kc_144, List.forall_mem_cons.mpr ⟨kc_145, List.forall_mem_cons.mpr ⟨kc_146, fun _ h => absurd h List.not_mem_nil⟩⟩⟩⟩⟩⟩⟩⟩⟩⟩⟩⟩⟩⟩⟩⟩⟩⟩⟩⟩⟩
theorem kc_b7 : ∀ y ∈ List.range' 147 21, kChkY y = true := List.forall_mem_cons.mpr ⟨kc_147, List.forall_mem_cons.mpr ⟨kc_148, List.forall_mem_cons.mpr ⟨kc_149, List.forall_mem_cons.mpr ⟨kc_150, List.forall_mem_cons.mpr ⟨kc_151, List.forall_mem_cons.mpr ⟨kc_152, List.forall_mem_cons.mpr ⟨kc_153, List.forall_mem_cons.mpr ⟨kc_154, List.forall_mem_cons.mpr ⟨kc_155, List.forall_mem_cons.mpr ⟨kc_156, List.forall_mem_cons.mpr ⟨kc_157, List.forall_mem_cons.mpr ⟨kc_158, List.forall_mem_cons.mpr ⟨kc_159, List.forall_mem_cons.mpr ⟨kc_160, List.forall_mem_cons.mpr ⟨kc_161, List.forall_mem_cons.mpr ⟨kc_162, List.forall_mem_cons.mpr ⟨kc_163, List.forall_mem_cons.mpr ⟨kc_164, List.forall_mem_cons.mpr ⟨kc_165, List.forall_mem_cons.mpr ⟨kc_166, List.forall_mem_cons.mpr ⟨kc_167, fun _ h => absurd h List.not_mem_nil⟩⟩⟩⟩⟩⟩⟩⟩⟩⟩⟩⟩⟩⟩⟩⟩⟩⟩⟩⟩⟩
theorem kc_b8 : ∀ y ∈ List.range' 168 21, kChkY y = true := List.forall_mem_cons.mpr ⟨kc_168, List.forall_mem_cons.mpr ⟨kc_169, List.forall_mem_cons.mpr ⟨kc_170, List.forall_mem_cons.mpr ⟨kc_171, List.forall_mem_cons.mpr ⟨kc_172, List.forall_mem_cons.mpr ⟨kc_173, List.forall_mem_cons.mpr ⟨kc_174, List.forall_mem_cons.mpr ⟨kc_175, List.forall_mem_cons.mpr ⟨kc_176, List.forall_mem_cons.mpr ⟨kc_177, List.forall_mem_cons.mpr ⟨kc_178, List.forall_mem_cons.mpr ⟨kc_179, List.forall_mem_cons.mpr ⟨kc_180, List.forall_mem_cons.mpr ⟨kc_181, List.forall_mem_cons.mpr ⟨kc_182, List.forall_mem_cons.mpr ⟨kc_183, List.forall_mem_cons.mpr ⟨kc_184, List.forall_mem_cons.mpr ⟨kc_185, List.forall_mem_cons.mpr ⟨kc_186, List.forall_mem_cons.mpr ⟨kc_187, List.forall_mem_cons.mpr ⟨kc_188, fun _ h => absurd h List.not_mem_nil⟩⟩⟩⟩⟩⟩⟩⟩⟩⟩⟩⟩⟩⟩⟩⟩⟩⟩⟩⟩⟩
theorem kc_b9 : ∀ y ∈ List.range' 189 21, kChkY y = true := List.forall_mem_cons.mpr ⟨kc_189, List.forall_mem_cons.mpr ⟨kc_190, List.forall_mem_cons.mpr ⟨kc_191, List.forall_mem_cons.mpr ⟨kc_192, List.forall_mem_cons.mpr ⟨kc_193, List.forall_mem_cons.mpr ⟨kc_194, List.forall_mem_cons.mpr ⟨kc_195, List.forall_mem_cons.mpr ⟨kc_196, List.forall_mem_cons.mpr ⟨kc_197, List.forall_mem_cons.mpr ⟨kc_198, List.forall_mem_cons.mpr ⟨kc_199, List.forall_mem_cons.mpr ⟨kc_200, List.forall_mem_cons.mpr ⟨kc_201, List.forall_mem_cons.mpr ⟨kc_202, List.forall_mem_cons.mpr ⟨kc_203, List.forall_mem_cons.mpr ⟨kc_204, List.forall_mem_cons.mpr ⟨kc_205, List.forall_mem_cons.mpr ⟨kc_206, List.forall_mem_cons.mpr ⟨kc_207, List.forall_mem_cons.mpr ⟨kc_208, List.forall_mem_cons.mpr ⟨kc_209, fun _ h => absurd h List.not_mem_nil⟩⟩⟩⟩⟩⟩⟩⟩⟩⟩⟩⟩⟩⟩⟩⟩⟩⟩⟩⟩⟩
theorem kc_b10 : ∀ y ∈ List.range' 210 21, kChkY y = true := List.forall_mem_cons.mpr ⟨kc_210, List.forall_mem_cons.mpr ⟨kc_211, List.forall_mem_cons.mpr ⟨kc_212, List.forall_mem_cons.mpr ⟨kc_213, List.forall_mem_cons.mpr ⟨kc_214, List.forall_mem_cons.mpr ⟨kc_215, List.forall_mem_cons.mpr ⟨kc_216, List.forall_mem_cons.mpr ⟨kc_217, List.forall_mem_cons.mpr ⟨kc_218, List.forall_mem_cons.mpr ⟨kc_219, List.forall_mem_cons.mpr ⟨kc_220, List.forall_mem_cons.mpr ⟨kc_221, List.forall_mem_cons.mpr ⟨kc_222, List.forall_mem_cons.mpr ⟨kc_223, List.forall_mem_cons.mpr ⟨kc_224, List.forall_mem_cons.mpr ⟨kc_225, List.forall_mem_cons.mpr ⟨kc_226, List.forall_mem_cons.mpr ⟨kc_227, List.forall_mem_cons.mpr ⟨kc_228, List.forall_mem_cons.mpr ⟨kc_229, List.forall_mem_cons.mpr ⟨kc_230, fun _ h => absurd h List.not_mem_nil⟩⟩⟩⟩⟩⟩⟩⟩⟩⟩⟩⟩⟩⟩⟩⟩⟩⟩⟩⟩⟩
theorem kc_b11 : ∀ y ∈ List.range' 231 21, kChkY y = true := List.forall_mem_cons.mpr ⟨kc_231, List.forall_mem_cons.mpr ⟨kc_232, List.forall_mem_cons.mpr ⟨kc_233, List.forall_mem_cons.mpr ⟨kc_234, List.forall_mem_cons.mpr ⟨kc_235, List.forall_mem_cons.mpr ⟨kc_236, List.forall_mem_cons.mpr ⟨kc_237, List.forall_mem_cons.mpr ⟨kc_238, List.forall_mem_cons.mpr ⟨kc_239, List.forall_mem_cons.mpr ⟨kc_240, List.forall_mem_cons.mpr ⟨kc_241, List.forall_mem_cons.mpr ⟨kc_242, List.forall_mem_cons.mpr ⟨kc_243, List.forall_mem_cons.mpr ⟨kc_244, List.forall_mem_cons.mpr ⟨kc_245, List.forall_mem_cons.mpr ⟨kc_246, List.forall_mem_cons.mpr ⟨kc_247, List.forall_mem_cons.mpr ⟨kc_248, List.forall_mem_cons.mpr ⟨kc_249, List.forall_mem_cons.mpr ⟨kc_250, List.forall_mem_cons.mpr ⟨kc_251, fun _ h => absurd h List.not_mem_nil⟩⟩⟩⟩⟩⟩⟩⟩⟩⟩⟩⟩⟩⟩⟩⟩⟩⟩⟩⟩⟩
theorem kc_all (y : Nat) (h : y < 252) : kChkY y = true := by
  rcases Nat.lt_or_ge y 21 with h0 | h0
  · exact kc_b0 y (List.mem_range'_1.mpr ⟨Nat.zero_le _, by omega⟩)
  rcases Nat.lt_or_ge y 42 with h1 | h1
  · exact kc_b1 y (List.mem_range'_1.mpr ⟨h0, by omega⟩)
  rcases Nat.lt_or_ge y 63 with h2 | h2
  · exact kc_b2 y (List.mem_range'_1.mpr ⟨h1, by omega⟩)
  rcases Nat.lt_or_ge y 84 with h3 | h3
  · exact kc_b3 y (List.mem_range'_1.mpr ⟨h2, by omega⟩)
  rcases Nat.lt_or_ge y 105 with h4 | h4
  · exact kc_b4 y (List.mem_range'_1.mpr ⟨h3, by omega⟩)
  rcases Nat.lt_or_ge y 126 with h5 | h5
  · exact kc_b5 y (List.mem_range'_1.mpr ⟨h4, by omega⟩)
  rcases Nat.lt_or_ge y 147 with h6 | h6
  · exact kc_b6 y (List.mem_range'_1.mpr ⟨h5, by omega⟩)
  rcases Nat.lt_or_ge y 168 with h7 | h7
  · exact kc_b7 y (List.mem_range'_1.mpr ⟨h6, by omega⟩)
  rcases Nat.lt_or_ge y 189 with h8 | h8
  · exact kc_b8 y (List.mem_range'_1.mpr ⟨h7, by omega⟩)
  rcases Nat.lt_or_ge y 210 with h9 | h9
  · exact kc_b9 y (List.mem_range'_1.mpr ⟨h8, by omega⟩)
  rcases Nat.lt_or_ge y 231 with h10 | h10
  · exact kc_b10 y (List.mem_range'_1.mpr ⟨h9, by omega⟩)
  rcases Nat.lt_or_ge y 252 with h11 | h11
  · exact kc_b11 y (List.mem_range'_1.mpr ⟨h10, by omega⟩)
  exact absurd h (by omega)
