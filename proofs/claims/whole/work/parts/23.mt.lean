/-! numbers of the methods, one by one -/
theorem ml_0 : m_l 0 = 1 := by decide +kernel
theorem ml_1 : m_l 1 = 4 := by decide +kernel
theorem ml_2 : m_l 2 = 3 := by decide +kernel
theorem ml_3 : m_l 3 = 1 := by decide +kernel
theorem ml_4 : m_l 4 = 2 := by decide +kernel
theorem ml_5 : m_l 5 = 1 := by decide +kernel
theorem ml_6 : m_l 6 = 2 := by decide +kernel
theorem ml_7 : m_l 7 = 2 := by decide +kernel
theorem ml_8 : m_l 8 = 2 := by decide +kernel
theorem ml_9 : m_l 9 = 2 := by decide +kernel
theorem ml_10 : m_l 10 = 6 := by decide +kernel
theorem ml_11 : m_l 11 = 3 := by decide +kernel
theorem ml_12 : m_l 12 = 2 := by decide +kernel
theorem ml_13 : m_l 13 = 2 := by decide +kernel
theorem ml_14 : m_l 14 = 6 := by decide +kernel
theorem ml_15 : m_l 15 = 1 := by decide +kernel
theorem ml_16 : m_l 16 = 7 := by decide +kernel
theorem ml_17 : m_l 17 = 1 := by decide +kernel
theorem ml_18 : m_l 18 = 4 := by decide +kernel
theorem ml_19 : m_l 19 = 1 := by decide +kernel
theorem ml_20 : m_l 20 = 1 := by decide +kernel
theorem ml_21 : m_l 21 = 3 := by decide +kernel
theorem ml_22 : m_l 22 = 1 := by decide +kernel
theorem ml_23 : m_l 23 = 4 := by decide +kernel
theorem ml_24 : m_l 24 = 6 := by decide +kernel
theorem ml_25 : m_l 25 = 2 := by decide +kernel
theorem ml_26 : m_l 26 = 2 := by decide +kernel
theorem ml_27 : m_l 27 = 4 := by decide +kernel
theorem ml_28 : m_l 28 = 3 := by decide +kernel
theorem ml_29 : m_l 29 = 4 := by decide +kernel
theorem ml_30 : m_l 30 = 4 := by decide +kernel
theorem ml_31 : m_l 31 = 3 := by decide +kernel
theorem ml_32 : m_l 32 = 3 := by decide +kernel
theorem ml_33 : m_l 33 = 3 := by decide +kernel
theorem ml_34 : m_l 34 = 6 := by decide +kernel
theorem ml_35 : m_l 35 = 2 := by decide +kernel
theorem ml_36 : m_l 36 = 3 := by decide +kernel
theorem ml_37 : m_l 37 = 3 := by decide +kernel
theorem ml_38 : m_l 38 = 1 := by decide +kernel
theorem ml_39 : m_l 39 = 3 := by decide +kernel
theorem ml_40 : m_l 40 = 3 := by decide +kernel
theorem ml_41 : m_l 41 = 2 := by decide +kernel
theorem ml_42 : m_l 42 = 2 := by decide +kernel
theorem ml_43 : m_l 43 = 2 := by decide +kernel
theorem ml_44 : m_l 44 = 2 := by decide +kernel
theorem ml_45 : m_l 45 = 1 := by decide +kernel
theorem ml_46 : m_l 46 = 5 := by decide +kernel
theorem ml_47 : m_l 47 = 3 := by decide +kernel
theorem ml_48 : m_l 48 = 4 := by decide +kernel
theorem ml_49 : m_l 49 = 2 := by decide +kernel
theorem ml_50 : m_l 50 = 2 := by decide +kernel
theorem ml_51 : m_l 51 = 1 := by decide +kernel
theorem ml_52 : m_l 52 = 4 := by decide +kernel
theorem ml_53 : m_l 53 = 3 := by decide +kernel
theorem ml_54 : m_l 54 = 6 := by decide +kernel
theorem ml_55 : m_l 55 = 5 := by decide +kernel
theorem ml_56 : m_l 56 = 5 := by decide +kernel
theorem ml_57 : m_l 57 = 11 := by decide +kernel
theorem ml_58 : m_l 58 = 3 := by decide +kernel
theorem ml_59 : m_l 59 = 6 := by decide +kernel
theorem ml_60 : m_l 60 = 4 := by decide +kernel
theorem ml_61 : m_l 61 = 5 := by decide +kernel
theorem ml_62 : m_l 62 = 4 := by decide +kernel
theorem ml_63 : m_l 63 = 6 := by decide +kernel
theorem ml_64 : m_l 64 = 2 := by decide +kernel
theorem ml_65 : m_l 65 = 1 := by decide +kernel
theorem ml_66 : m_l 66 = 1 := by decide +kernel
theorem ml_67 : m_l 67 = 1 := by decide +kernel
theorem ml_68 : m_l 68 = 1 := by decide +kernel
theorem ml_69 : m_l 69 = 2 := by decide +kernel
theorem ml_70 : m_l 70 = 2 := by decide +kernel
theorem ml_71 : m_l 71 = 3 := by decide +kernel
theorem ml_72 : m_l 72 = 2 := by decide +kernel
theorem ml_73 : m_l 73 = 5 := by decide +kernel
theorem ml_74 : m_l 74 = 4 := by decide +kernel
theorem ml_75 : m_l 75 = 6 := by decide +kernel
theorem ml_76 : m_l 76 = 2 := by decide +kernel
theorem ml_77 : m_l 77 = 3 := by decide +kernel
theorem ml_78 : m_l 78 = 2 := by decide +kernel
theorem ml_79 : m_l 79 = 5 := by decide +kernel
theorem ml_80 : m_l 80 = 3 := by decide +kernel
theorem ml_81 : m_l 81 = 3 := by decide +kernel
theorem ml_82 : m_l 82 = 3 := by decide +kernel
theorem ml_83 : m_l 83 = 3 := by decide +kernel
theorem ml_84 : m_l 84 = 1 := by decide +kernel
theorem ml_85 : m_l 85 = 2 := by decide +kernel
theorem ml_86 : m_l 86 = 2 := by decide +kernel
theorem ml_87 : m_l 87 = 2 := by decide +kernel
theorem ml_88 : m_l 88 = 6 := by decide +kernel
theorem ml_89 : m_l 89 = 5 := by decide +kernel
theorem ml_90 : m_l 90 = 7 := by decide +kernel
theorem ml_91 : m_l 91 = 1 := by decide +kernel
theorem ml_92 : m_l 92 = 6 := by decide +kernel
theorem ml_93 : m_l 93 = 3 := by decide +kernel
theorem ml_94 : m_l 94 = 5 := by decide +kernel
theorem ml_95 : m_l 95 = 2 := by decide +kernel
theorem ml_96 : m_l 96 = 5 := by decide +kernel
theorem ml_97 : m_l 97 = 4 := by decide +kernel
theorem ml_98 : m_l 98 = 1 := by decide +kernel
theorem ml_99 : m_l 99 = 8 := by decide +kernel
theorem ml_100 : m_l 100 = 4 := by decide +kernel
theorem ml_101 : m_l 101 = 4 := by decide +kernel
theorem ml_102 : m_l 102 = 7 := by decide +kernel
theorem ml_103 : m_l 103 = 3 := by decide +kernel
theorem ml_104 : m_l 104 = 5 := by decide +kernel
theorem ml_105 : m_l 105 = 3 := by decide +kernel
theorem ml_106 : m_l 106 = 7 := by decide +kernel
theorem ml_107 : m_l 107 = 1 := by decide +kernel
theorem ml_108 : m_l 108 = 5 := by decide +kernel
theorem ml_109 : m_l 109 = 3 := by decide +kernel
theorem ml_110 : m_l 110 = 2 := by decide +kernel
theorem ml_111 : m_l 111 = 5 := by decide +kernel
theorem ml_112 : m_l 112 = 6 := by decide +kernel
theorem ml_113 : m_l 113 = 5 := by decide +kernel
theorem ml_114 : m_l 114 = 6 := by decide +kernel
theorem ml_115 : m_l 115 = 3 := by decide +kernel
theorem ml_116 : m_l 116 = 10 := by decide +kernel
theorem ml_117 : m_l 117 = 4 := by decide +kernel
theorem ml_118 : m_l 118 = 3 := by decide +kernel
theorem ml_119 : m_l 119 = 8 := by decide +kernel
theorem ml_120 : m_l 120 = 3 := by decide +kernel
theorem ml_121 : m_l 121 = 9 := by decide +kernel
theorem ml_122 : m_l 122 = 5 := by decide +kernel
theorem ml_123 : m_l 123 = 4 := by decide +kernel
theorem ml_124 : m_l 124 = 3 := by decide +kernel
theorem ml_125 : m_l 125 = 3 := by decide +kernel
theorem ml_126 : m_l 126 = 1 := by decide +kernel
theorem ml_127 : m_l 127 = 7 := by decide +kernel
theorem ml_128 : m_l 128 = 1 := by decide +kernel
theorem ml_129 : m_l 129 = 4 := by decide +kernel
theorem ml_130 : m_l 130 = 6 := by decide +kernel
theorem ml_131 : m_l 131 = 4 := by decide +kernel
theorem ml_132 : m_l 132 = 10 := by decide +kernel
theorem ml_133 : m_l 133 = 7 := by decide +kernel
theorem ml_134 : m_l 134 = 6 := by decide +kernel
theorem ml_135 : m_l 135 = 4 := by decide +kernel
theorem ml_136 : m_l 136 = 8 := by decide +kernel
theorem ml_137 : m_l 137 = 4 := by decide +kernel
theorem ml_138 : m_l 138 = 4 := by decide +kernel
theorem ml_139 : m_l 139 = 2 := by decide +kernel
theorem ml_140 : m_l 140 = 3 := by decide +kernel
theorem ml_141 : m_l 141 = 2 := by decide +kernel
theorem ml_142 : m_l 142 = 4 := by decide +kernel
theorem ml_143 : m_l 143 = 5 := by decide +kernel
theorem ml_144 : m_l 144 = 5 := by decide +kernel
theorem ml_145 : m_l 145 = 2 := by decide +kernel
theorem ml_146 : m_l 146 = 6 := by decide +kernel
theorem ml_147 : m_l 147 = 6 := by decide +kernel
theorem ml_148 : m_l 148 = 4 := by decide +kernel
theorem ml_149 : m_l 149 = 8 := by decide +kernel
theorem ml_150 : m_l 150 = 7 := by decide +kernel
theorem ml_151 : m_l 151 = 4 := by decide +kernel
theorem ml_152 : m_l 152 = 5 := by decide +kernel
theorem ml_153 : m_l 153 = 8 := by decide +kernel
theorem ml_154 : m_l 154 = 2 := by decide +kernel
theorem ml_155 : m_l 155 = 2 := by decide +kernel
theorem ml_156 : m_l 156 = 2 := by decide +kernel
theorem ml_157 : m_l 157 = 3 := by decide +kernel
theorem ml_158 : m_l 158 = 1 := by decide +kernel
theorem ml_159 : m_l 159 = 7 := by decide +kernel
theorem ml_160 : m_l 160 = 3 := by decide +kernel
theorem ml_161 : m_l 161 = 1 := by decide +kernel
theorem ml_162 : m_l 162 = 3 := by decide +kernel
theorem ml_163 : m_l 163 = 5 := by decide +kernel
theorem ml_164 : m_l 164 = 3 := by decide +kernel
theorem ml_165 : m_l 165 = 3 := by decide +kernel
theorem ml_166 : m_l 166 = 3 := by decide +kernel
theorem ml_167 : m_l 167 = 2 := by decide +kernel
theorem ml_168 : m_l 168 = 5 := by decide +kernel
theorem ml_169 : m_l 169 = 5 := by decide +kernel
theorem ml_170 : m_l 170 = 6 := by decide +kernel
theorem ml_171 : m_l 171 = 8 := by decide +kernel
theorem ml_172 : m_l 172 = 4 := by decide +kernel
theorem ml_173 : m_l 173 = 4 := by decide +kernel
theorem ml_174 : m_l 174 = 2 := by decide +kernel
theorem ml_175 : m_l 175 = 6 := by decide +kernel
theorem ml_176 : m_l 176 = 3 := by decide +kernel
theorem ml_177 : m_l 177 = 2 := by decide +kernel
theorem ml_178 : m_l 178 = 2 := by decide +kernel
theorem ml_179 : m_l 179 = 8 := by decide +kernel
theorem ml_180 : m_l 180 = 2 := by decide +kernel
theorem ml_181 : m_l 181 = 6 := by decide +kernel
theorem ml_182 : m_l 182 = 1 := by decide +kernel
theorem ml_183 : m_l 183 = 1 := by decide +kernel
theorem ml_184 : m_l 184 = 5 := by decide +kernel
theorem ml_185 : m_l 185 = 2 := by decide +kernel
theorem ml_186 : m_l 186 = 4 := by decide +kernel
theorem ml_187 : m_l 187 = 2 := by decide +kernel
theorem ml_188 : m_l 188 = 6 := by decide +kernel
theorem ml_189 : m_l 189 = 3 := by decide +kernel
theorem ml_190 : m_l 190 = 1 := by decide +kernel
theorem ml_191 : m_l 191 = 2 := by decide +kernel
theorem ml_192 : m_l 192 = 4 := by decide +kernel
theorem ml_193 : m_l 193 = 4 := by decide +kernel
theorem ml_194 : m_l 194 = 3 := by decide +kernel
theorem ml_195 : m_l 195 = 4 := by decide +kernel
theorem ml_196 : m_l 196 = 3 := by decide +kernel
theorem ml_197 : m_l 197 = 1 := by decide +kernel
theorem ml_198 : m_l 198 = 3 := by decide +kernel
theorem ml_199 : m_l 199 = 3 := by decide +kernel
theorem ml_200 : m_l 200 = 1 := by decide +kernel
theorem ml_201 : m_l 201 = 3 := by decide +kernel
theorem ml_202 : m_l 202 = 1 := by decide +kernel
theorem ml_203 : m_l 203 = 4 := by decide +kernel
theorem ml_204 : m_l 204 = 1 := by decide +kernel
theorem ml_205 : m_l 205 = 2 := by decide +kernel
theorem ml_206 : m_l 206 = 2 := by decide +kernel
theorem ml_207 : m_l 207 = 3 := by decide +kernel
theorem ml_208 : m_l 208 = 5 := by decide +kernel
theorem ml_209 : m_l 209 = 2 := by decide +kernel
theorem ml_210 : m_l 210 = 2 := by decide +kernel
theorem ml_211 : m_l 211 = 2 := by decide +kernel
theorem ml_212 : m_l 212 = 2 := by decide +kernel
theorem ml_213 : m_l 213 = 3 := by decide +kernel
theorem ml_214 : m_l 214 = 2 := by decide +kernel
theorem ml_215 : m_l 215 = 6 := by decide +kernel
theorem ml_216 : m_l 216 = 2 := by decide +kernel
theorem ml_217 : m_l 217 = 3 := by decide +kernel
theorem ml_218 : m_l 218 = 2 := by decide +kernel
theorem ml_219 : m_l 219 = 3 := by decide +kernel
theorem ml_220 : m_l 220 = 3 := by decide +kernel
theorem ml_221 : m_l 221 = 2 := by decide +kernel
theorem ml_222 : m_l 222 = 2 := by decide +kernel
theorem ml_223 : m_l 223 = 3 := by decide +kernel
theorem ml_224 : m_l 224 = 6 := by decide +kernel
theorem ml_225 : m_l 225 = 3 := by decide +kernel
theorem ml_226 : m_l 226 = 2 := by decide +kernel
theorem ml_227 : m_l 227 = 3 := by decide +kernel
theorem ml_228 : m_l 228 = 6 := by decide +kernel
theorem ml_229 : m_l 229 = 1 := by decide +kernel
theorem ml_230 : m_l 230 = 4 := by decide +kernel
theorem ml_231 : m_l 231 = 3 := by decide +kernel
theorem ml_232 : m_l 232 = 4 := by decide +kernel
theorem ml_233 : m_l 233 = 6 := by decide +kernel
theorem ml_234 : m_l 234 = 8 := by decide +kernel
theorem ml_235 : m_l 235 = 4 := by decide +kernel
theorem ml_236 : m_l 236 = 5 := by decide +kernel
theorem ml_237 : m_l 237 = 2 := by decide +kernel
theorem ml_238 : m_l 238 = 4 := by decide +kernel
theorem ml_239 : m_l 239 = 2 := by decide +kernel
theorem ml_240 : m_l 240 = 6 := by decide +kernel
theorem ml_241 : m_l 241 = 5 := by decide +kernel
theorem ml_242 : m_l 242 = 7 := by decide +kernel
theorem ml_243 : m_l 243 = 4 := by decide +kernel
theorem ml_244 : m_l 244 = 7 := by decide +kernel
theorem ml_245 : m_l 245 = 5 := by decide +kernel
theorem ml_246 : m_l 246 = 4 := by decide +kernel
theorem ml_247 : m_l 247 = 6 := by decide +kernel
theorem ml_248 : m_l 248 = 5 := by decide +kernel
theorem ml_249 : m_l 249 = 5 := by decide +kernel
theorem ml_250 : m_l 250 = 5 := by decide +kernel
theorem ml_251 : m_l 251 = 1 := by decide +kernel
theorem ml_252 : m_l 252 = 3 := by decide +kernel
theorem ml_253 : m_l 253 = 2 := by decide +kernel
theorem ml_254 : m_l 254 = 5 := by decide +kernel
theorem ml_255 : m_l 255 = 3 := by decide +kernel
theorem ml_256 : m_l 256 = 5 := by decide +kernel
theorem ml_257 : m_l 257 = 4 := by decide +kernel
theorem ml_258 : m_l 258 = 2 := by decide +kernel
theorem ml_259 : m_l 259 = 5 := by decide +kernel
theorem ml_260 : m_l 260 = 2 := by decide +kernel
theorem ml_261 : m_l 261 = 6 := by decide +kernel
theorem ml_262 : m_l 262 = 6 := by decide +kernel
theorem ml_263 : m_l 263 = 10 := by decide +kernel
theorem ml_264 : m_l 264 = 3 := by decide +kernel
theorem ml_265 : m_l 265 = 3 := by decide +kernel
theorem ml_266 : m_l 266 = 4 := by decide +kernel
theorem ml_267 : m_l 267 = 4 := by decide +kernel
theorem mo_0 : m_o 0 = 8 := by decide +kernel
theorem mo_1 : m_o 1 = 4 := by decide +kernel
theorem mo_2 : m_o 2 = 4 := by decide +kernel
theorem mo_3 : m_o 3 = 5 := by decide +kernel
theorem mo_4 : m_o 4 = 3 := by decide +kernel
theorem mo_5 : m_o 5 = 2 := by decide +kernel
theorem mo_6 : m_o 6 = 7 := by decide +kernel
theorem mo_7 : m_o 7 = 6 := by decide +kernel
theorem mo_8 : m_o 8 = 0 := by decide +kernel
theorem mo_9 : m_o 9 = 1 := by decide +kernel
theorem mo_10 : m_o 10 = 8 := by decide +kernel
theorem mo_11 : m_o 11 = 8 := by decide +kernel
theorem mo_12 : m_o 12 = 8 := by decide +kernel
theorem mo_13 : m_o 13 = 8 := by decide +kernel
theorem mo_14 : m_o 14 = 4 := by decide +kernel
theorem mo_15 : m_o 15 = 4 := by decide +kernel
theorem mo_16 : m_o 16 = 4 := by decide +kernel
theorem mo_17 : m_o 17 = 4 := by decide +kernel
theorem mo_18 : m_o 18 = 4 := by decide +kernel
theorem mo_19 : m_o 19 = 4 := by decide +kernel
theorem mo_20 : m_o 20 = 4 := by decide +kernel
theorem mo_21 : m_o 21 = 4 := by decide +kernel
theorem mo_22 : m_o 22 = 5 := by decide +kernel
theorem mo_23 : m_o 23 = 13 := by decide +kernel
theorem mo_24 : m_o 24 = 4 := by decide +kernel
theorem mo_25 : m_o 25 = 4 := by decide +kernel
theorem mo_26 : m_o 26 = 4 := by decide +kernel
theorem mo_27 : m_o 27 = 4 := by decide +kernel
theorem mo_28 : m_o 28 = 4 := by decide +kernel
theorem mo_29 : m_o 29 = 4 := by decide +kernel
theorem mo_30 : m_o 30 = 4 := by decide +kernel
theorem mo_31 : m_o 31 = 4 := by decide +kernel
theorem mo_32 : m_o 32 = 4 := by decide +kernel
theorem mo_33 : m_o 33 = 4 := by decide +kernel
theorem mo_34 : m_o 34 = 4 := by decide +kernel
theorem mo_35 : m_o 35 = 4 := by decide +kernel
theorem mo_36 : m_o 36 = 4 := by decide +kernel
theorem mo_37 : m_o 37 = 4 := by decide +kernel
theorem mo_38 : m_o 38 = 4 := by decide +kernel
theorem mo_39 : m_o 39 = 4 := by decide +kernel
theorem mo_40 : m_o 40 = 4 := by decide +kernel
theorem mo_41 : m_o 41 = 4 := by decide +kernel
theorem mo_42 : m_o 42 = 4 := by decide +kernel
theorem mo_43 : m_o 43 = 4 := by decide +kernel
theorem mo_44 : m_o 44 = 4 := by decide +kernel
theorem mo_45 : m_o 45 = 4 := by decide +kernel
theorem mo_46 : m_o 46 = 4 := by decide +kernel
theorem mo_47 : m_o 47 = 4 := by decide +kernel
theorem mo_48 : m_o 48 = 4 := by decide +kernel
theorem mo_49 : m_o 49 = 4 := by decide +kernel
theorem mo_50 : m_o 50 = 8 := by decide +kernel
theorem mo_51 : m_o 51 = 5 := by decide +kernel
theorem mo_52 : m_o 52 = 5 := by decide +kernel
theorem mo_53 : m_o 53 = 3 := by decide +kernel
theorem mo_54 : m_o 54 = 5 := by decide +kernel
theorem mo_55 : m_o 55 = 3 := by decide +kernel
theorem mo_56 : m_o 56 = 3 := by decide +kernel
theorem mo_57 : m_o 57 = 3 := by decide +kernel
theorem mo_58 : m_o 58 = 8 := by decide +kernel
theorem mo_59 : m_o 59 = 3 := by decide +kernel
theorem mo_60 : m_o 60 = 3 := by decide +kernel
theorem mo_61 : m_o 61 = 3 := by decide +kernel
theorem mo_62 : m_o 62 = 8 := by decide +kernel
theorem mo_63 : m_o 63 = 3 := by decide +kernel
theorem mo_64 : m_o 64 = 8 := by decide +kernel
theorem mo_65 : m_o 65 = 2 := by decide +kernel
theorem mo_66 : m_o 66 = 1 := by decide +kernel
theorem mo_67 : m_o 67 = 8 := by decide +kernel
theorem mo_68 : m_o 68 = 8 := by decide +kernel
theorem mo_69 : m_o 69 = 8 := by decide +kernel
theorem mo_70 : m_o 70 = 8 := by decide +kernel
theorem mo_71 : m_o 71 = 8 := by decide +kernel
theorem mo_72 : m_o 72 = 8 := by decide +kernel
theorem mo_73 : m_o 73 = 3 := by decide +kernel
theorem mo_74 : m_o 74 = 3 := by decide +kernel
theorem mo_75 : m_o 75 = 3 := by decide +kernel
theorem mo_76 : m_o 76 = 8 := by decide +kernel
theorem mo_77 : m_o 77 = 8 := by decide +kernel
theorem mo_78 : m_o 78 = 2 := by decide +kernel
theorem mo_79 : m_o 79 = 3 := by decide +kernel
theorem mo_80 : m_o 80 = 3 := by decide +kernel
theorem mo_81 : m_o 81 = 3 := by decide +kernel
theorem mo_82 : m_o 82 = 8 := by decide +kernel
theorem mo_83 : m_o 83 = 8 := by decide +kernel
theorem mo_84 : m_o 84 = 8 := by decide +kernel
theorem mo_85 : m_o 85 = 2 := by decide +kernel
theorem mo_86 : m_o 86 = 8 := by decide +kernel
theorem mo_87 : m_o 87 = 8 := by decide +kernel
theorem mo_88 : m_o 88 = 6 := by decide +kernel
theorem mo_89 : m_o 89 = 13 := by decide +kernel
theorem mo_90 : m_o 90 = 3 := by decide +kernel
theorem mo_91 : m_o 91 = 11 := by decide +kernel
theorem mo_92 : m_o 92 = 6 := by decide +kernel
theorem mo_93 : m_o 93 = 6 := by decide +kernel
theorem mo_94 : m_o 94 = 6 := by decide +kernel
theorem mo_95 : m_o 95 = 12 := by decide +kernel
theorem mo_96 : m_o 96 = 6 := by decide +kernel
theorem mo_97 : m_o 97 = 8 := by decide +kernel
theorem mo_98 : m_o 98 = 8 := by decide +kernel
theorem mo_99 : m_o 99 = 7 := by decide +kernel
theorem mo_100 : m_o 100 = 7 := by decide +kernel
theorem mo_101 : m_o 101 = 8 := by decide +kernel
theorem mo_102 : m_o 102 = 5 := by decide +kernel
theorem mo_103 : m_o 103 = 8 := by decide +kernel
theorem mo_104 : m_o 104 = 0 := by decide +kernel
theorem mo_105 : m_o 105 = 8 := by decide +kernel
theorem mo_106 : m_o 106 = 8 := by decide +kernel
theorem mo_107 : m_o 107 = 8 := by decide +kernel
theorem mo_108 : m_o 108 = 8 := by decide +kernel
theorem mo_109 : m_o 109 = 8 := by decide +kernel
theorem mo_110 : m_o 110 = 8 := by decide +kernel
theorem mo_111 : m_o 111 = 7 := by decide +kernel
theorem mo_112 : m_o 112 = 8 := by decide +kernel
theorem mo_113 : m_o 113 = 7 := by decide +kernel
theorem mo_114 : m_o 114 = 8 := by decide +kernel
theorem mo_115 : m_o 115 = 8 := by decide +kernel
theorem mo_116 : m_o 116 = 7 := by decide +kernel
theorem mo_117 : m_o 117 = 5 := by decide +kernel
theorem mo_118 : m_o 118 = 8 := by decide +kernel
theorem mo_119 : m_o 119 = 7 := by decide +kernel
theorem mo_120 : m_o 120 = 8 := by decide +kernel
theorem mo_121 : m_o 121 = 7 := by decide +kernel
theorem mo_122 : m_o 122 = 7 := by decide +kernel
theorem mo_123 : m_o 123 = 8 := by decide +kernel
theorem mo_124 : m_o 124 = 0 := by decide +kernel
theorem mo_125 : m_o 125 = 8 := by decide +kernel
theorem mo_126 : m_o 126 = 8 := by decide +kernel
theorem mo_127 : m_o 127 = 1 := by decide +kernel
theorem mo_128 : m_o 128 = 1 := by decide +kernel
theorem mo_129 : m_o 129 = 1 := by decide +kernel
theorem mo_130 : m_o 130 = 1 := by decide +kernel
theorem mo_131 : m_o 131 = 8 := by decide +kernel
theorem mo_132 : m_o 132 = 7 := by decide +kernel
theorem mo_133 : m_o 133 = 7 := by decide +kernel
theorem mo_134 : m_o 134 = 7 := by decide +kernel
theorem mo_135 : m_o 135 = 8 := by decide +kernel
theorem mo_136 : m_o 136 = 0 := by decide +kernel
theorem mo_137 : m_o 137 = 8 := by decide +kernel
theorem mo_138 : m_o 138 = 1 := by decide +kernel
theorem mo_139 : m_o 139 = 8 := by decide +kernel
theorem mo_140 : m_o 140 = 8 := by decide +kernel
theorem mo_141 : m_o 141 = 1 := by decide +kernel
theorem mo_142 : m_o 142 = 1 := by decide +kernel
theorem mo_143 : m_o 143 = 1 := by decide +kernel
theorem mo_144 : m_o 144 = 1 := by decide +kernel
theorem mo_145 : m_o 145 = 8 := by decide +kernel
theorem mo_146 : m_o 146 = 1 := by decide +kernel
theorem mo_147 : m_o 147 = 1 := by decide +kernel
theorem mo_148 : m_o 148 = 8 := by decide +kernel
theorem mo_149 : m_o 149 = 1 := by decide +kernel
theorem mo_150 : m_o 150 = 1 := by decide +kernel
theorem mo_151 : m_o 151 = 8 := by decide +kernel
theorem mo_152 : m_o 152 = 1 := by decide +kernel
theorem mo_153 : m_o 153 = 1 := by decide +kernel
theorem mo_154 : m_o 154 = 8 := by decide +kernel
theorem mo_155 : m_o 155 = 8 := by decide +kernel
theorem mo_156 : m_o 156 = 8 := by decide +kernel
theorem mo_157 : m_o 157 = 8 := by decide +kernel
theorem mo_158 : m_o 158 = 9 := by decide +kernel
theorem mo_159 : m_o 159 = 9 := by decide +kernel
theorem mo_160 : m_o 160 = 9 := by decide +kernel
theorem mo_161 : m_o 161 = 9 := by decide +kernel
theorem mo_162 : m_o 162 = 9 := by decide +kernel
theorem mo_163 : m_o 163 = 9 := by decide +kernel
theorem mo_164 : m_o 164 = 9 := by decide +kernel
theorem mo_165 : m_o 165 = 9 := by decide +kernel
theorem mo_166 : m_o 166 = 9 := by decide +kernel
theorem mo_167 : m_o 167 = 9 := by decide +kernel
theorem mo_168 : m_o 168 = 9 := by decide +kernel
theorem mo_169 : m_o 169 = 9 := by decide +kernel
theorem mo_170 : m_o 170 = 9 := by decide +kernel
theorem mo_171 : m_o 171 = 9 := by decide +kernel
theorem mo_172 : m_o 172 = 9 := by decide +kernel
theorem mo_173 : m_o 173 = 9 := by decide +kernel
theorem mo_174 : m_o 174 = 9 := by decide +kernel
theorem mo_175 : m_o 175 = 9 := by decide +kernel
theorem mo_176 : m_o 176 = 9 := by decide +kernel
theorem mo_177 : m_o 177 = 9 := by decide +kernel
theorem mo_178 : m_o 178 = 9 := by decide +kernel
theorem mo_179 : m_o 179 = 9 := by decide +kernel
theorem mo_180 : m_o 180 = 9 := by decide +kernel
theorem mo_181 : m_o 181 = 9 := by decide +kernel
theorem mo_182 : m_o 182 = 9 := by decide +kernel
theorem mo_183 : m_o 183 = 9 := by decide +kernel
theorem mo_184 : m_o 184 = 9 := by decide +kernel
theorem mo_185 : m_o 185 = 9 := by decide +kernel
theorem mo_186 : m_o 186 = 9 := by decide +kernel
theorem mo_187 : m_o 187 = 9 := by decide +kernel
theorem mo_188 : m_o 188 = 9 := by decide +kernel
theorem mo_189 : m_o 189 = 9 := by decide +kernel
theorem mo_190 : m_o 190 = 9 := by decide +kernel
theorem mo_191 : m_o 191 = 9 := by decide +kernel
theorem mo_192 : m_o 192 = 9 := by decide +kernel
theorem mo_193 : m_o 193 = 9 := by decide +kernel
theorem mo_194 : m_o 194 = 9 := by decide +kernel
theorem mo_195 : m_o 195 = 9 := by decide +kernel
theorem mo_196 : m_o 196 = 9 := by decide +kernel
theorem mo_197 : m_o 197 = 9 := by decide +kernel
theorem mo_198 : m_o 198 = 9 := by decide +kernel
theorem mo_199 : m_o 199 = 9 := by decide +kernel
theorem mo_200 : m_o 200 = 9 := by decide +kernel
theorem mo_201 : m_o 201 = 9 := by decide +kernel
theorem mo_202 : m_o 202 = 9 := by decide +kernel
theorem mo_203 : m_o 203 = 9 := by decide +kernel
theorem mo_204 : m_o 204 = 9 := by decide +kernel
theorem mo_205 : m_o 205 = 9 := by decide +kernel
theorem mo_206 : m_o 206 = 9 := by decide +kernel
theorem mo_207 : m_o 207 = 9 := by decide +kernel
theorem mo_208 : m_o 208 = 9 := by decide +kernel
theorem mo_209 : m_o 209 = 9 := by decide +kernel
theorem mo_210 : m_o 210 = 9 := by decide +kernel
theorem mo_211 : m_o 211 = 9 := by decide +kernel
theorem mo_212 : m_o 212 = 9 := by decide +kernel
theorem mo_213 : m_o 213 = 9 := by decide +kernel
theorem mo_214 : m_o 214 = 9 := by decide +kernel
theorem mo_215 : m_o 215 = 9 := by decide +kernel
theorem mo_216 : m_o 216 = 9 := by decide +kernel
theorem mo_217 : m_o 217 = 9 := by decide +kernel
theorem mo_218 : m_o 218 = 9 := by decide +kernel
theorem mo_219 : m_o 219 = 9 := by decide +kernel
theorem mo_220 : m_o 220 = 9 := by decide +kernel
theorem mo_221 : m_o 221 = 9 := by decide +kernel
theorem mo_222 : m_o 222 = 9 := by decide +kernel
theorem mo_223 : m_o 223 = 9 := by decide +kernel
theorem mo_224 : m_o 224 = 9 := by decide +kernel
theorem mo_225 : m_o 225 = 9 := by decide +kernel
theorem mo_226 : m_o 226 = 9 := by decide +kernel
theorem mo_227 : m_o 227 = 9 := by decide +kernel
theorem mo_228 : m_o 228 = 9 := by decide +kernel
theorem mo_229 : m_o 229 = 9 := by decide +kernel
theorem mo_230 : m_o 230 = 9 := by decide +kernel
theorem mo_231 : m_o 231 = 9 := by decide +kernel
theorem mo_232 : m_o 232 = 9 := by decide +kernel
theorem mo_233 : m_o 233 = 9 := by decide +kernel
theorem mo_234 : m_o 234 = 9 := by decide +kernel
theorem mo_235 : m_o 235 = 9 := by decide +kernel
theorem mo_236 : m_o 236 = 9 := by decide +kernel
theorem mo_237 : m_o 237 = 9 := by decide +kernel
theorem mo_238 : m_o 238 = 9 := by decide +kernel
theorem mo_239 : m_o 239 = 9 := by decide +kernel
theorem mo_240 : m_o 240 = 9 := by decide +kernel
theorem mo_241 : m_o 241 = 9 := by decide +kernel
theorem mo_242 : m_o 242 = 9 := by decide +kernel
theorem mo_243 : m_o 243 = 9 := by decide +kernel
theorem mo_244 : m_o 244 = 9 := by decide +kernel
theorem mo_245 : m_o 245 = 9 := by decide +kernel
theorem mo_246 : m_o 246 = 9 := by decide +kernel
theorem mo_247 : m_o 247 = 9 := by decide +kernel
theorem mo_248 : m_o 248 = 9 := by decide +kernel
theorem mo_249 : m_o 249 = 9 := by decide +kernel
theorem mo_250 : m_o 250 = 9 := by decide +kernel
theorem mo_251 : m_o 251 = 9 := by decide +kernel
theorem mo_252 : m_o 252 = 9 := by decide +kernel
theorem mo_253 : m_o 253 = 9 := by decide +kernel
theorem mo_254 : m_o 254 = 9 := by decide +kernel
theorem mo_255 : m_o 255 = 9 := by decide +kernel
theorem mo_256 : m_o 256 = 9 := by decide +kernel
theorem mo_257 : m_o 257 = 9 := by decide +kernel
theorem mo_258 : m_o 258 = 9 := by decide +kernel
theorem mo_259 : m_o 259 = 9 := by decide +kernel
theorem mo_260 : m_o 260 = 9 := by decide +kernel
theorem mo_261 : m_o 261 = 9 := by decide +kernel
theorem mo_262 : m_o 262 = 9 := by decide +kernel
theorem mo_263 : m_o 263 = 9 := by decide +kernel
theorem mo_264 : m_o 264 = 9 := by decide +kernel
theorem mo_265 : m_o 265 = 9 := by decide +kernel
theorem mo_266 : m_o 266 = 9 := by decide +kernel
theorem cl_0_1 : x_rmk 0 1 = true := by decide +kernel
theorem cl_0_3 : x_rmk 0 3 = true := by decide +kernel
theorem cl_0_4 : x_rmk 0 4 = true := by decide +kernel
theorem cl_0_5 : x_rmk 0 5 = true := by decide +kernel
theorem cl_0_6 : x_rmk 0 6 = true := by decide +kernel
theorem cl_0_7 : x_rmk 0 7 = true := by decide +kernel
theorem cl_0_8 : x_rmk 0 8 = true := by decide +kernel
theorem cl_0_9 : x_rmk 0 9 = true := by decide +kernel
theorem cl_1_2 : x_rmk 1 2 = true := by decide +kernel
theorem cl_10_11 : x_rmk 10 11 = true := by decide +kernel
theorem cl_13_14 : x_rmk 13 14 = true := by decide +kernel
theorem cl_13_21 : x_rmk 13 21 = true := by decide +kernel
theorem cl_13_45 : x_rmk 13 45 = true := by decide +kernel
theorem cl_13_50 : x_rmk 13 50 = true := by decide +kernel
theorem cl_14_15 : x_rmk 14 15 = true := by decide +kernel
theorem cl_14_16 : x_rmk 14 16 = true := by decide +kernel
theorem cl_16_2 : x_rmk 16 2 = true := by decide +kernel
theorem cl_16_17 : x_rmk 16 17 = true := by decide +kernel
theorem cl_16_18 : x_rmk 16 18 = true := by decide +kernel
theorem cl_16_19 : x_rmk 16 19 = true := by decide +kernel
theorem cl_16_20 : x_rmk 16 20 = true := by decide +kernel
theorem cl_21_22 : x_rmk 21 22 = true := by decide +kernel
theorem cl_21_24 : x_rmk 21 24 = true := by decide +kernel
theorem cl_21_25 : x_rmk 21 25 = true := by decide +kernel
theorem cl_21_32 : x_rmk 21 32 = true := by decide +kernel
theorem cl_21_40 : x_rmk 21 40 = true := by decide +kernel
theorem cl_21_43 : x_rmk 21 43 = true := by decide +kernel
theorem cl_21_44 : x_rmk 21 44 = true := by decide +kernel
theorem cl_22_23 : x_rmk 22 23 = true := by decide +kernel
theorem cl_24_25 : x_rmk 24 25 = true := by decide +kernel
theorem cl_24_26 : x_rmk 24 26 = true := by decide +kernel
theorem cl_24_27 : x_rmk 24 27 = true := by decide +kernel
theorem cl_26_25 : x_rmk 26 25 = true := by decide +kernel
theorem cl_27_28 : x_rmk 27 28 = true := by decide +kernel
theorem cl_27_31 : x_rmk 27 31 = true := by decide +kernel
theorem cl_28_29 : x_rmk 28 29 = true := by decide +kernel
theorem cl_28_30 : x_rmk 28 30 = true := by decide +kernel
theorem cl_32_26 : x_rmk 32 26 = true := by decide +kernel
theorem cl_32_29 : x_rmk 32 29 = true := by decide +kernel
theorem cl_32_31 : x_rmk 32 31 = true := by decide +kernel
theorem cl_32_33 : x_rmk 32 33 = true := by decide +kernel
theorem cl_33_25 : x_rmk 33 25 = true := by decide +kernel
theorem cl_33_26 : x_rmk 33 26 = true := by decide +kernel
theorem cl_33_34 : x_rmk 33 34 = true := by decide +kernel
theorem cl_33_37 : x_rmk 33 37 = true := by decide +kernel
theorem cl_34_25 : x_rmk 34 25 = true := by decide +kernel
theorem cl_34_26 : x_rmk 34 26 = true := by decide +kernel
theorem cl_34_35 : x_rmk 34 35 = true := by decide +kernel
theorem cl_34_36 : x_rmk 34 36 = true := by decide +kernel
theorem cl_34_38 : x_rmk 34 38 = true := by decide +kernel
theorem cl_34_39 : x_rmk 34 39 = true := by decide +kernel
theorem cl_36_25 : x_rmk 36 25 = true := by decide +kernel
theorem cl_36_31 : x_rmk 36 31 = true := by decide +kernel
theorem cl_36_37 : x_rmk 36 37 = true := by decide +kernel
theorem cl_39_37 : x_rmk 39 37 = true := by decide +kernel
theorem cl_39_38 : x_rmk 39 38 = true := by decide +kernel
theorem cl_40_25 : x_rmk 40 25 = true := by decide +kernel
theorem cl_40_26 : x_rmk 40 26 = true := by decide +kernel
theorem cl_40_28 : x_rmk 40 28 = true := by decide +kernel
theorem cl_40_31 : x_rmk 40 31 = true := by decide +kernel
theorem cl_40_41 : x_rmk 40 41 = true := by decide +kernel
theorem cl_40_42 : x_rmk 40 42 = true := by decide +kernel
theorem cl_41_25 : x_rmk 41 25 = true := by decide +kernel
theorem cl_41_26 : x_rmk 41 26 = true := by decide +kernel
theorem cl_42_25 : x_rmk 42 25 = true := by decide +kernel
theorem cl_42_26 : x_rmk 42 26 = true := by decide +kernel
theorem cl_42_34 : x_rmk 42 34 = true := by decide +kernel
theorem cl_42_37 : x_rmk 42 37 = true := by decide +kernel
theorem cl_43_26 : x_rmk 43 26 = true := by decide +kernel
theorem cl_43_31 : x_rmk 43 31 = true := by decide +kernel
theorem cl_44_26 : x_rmk 44 26 = true := by decide +kernel
theorem cl_45_46 : x_rmk 45 46 = true := by decide +kernel
theorem cl_45_47 : x_rmk 45 47 = true := by decide +kernel
theorem cl_45_49 : x_rmk 45 49 = true := by decide +kernel
theorem cl_46_29 : x_rmk 46 29 = true := by decide +kernel
theorem cl_46_30 : x_rmk 46 30 = true := by decide +kernel
theorem cl_47_48 : x_rmk 47 48 = true := by decide +kernel
theorem cl_50_51 : x_rmk 50 51 = true := by decide +kernel
theorem cl_50_53 : x_rmk 50 53 = true := by decide +kernel
theorem cl_50_65 : x_rmk 50 65 = true := by decide +kernel
theorem cl_50_66 : x_rmk 50 66 = true := by decide +kernel
theorem cl_50_67 : x_rmk 50 67 = true := by decide +kernel
theorem cl_51_52 : x_rmk 51 52 = true := by decide +kernel
theorem cl_53_23 : x_rmk 53 23 = true := by decide +kernel
theorem cl_53_54 : x_rmk 53 54 = true := by decide +kernel
theorem cl_53_55 : x_rmk 53 55 = true := by decide +kernel
theorem cl_55_56 : x_rmk 55 56 = true := by decide +kernel
theorem cl_55_58 : x_rmk 55 58 = true := by decide +kernel
theorem cl_55_59 : x_rmk 55 59 = true := by decide +kernel
theorem cl_55_61 : x_rmk 55 61 = true := by decide +kernel
theorem cl_55_62 : x_rmk 55 62 = true := by decide +kernel
theorem cl_55_63 : x_rmk 55 63 = true := by decide +kernel
theorem cl_56_57 : x_rmk 56 57 = true := by decide +kernel
theorem cl_59_57 : x_rmk 59 57 = true := by decide +kernel
theorem cl_59_60 : x_rmk 59 60 = true := by decide +kernel
theorem cl_63_64 : x_rmk 63 64 = true := by decide +kernel
theorem cl_69_70 : x_rmk 69 70 = true := by decide +kernel
theorem cl_71_72 : x_rmk 71 72 = true := by decide +kernel
theorem cl_71_73 : x_rmk 71 73 = true := by decide +kernel
theorem cl_71_75 : x_rmk 71 75 = true := by decide +kernel
theorem cl_73_74 : x_rmk 73 74 = true := by decide +kernel
theorem cl_74_57 : x_rmk 74 57 = true := by decide +kernel
theorem cl_75_57 : x_rmk 75 57 = true := by decide +kernel
theorem cl_77_67 : x_rmk 77 67 = true := by decide +kernel
theorem cl_77_78 : x_rmk 77 78 = true := by decide +kernel
theorem cl_77_79 : x_rmk 77 79 = true := by decide +kernel
theorem cl_79_55 : x_rmk 79 55 = true := by decide +kernel
theorem cl_79_57 : x_rmk 79 57 = true := by decide +kernel
theorem cl_79_80 : x_rmk 79 80 = true := by decide +kernel
theorem cl_80_81 : x_rmk 80 81 = true := by decide +kernel
theorem cl_82_55 : x_rmk 82 55 = true := by decide +kernel
theorem cl_82_67 : x_rmk 82 67 = true := by decide +kernel
theorem cl_82_70 : x_rmk 82 70 = true := by decide +kernel
theorem cl_82_78 : x_rmk 82 78 = true := by decide +kernel
theorem cl_83_55 : x_rmk 83 55 = true := by decide +kernel
theorem cl_83_67 : x_rmk 83 67 = true := by decide +kernel
theorem cl_83_72 : x_rmk 83 72 = true := by decide +kernel
theorem cl_83_78 : x_rmk 83 78 = true := by decide +kernel
theorem cl_84_67 : x_rmk 84 67 = true := by decide +kernel
theorem cl_84_85 : x_rmk 84 85 = true := by decide +kernel
theorem cl_86_52 : x_rmk 86 52 = true := by decide +kernel
theorem cl_87_88 : x_rmk 87 88 = true := by decide +kernel
theorem cl_87_94 : x_rmk 87 94 = true := by decide +kernel
theorem cl_88_56 : x_rmk 88 56 = true := by decide +kernel
theorem cl_88_89 : x_rmk 88 89 = true := by decide +kernel
theorem cl_88_90 : x_rmk 88 90 = true := by decide +kernel
theorem cl_88_92 : x_rmk 88 92 = true := by decide +kernel
theorem cl_88_93 : x_rmk 88 93 = true := by decide +kernel
theorem cl_90_60 : x_rmk 90 60 = true := by decide +kernel
theorem cl_90_91 : x_rmk 90 91 = true := by decide +kernel
theorem cl_93_59 : x_rmk 93 59 = true := by decide +kernel
theorem cl_94_95 : x_rmk 94 95 = true := by decide +kernel
theorem cl_94_96 : x_rmk 94 96 = true := by decide +kernel
theorem cl_97_72 : x_rmk 97 72 = true := by decide +kernel
theorem cl_97_98 : x_rmk 97 98 = true := by decide +kernel
theorem cl_97_99 : x_rmk 97 99 = true := by decide +kernel
theorem cl_97_102 : x_rmk 97 102 = true := by decide +kernel
theorem cl_99_52 : x_rmk 99 52 = true := by decide +kernel
theorem cl_99_64 : x_rmk 99 64 = true := by decide +kernel
theorem cl_99_100 : x_rmk 99 100 = true := by decide +kernel
theorem cl_99_102 : x_rmk 99 102 = true := by decide +kernel
theorem cl_100_54 : x_rmk 100 54 = true := by decide +kernel
theorem cl_100_55 : x_rmk 100 55 = true := by decide +kernel
theorem cl_100_58 : x_rmk 100 58 = true := by decide +kernel
theorem cl_100_101 : x_rmk 100 101 = true := by decide +kernel
theorem cl_103_64 : x_rmk 103 64 = true := by decide +kernel
theorem cl_103_72 : x_rmk 103 72 = true := by decide +kernel
theorem cl_103_104 : x_rmk 103 104 = true := by decide +kernel
theorem cl_104_52 : x_rmk 104 52 = true := by decide +kernel
theorem cl_104_58 : x_rmk 104 58 = true := by decide +kernel
theorem cl_104_79 : x_rmk 104 79 = true := by decide +kernel
theorem cl_105_64 : x_rmk 105 64 = true := by decide +kernel
theorem cl_105_72 : x_rmk 105 72 = true := by decide +kernel
theorem cl_105_104 : x_rmk 105 104 = true := by decide +kernel
theorem cl_106_64 : x_rmk 106 64 = true := by decide +kernel
theorem cl_106_72 : x_rmk 106 72 = true := by decide +kernel
theorem cl_106_104 : x_rmk 106 104 = true := by decide +kernel
theorem cl_106_107 : x_rmk 106 107 = true := by decide +kernel
theorem cl_108_64 : x_rmk 108 64 = true := by decide +kernel
theorem cl_108_104 : x_rmk 108 104 = true := by decide +kernel
theorem cl_108_107 : x_rmk 108 107 = true := by decide +kernel
theorem cl_109_64 : x_rmk 109 64 = true := by decide +kernel
theorem cl_109_72 : x_rmk 109 72 = true := by decide +kernel
theorem cl_109_104 : x_rmk 109 104 = true := by decide +kernel
theorem cl_109_107 : x_rmk 109 107 = true := by decide +kernel
theorem cl_110_72 : x_rmk 110 72 = true := by decide +kernel
theorem cl_110_111 : x_rmk 110 111 = true := by decide +kernel
theorem cl_111_64 : x_rmk 111 64 = true := by decide +kernel
theorem cl_111_100 : x_rmk 111 100 = true := by decide +kernel
theorem cl_112_72 : x_rmk 112 72 = true := by decide +kernel
theorem cl_112_113 : x_rmk 112 113 = true := by decide +kernel
theorem cl_112_114 : x_rmk 112 114 = true := by decide +kernel
theorem cl_113_64 : x_rmk 113 64 = true := by decide +kernel
theorem cl_113_100 : x_rmk 113 100 = true := by decide +kernel
theorem cl_115_70 : x_rmk 115 70 = true := by decide +kernel
theorem cl_115_72 : x_rmk 115 72 = true := by decide +kernel
theorem cl_115_116 : x_rmk 115 116 = true := by decide +kernel
theorem cl_116_64 : x_rmk 116 64 = true := by decide +kernel
theorem cl_116_100 : x_rmk 116 100 = true := by decide +kernel
theorem cl_116_117 : x_rmk 116 117 = true := by decide +kernel
theorem cl_118_72 : x_rmk 118 72 = true := by decide +kernel
theorem cl_118_98 : x_rmk 118 98 = true := by decide +kernel
theorem cl_118_119 : x_rmk 118 119 = true := by decide +kernel
theorem cl_119_23 : x_rmk 119 23 = true := by decide +kernel
theorem cl_119_54 : x_rmk 119 54 = true := by decide +kernel
theorem cl_119_62 : x_rmk 119 62 = true := by decide +kernel
theorem cl_119_74 : x_rmk 119 74 = true := by decide +kernel
theorem cl_119_100 : x_rmk 119 100 = true := by decide +kernel
theorem cl_120_102 : x_rmk 120 102 = true := by decide +kernel
theorem cl_120_121 : x_rmk 120 121 = true := by decide +kernel
theorem cl_120_122 : x_rmk 120 122 = true := by decide +kernel
theorem cl_121_100 : x_rmk 121 100 = true := by decide +kernel
theorem cl_121_102 : x_rmk 121 102 = true := by decide +kernel
theorem cl_121_122 : x_rmk 121 122 = true := by decide +kernel
theorem cl_123_98 : x_rmk 123 98 = true := by decide +kernel
theorem cl_123_104 : x_rmk 123 104 = true := by decide +kernel
theorem cl_123_124 : x_rmk 123 124 = true := by decide +kernel
theorem cl_125_98 : x_rmk 125 98 = true := by decide +kernel
theorem cl_125_126 : x_rmk 125 126 = true := by decide +kernel
theorem cl_125_127 : x_rmk 125 127 = true := by decide +kernel
theorem cl_125_130 : x_rmk 125 130 = true := by decide +kernel
theorem cl_127_53 : x_rmk 127 53 = true := by decide +kernel
theorem cl_127_58 : x_rmk 127 58 = true := by decide +kernel
theorem cl_127_101 : x_rmk 127 101 = true := by decide +kernel
theorem cl_127_128 : x_rmk 127 128 = true := by decide +kernel
theorem cl_127_129 : x_rmk 127 129 = true := by decide +kernel
theorem cl_128_23 : x_rmk 128 23 = true := by decide +kernel
theorem cl_129_52 : x_rmk 129 52 = true := by decide +kernel
theorem cl_129_54 : x_rmk 129 54 = true := by decide +kernel
theorem cl_129_58 : x_rmk 129 58 = true := by decide +kernel
theorem cl_129_62 : x_rmk 129 62 = true := by decide +kernel
theorem cl_129_79 : x_rmk 129 79 = true := by decide +kernel
theorem cl_130_23 : x_rmk 130 23 = true := by decide +kernel
theorem cl_130_101 : x_rmk 130 101 = true := by decide +kernel
theorem cl_131_72 : x_rmk 131 72 = true := by decide +kernel
theorem cl_131_132 : x_rmk 131 132 = true := by decide +kernel
theorem cl_132_52 : x_rmk 132 52 = true := by decide +kernel
theorem cl_132_64 : x_rmk 132 64 = true := by decide +kernel
theorem cl_132_100 : x_rmk 132 100 = true := by decide +kernel
theorem cl_132_133 : x_rmk 132 133 = true := by decide +kernel
theorem cl_132_134 : x_rmk 132 134 = true := by decide +kernel
theorem cl_133_23 : x_rmk 133 23 = true := by decide +kernel
theorem cl_133_64 : x_rmk 133 64 = true := by decide +kernel
theorem cl_133_101 : x_rmk 133 101 = true := by decide +kernel
theorem cl_133_134 : x_rmk 133 134 = true := by decide +kernel
theorem cl_134_117 : x_rmk 134 117 = true := by decide +kernel
theorem cl_135_72 : x_rmk 135 72 = true := by decide +kernel
theorem cl_135_136 : x_rmk 135 136 = true := by decide +kernel
theorem cl_136_64 : x_rmk 136 64 = true := by decide +kernel
theorem cl_136_79 : x_rmk 136 79 = true := by decide +kernel
theorem cl_136_104 : x_rmk 136 104 = true := by decide +kernel
theorem cl_137_72 : x_rmk 137 72 = true := by decide +kernel
theorem cl_137_126 : x_rmk 137 126 = true := by decide +kernel
theorem cl_137_138 : x_rmk 137 138 = true := by decide +kernel
theorem cl_140_127 : x_rmk 140 127 = true := by decide +kernel
theorem cl_140_141 : x_rmk 140 141 = true := by decide +kernel
theorem cl_140_142 : x_rmk 140 142 = true := by decide +kernel
theorem cl_140_143 : x_rmk 140 143 = true := by decide +kernel
theorem cl_143_144 : x_rmk 143 144 = true := by decide +kernel
theorem cl_144_64 : x_rmk 144 64 = true := by decide +kernel
theorem cl_145_127 : x_rmk 145 127 = true := by decide +kernel
theorem cl_145_141 : x_rmk 145 141 = true := by decide +kernel
theorem cl_145_142 : x_rmk 145 142 = true := by decide +kernel
theorem cl_145_146 : x_rmk 145 146 = true := by decide +kernel
theorem cl_146_144 : x_rmk 146 144 = true := by decide +kernel
theorem cl_146_147 : x_rmk 146 147 = true := by decide +kernel
theorem cl_147_117 : x_rmk 147 117 = true := by decide +kernel
theorem cl_148_98 : x_rmk 148 98 = true := by decide +kernel
theorem cl_148_126 : x_rmk 148 126 = true := by decide +kernel
theorem cl_148_127 : x_rmk 148 127 = true := by decide +kernel
theorem cl_148_141 : x_rmk 148 141 = true := by decide +kernel
theorem cl_148_142 : x_rmk 148 142 = true := by decide +kernel
theorem cl_148_149 : x_rmk 148 149 = true := by decide +kernel
theorem cl_149_150 : x_rmk 149 150 = true := by decide +kernel
theorem cl_150_23 : x_rmk 150 23 = true := by decide +kernel
theorem cl_150_64 : x_rmk 150 64 = true := by decide +kernel
theorem cl_150_144 : x_rmk 150 144 = true := by decide +kernel
theorem cl_151_91 : x_rmk 151 91 = true := by decide +kernel
theorem cl_151_98 : x_rmk 151 98 = true := by decide +kernel
theorem cl_151_126 : x_rmk 151 126 = true := by decide +kernel
theorem cl_151_127 : x_rmk 151 127 = true := by decide +kernel
theorem cl_151_152 : x_rmk 151 152 = true := by decide +kernel
theorem cl_152_23 : x_rmk 152 23 = true := by decide +kernel
theorem cl_152_91 : x_rmk 152 91 = true := by decide +kernel
theorem cl_152_101 : x_rmk 152 101 = true := by decide +kernel
theorem cl_152_153 : x_rmk 152 153 = true := by decide +kernel
theorem cl_155_65 : x_rmk 155 65 = true := by decide +kernel
theorem cl_155_67 : x_rmk 155 67 = true := by decide +kernel
theorem cl_156_91 : x_rmk 156 91 = true := by decide +kernel
theorem cl_156_157 : x_rmk 156 157 = true := by decide +kernel
theorem cl_158_159 : x_rmk 158 159 = true := by decide +kernel
theorem cl_158_161 : x_rmk 158 161 = true := by decide +kernel
theorem cl_158_174 : x_rmk 158 174 = true := by decide +kernel
theorem cl_159_160 : x_rmk 159 160 = true := by decide +kernel
theorem cl_161_162 : x_rmk 161 162 = true := by decide +kernel
theorem cl_162_163 : x_rmk 162 163 = true := by decide +kernel
theorem cl_162_164 : x_rmk 162 164 = true := by decide +kernel
theorem cl_164_165 : x_rmk 164 165 = true := by decide +kernel
theorem cl_164_166 : x_rmk 164 166 = true := by decide +kernel
theorem cl_164_172 : x_rmk 164 172 = true := by decide +kernel
theorem cl_166_167 : x_rmk 166 167 = true := by decide +kernel
theorem cl_166_168 : x_rmk 166 168 = true := by decide +kernel
theorem cl_168_169 : x_rmk 168 169 = true := by decide +kernel
theorem cl_169_170 : x_rmk 169 170 = true := by decide +kernel
theorem cl_170_171 : x_rmk 170 171 = true := by decide +kernel
theorem cl_172_173 : x_rmk 172 173 = true := by decide +kernel
theorem cl_175_176 : x_rmk 175 176 = true := by decide +kernel
theorem cl_178_161 : x_rmk 178 161 = true := by decide +kernel
theorem cl_178_174 : x_rmk 178 174 = true := by decide +kernel
theorem cl_178_179 : x_rmk 178 179 = true := by decide +kernel
theorem cl_178_185 : x_rmk 178 185 = true := by decide +kernel
theorem cl_178_186 : x_rmk 178 186 = true := by decide +kernel
theorem cl_178_203 : x_rmk 178 203 = true := by decide +kernel
theorem cl_179_160 : x_rmk 179 160 = true := by decide +kernel
theorem cl_179_180 : x_rmk 179 180 = true := by decide +kernel
theorem cl_179_181 : x_rmk 179 181 = true := by decide +kernel
theorem cl_179_182 : x_rmk 179 182 = true := by decide +kernel
theorem cl_179_183 : x_rmk 179 183 = true := by decide +kernel
theorem cl_179_184 : x_rmk 179 184 = true := by decide +kernel
theorem cl_184_181 : x_rmk 184 181 = true := by decide +kernel
theorem cl_186_187 : x_rmk 186 187 = true := by decide +kernel
theorem cl_186_188 : x_rmk 186 188 = true := by decide +kernel
theorem cl_186_190 : x_rmk 186 190 = true := by decide +kernel
theorem cl_186_191 : x_rmk 186 191 = true := by decide +kernel
theorem cl_186_192 : x_rmk 186 192 = true := by decide +kernel
theorem cl_186_193 : x_rmk 186 193 = true := by decide +kernel
theorem cl_186_195 : x_rmk 186 195 = true := by decide +kernel
theorem cl_186_201 : x_rmk 186 201 = true := by decide +kernel
theorem cl_188_185 : x_rmk 188 185 = true := by decide +kernel
theorem cl_188_189 : x_rmk 188 189 = true := by decide +kernel
theorem cl_188_190 : x_rmk 188 190 = true := by decide +kernel
theorem cl_188_191 : x_rmk 188 191 = true := by decide +kernel
theorem cl_188_192 : x_rmk 188 192 = true := by decide +kernel
theorem cl_188_193 : x_rmk 188 193 = true := by decide +kernel
theorem cl_188_194 : x_rmk 188 194 = true := by decide +kernel
theorem cl_189_190 : x_rmk 189 190 = true := by decide +kernel
theorem cl_189_191 : x_rmk 189 191 = true := by decide +kernel
theorem cl_189_192 : x_rmk 189 192 = true := by decide +kernel
theorem cl_190_187 : x_rmk 190 187 = true := by decide +kernel
theorem cl_191_185 : x_rmk 191 185 = true := by decide +kernel
theorem cl_191_187 : x_rmk 191 187 = true := by decide +kernel
theorem cl_191_190 : x_rmk 191 190 = true := by decide +kernel
theorem cl_193_185 : x_rmk 193 185 = true := by decide +kernel
theorem cl_193_187 : x_rmk 193 187 = true := by decide +kernel
theorem cl_193_190 : x_rmk 193 190 = true := by decide +kernel
theorem cl_193_192 : x_rmk 193 192 = true := by decide +kernel
theorem cl_195_185 : x_rmk 195 185 = true := by decide +kernel
theorem cl_195_187 : x_rmk 195 187 = true := by decide +kernel
theorem cl_195_190 : x_rmk 195 190 = true := by decide +kernel
theorem cl_195_191 : x_rmk 195 191 = true := by decide +kernel
theorem cl_195_196 : x_rmk 195 196 = true := by decide +kernel
theorem cl_195_200 : x_rmk 195 200 = true := by decide +kernel
theorem cl_196_185 : x_rmk 196 185 = true := by decide +kernel
theorem cl_196_187 : x_rmk 196 187 = true := by decide +kernel
theorem cl_196_190 : x_rmk 196 190 = true := by decide +kernel
theorem cl_196_197 : x_rmk 196 197 = true := by decide +kernel
theorem cl_196_199 : x_rmk 196 199 = true := by decide +kernel
theorem cl_197_185 : x_rmk 197 185 = true := by decide +kernel
theorem cl_197_187 : x_rmk 197 187 = true := by decide +kernel
theorem cl_197_190 : x_rmk 197 190 = true := by decide +kernel
theorem cl_197_192 : x_rmk 197 192 = true := by decide +kernel
theorem cl_197_198 : x_rmk 197 198 = true := by decide +kernel
theorem cl_199_198 : x_rmk 199 198 = true := by decide +kernel
theorem cl_200_196 : x_rmk 200 196 = true := by decide +kernel
theorem cl_201_185 : x_rmk 201 185 = true := by decide +kernel
theorem cl_201_187 : x_rmk 201 187 = true := by decide +kernel
theorem cl_201_189 : x_rmk 201 189 = true := by decide +kernel
theorem cl_201_190 : x_rmk 201 190 = true := by decide +kernel
theorem cl_201_191 : x_rmk 201 191 = true := by decide +kernel
theorem cl_201_194 : x_rmk 201 194 = true := by decide +kernel
theorem cl_201_202 : x_rmk 201 202 = true := by decide +kernel
theorem cl_202_185 : x_rmk 202 185 = true := by decide +kernel
theorem cl_202_187 : x_rmk 202 187 = true := by decide +kernel
theorem cl_202_190 : x_rmk 202 190 = true := by decide +kernel
theorem cl_202_196 : x_rmk 202 196 = true := by decide +kernel
theorem cl_203_192 : x_rmk 203 192 = true := by decide +kernel
theorem cl_205_206 : x_rmk 205 206 = true := by decide +kernel
theorem cl_206_207 : x_rmk 206 207 = true := by decide +kernel
theorem cl_208_167 : x_rmk 208 167 = true := by decide +kernel
theorem cl_208_169 : x_rmk 208 169 = true := by decide +kernel
theorem cl_208_170 : x_rmk 208 170 = true := by decide +kernel
theorem cl_208_207 : x_rmk 208 207 = true := by decide +kernel
theorem cl_208_209 : x_rmk 208 209 = true := by decide +kernel
theorem cl_208_210 : x_rmk 208 210 = true := by decide +kernel
theorem cl_209_207 : x_rmk 209 207 = true := by decide +kernel
theorem cl_211_207 : x_rmk 211 207 = true := by decide +kernel
theorem cl_212_207 : x_rmk 212 207 = true := by decide +kernel
theorem cl_212_210 : x_rmk 212 210 = true := by decide +kernel
theorem cl_212_213 : x_rmk 212 213 = true := by decide +kernel
theorem cl_212_218 : x_rmk 212 218 = true := by decide +kernel
theorem cl_213_214 : x_rmk 213 214 = true := by decide +kernel
theorem cl_214_164 : x_rmk 214 164 = true := by decide +kernel
theorem cl_214_167 : x_rmk 214 167 = true := by decide +kernel
theorem cl_214_215 : x_rmk 214 215 = true := by decide +kernel
theorem cl_214_216 : x_rmk 214 216 = true := by decide +kernel
theorem cl_215_171 : x_rmk 215 171 = true := by decide +kernel
theorem cl_216_217 : x_rmk 216 217 = true := by decide +kernel
theorem cl_218_174 : x_rmk 218 174 = true := by decide +kernel
theorem cl_219_164 : x_rmk 219 164 = true := by decide +kernel
theorem cl_219_206 : x_rmk 219 206 = true := by decide +kernel
theorem cl_219_207 : x_rmk 219 207 = true := by decide +kernel
theorem cl_219_210 : x_rmk 219 210 = true := by decide +kernel
theorem cl_219_218 : x_rmk 219 218 = true := by decide +kernel
theorem cl_220_164 : x_rmk 220 164 = true := by decide +kernel
theorem cl_220_209 : x_rmk 220 209 = true := by decide +kernel
theorem cl_220_210 : x_rmk 220 210 = true := by decide +kernel
theorem cl_220_218 : x_rmk 220 218 = true := by decide +kernel
theorem cl_222_207 : x_rmk 222 207 = true := by decide +kernel
theorem cl_222_210 : x_rmk 222 210 = true := by decide +kernel
theorem cl_222_223 : x_rmk 222 223 = true := by decide +kernel
theorem cl_224_166 : x_rmk 224 166 = true := by decide +kernel
theorem cl_224_173 : x_rmk 224 173 = true := by decide +kernel
theorem cl_224_210 : x_rmk 224 210 = true := by decide +kernel
theorem cl_225_209 : x_rmk 225 209 = true := by decide +kernel
theorem cl_225_210 : x_rmk 225 210 = true := by decide +kernel
theorem cl_225_214 : x_rmk 225 214 = true := by decide +kernel
theorem cl_225_226 : x_rmk 225 226 = true := by decide +kernel
theorem cl_227_209 : x_rmk 227 209 = true := by decide +kernel
theorem cl_227_210 : x_rmk 227 210 = true := by decide +kernel
theorem cl_227_214 : x_rmk 227 214 = true := by decide +kernel
theorem cl_227_226 : x_rmk 227 226 = true := by decide +kernel
theorem cl_228_209 : x_rmk 228 209 = true := by decide +kernel
theorem cl_228_210 : x_rmk 228 210 = true := by decide +kernel
theorem cl_228_214 : x_rmk 228 214 = true := by decide +kernel
theorem cl_228_226 : x_rmk 228 226 = true := by decide +kernel
theorem cl_228_229 : x_rmk 228 229 = true := by decide +kernel
theorem cl_229_207 : x_rmk 229 207 = true := by decide +kernel
theorem cl_230_210 : x_rmk 230 210 = true := by decide +kernel
theorem cl_230_213 : x_rmk 230 213 = true := by decide +kernel
theorem cl_230_229 : x_rmk 230 229 = true := by decide +kernel
theorem cl_231_209 : x_rmk 231 209 = true := by decide +kernel
theorem cl_231_210 : x_rmk 231 210 = true := by decide +kernel
theorem cl_231_213 : x_rmk 231 213 = true := by decide +kernel
theorem cl_231_229 : x_rmk 231 229 = true := by decide +kernel
theorem cl_232_165 : x_rmk 232 165 = true := by decide +kernel
theorem cl_232_207 : x_rmk 232 207 = true := by decide +kernel
theorem cl_232_210 : x_rmk 232 210 = true := by decide +kernel
theorem cl_232_214 : x_rmk 232 214 = true := by decide +kernel
theorem cl_232_223 : x_rmk 232 223 = true := by decide +kernel
theorem cl_233_207 : x_rmk 233 207 = true := by decide +kernel
theorem cl_233_209 : x_rmk 233 209 = true := by decide +kernel
theorem cl_233_210 : x_rmk 233 210 = true := by decide +kernel
theorem cl_233_213 : x_rmk 233 213 = true := by decide +kernel
theorem cl_233_226 : x_rmk 233 226 = true := by decide +kernel
theorem cl_234_207 : x_rmk 234 207 = true := by decide +kernel
theorem cl_234_209 : x_rmk 234 209 = true := by decide +kernel
theorem cl_234_210 : x_rmk 234 210 = true := by decide +kernel
theorem cl_234_223 : x_rmk 234 223 = true := by decide +kernel
theorem cl_234_226 : x_rmk 234 226 = true := by decide +kernel
theorem cl_234_235 : x_rmk 234 235 = true := by decide +kernel
theorem cl_234_237 : x_rmk 234 237 = true := by decide +kernel
theorem cl_235_236 : x_rmk 235 236 = true := by decide +kernel
theorem cl_237_163 : x_rmk 237 163 = true := by decide +kernel
theorem cl_237_164 : x_rmk 237 164 = true := by decide +kernel
theorem cl_237_210 : x_rmk 237 210 = true := by decide +kernel
theorem cl_238_173 : x_rmk 238 173 = true := by decide +kernel
theorem cl_238_209 : x_rmk 238 209 = true := by decide +kernel
theorem cl_238_239 : x_rmk 238 239 = true := by decide +kernel
theorem cl_239_165 : x_rmk 239 165 = true := by decide +kernel
theorem cl_239_237 : x_rmk 239 237 = true := by decide +kernel
theorem cl_240_173 : x_rmk 240 173 = true := by decide +kernel
theorem cl_240_209 : x_rmk 240 209 = true := by decide +kernel
theorem cl_240_239 : x_rmk 240 239 = true := by decide +kernel
theorem cl_240_241 : x_rmk 240 241 = true := by decide +kernel
theorem cl_242_173 : x_rmk 242 173 = true := by decide +kernel
theorem cl_242_206 : x_rmk 242 206 = true := by decide +kernel
theorem cl_242_209 : x_rmk 242 209 = true := by decide +kernel
theorem cl_242_236 : x_rmk 242 236 = true := by decide +kernel
theorem cl_242_239 : x_rmk 242 239 = true := by decide +kernel
theorem cl_242_243 : x_rmk 242 243 = true := by decide +kernel
theorem cl_244_167 : x_rmk 244 167 = true := by decide +kernel
theorem cl_244_170 : x_rmk 244 170 = true := by decide +kernel
theorem cl_244_207 : x_rmk 244 207 = true := by decide +kernel
theorem cl_244_209 : x_rmk 244 209 = true := by decide +kernel
theorem cl_244_237 : x_rmk 244 237 = true := by decide +kernel
theorem cl_245_207 : x_rmk 245 207 = true := by decide +kernel
theorem cl_245_235 : x_rmk 245 235 = true := by decide +kernel
theorem cl_245_239 : x_rmk 245 239 = true := by decide +kernel
theorem cl_245_246 : x_rmk 245 246 = true := by decide +kernel
theorem cl_246_173 : x_rmk 246 173 = true := by decide +kernel
theorem cl_247_209 : x_rmk 247 209 = true := by decide +kernel
theorem cl_247_239 : x_rmk 247 239 = true := by decide +kernel
theorem cl_247_248 : x_rmk 247 248 = true := by decide +kernel
theorem cl_248_173 : x_rmk 248 173 = true := by decide +kernel
theorem cl_248_236 : x_rmk 248 236 = true := by decide +kernel
theorem cl_248_249 : x_rmk 248 249 = true := by decide +kernel
theorem cl_249_236 : x_rmk 249 236 = true := by decide +kernel
theorem cl_250_207 : x_rmk 250 207 = true := by decide +kernel
theorem cl_250_251 : x_rmk 250 251 = true := by decide +kernel
theorem cl_250_252 : x_rmk 250 252 = true := by decide +kernel
theorem cl_250_253 : x_rmk 250 253 = true := by decide +kernel
theorem cl_251_207 : x_rmk 251 207 = true := by decide +kernel
theorem cl_252_162 : x_rmk 252 162 = true := by decide +kernel
theorem cl_252_165 : x_rmk 252 165 = true := by decide +kernel
theorem cl_252_213 : x_rmk 252 213 = true := by decide +kernel
theorem cl_254_207 : x_rmk 254 207 = true := by decide +kernel
theorem cl_254_251 : x_rmk 254 251 = true := by decide +kernel
theorem cl_254_252 : x_rmk 254 252 = true := by decide +kernel
theorem cl_254_255 : x_rmk 254 255 = true := by decide +kernel
theorem cl_254_256 : x_rmk 254 256 = true := by decide +kernel
theorem cl_256_173 : x_rmk 256 173 = true := by decide +kernel
theorem cl_256_253 : x_rmk 256 253 = true := by decide +kernel
theorem cl_257_207 : x_rmk 257 207 = true := by decide +kernel
theorem cl_257_209 : x_rmk 257 209 = true := by decide +kernel
theorem cl_257_251 : x_rmk 257 251 = true := by decide +kernel
theorem cl_259_260 : x_rmk 259 260 = true := by decide +kernel
theorem cl_259_261 : x_rmk 259 261 = true := by decide +kernel
theorem cl_260_207 : x_rmk 260 207 = true := by decide +kernel
theorem cl_261_162 : x_rmk 261 162 = true := by decide +kernel
theorem cl_261_214 : x_rmk 261 214 = true := by decide +kernel
theorem cl_262_236 : x_rmk 262 236 = true := by decide +kernel
theorem cl_262_260 : x_rmk 262 260 = true := by decide +kernel
theorem cl_262_261 : x_rmk 262 261 = true := by decide +kernel
theorem cl_263_162 : x_rmk 263 162 = true := by decide +kernel
theorem cl_263_207 : x_rmk 263 207 = true := by decide +kernel
theorem cl_263_213 : x_rmk 263 213 = true := by decide +kernel
theorem cl_263_251 : x_rmk 263 251 = true := by decide +kernel
theorem cl_263_260 : x_rmk 263 260 = true := by decide +kernel
theorem cl_263_261 : x_rmk 263 261 = true := by decide +kernel
theorem cl_264_207 : x_rmk 264 207 = true := by decide +kernel
theorem cl_265_207 : x_rmk 265 207 = true := by decide +kernel
theorem cl_267_0 : x_rmk 267 0 = true := by decide +kernel
theorem cl_267_10 : x_rmk 267 10 = true := by decide +kernel
theorem cl_267_12 : x_rmk 267 12 = true := by decide +kernel
theorem cl_267_13 : x_rmk 267 13 = true := by decide +kernel
theorem cl_267_68 : x_rmk 267 68 = true := by decide +kernel
theorem cl_267_69 : x_rmk 267 69 = true := by decide +kernel
theorem cl_267_71 : x_rmk 267 71 = true := by decide +kernel
theorem cl_267_76 : x_rmk 267 76 = true := by decide +kernel
theorem cl_267_77 : x_rmk 267 77 = true := by decide +kernel
theorem cl_267_82 : x_rmk 267 82 = true := by decide +kernel
theorem cl_267_83 : x_rmk 267 83 = true := by decide +kernel
theorem cl_267_84 : x_rmk 267 84 = true := by decide +kernel
theorem cl_267_86 : x_rmk 267 86 = true := by decide +kernel
theorem cl_267_87 : x_rmk 267 87 = true := by decide +kernel
theorem cl_267_97 : x_rmk 267 97 = true := by decide +kernel
theorem cl_267_103 : x_rmk 267 103 = true := by decide +kernel
theorem cl_267_105 : x_rmk 267 105 = true := by decide +kernel
theorem cl_267_106 : x_rmk 267 106 = true := by decide +kernel
theorem cl_267_108 : x_rmk 267 108 = true := by decide +kernel
theorem cl_267_109 : x_rmk 267 109 = true := by decide +kernel
theorem cl_267_110 : x_rmk 267 110 = true := by decide +kernel
theorem cl_267_112 : x_rmk 267 112 = true := by decide +kernel
theorem cl_267_115 : x_rmk 267 115 = true := by decide +kernel
theorem cl_267_118 : x_rmk 267 118 = true := by decide +kernel
theorem cl_267_120 : x_rmk 267 120 = true := by decide +kernel
theorem cl_267_123 : x_rmk 267 123 = true := by decide +kernel
theorem cl_267_125 : x_rmk 267 125 = true := by decide +kernel
theorem cl_267_131 : x_rmk 267 131 = true := by decide +kernel
theorem cl_267_135 : x_rmk 267 135 = true := by decide +kernel
theorem cl_267_137 : x_rmk 267 137 = true := by decide +kernel
theorem cl_267_139 : x_rmk 267 139 = true := by decide +kernel
theorem cl_267_140 : x_rmk 267 140 = true := by decide +kernel
theorem cl_267_145 : x_rmk 267 145 = true := by decide +kernel
theorem cl_267_148 : x_rmk 267 148 = true := by decide +kernel
theorem cl_267_151 : x_rmk 267 151 = true := by decide +kernel
theorem cl_267_154 : x_rmk 267 154 = true := by decide +kernel
theorem cl_267_155 : x_rmk 267 155 = true := by decide +kernel
theorem cl_267_156 : x_rmk 267 156 = true := by decide +kernel
theorem cl_267_158 : x_rmk 267 158 = true := by decide +kernel
theorem cl_267_175 : x_rmk 267 175 = true := by decide +kernel
theorem cl_267_177 : x_rmk 267 177 = true := by decide +kernel
theorem cl_267_178 : x_rmk 267 178 = true := by decide +kernel
theorem cl_267_204 : x_rmk 267 204 = true := by decide +kernel
theorem cl_267_205 : x_rmk 267 205 = true := by decide +kernel
theorem cl_267_208 : x_rmk 267 208 = true := by decide +kernel
theorem cl_267_211 : x_rmk 267 211 = true := by decide +kernel
theorem cl_267_212 : x_rmk 267 212 = true := by decide +kernel
theorem cl_267_219 : x_rmk 267 219 = true := by decide +kernel
theorem cl_267_220 : x_rmk 267 220 = true := by decide +kernel
theorem cl_267_221 : x_rmk 267 221 = true := by decide +kernel
theorem cl_267_222 : x_rmk 267 222 = true := by decide +kernel
theorem cl_267_224 : x_rmk 267 224 = true := by decide +kernel
theorem cl_267_225 : x_rmk 267 225 = true := by decide +kernel
theorem cl_267_227 : x_rmk 267 227 = true := by decide +kernel
theorem cl_267_228 : x_rmk 267 228 = true := by decide +kernel
theorem cl_267_230 : x_rmk 267 230 = true := by decide +kernel
theorem cl_267_231 : x_rmk 267 231 = true := by decide +kernel
theorem cl_267_232 : x_rmk 267 232 = true := by decide +kernel
theorem cl_267_233 : x_rmk 267 233 = true := by decide +kernel
theorem cl_267_234 : x_rmk 267 234 = true := by decide +kernel
theorem cl_267_238 : x_rmk 267 238 = true := by decide +kernel
theorem cl_267_240 : x_rmk 267 240 = true := by decide +kernel
theorem cl_267_242 : x_rmk 267 242 = true := by decide +kernel
theorem cl_267_244 : x_rmk 267 244 = true := by decide +kernel
theorem cl_267_245 : x_rmk 267 245 = true := by decide +kernel
theorem cl_267_247 : x_rmk 267 247 = true := by decide +kernel
theorem cl_267_250 : x_rmk 267 250 = true := by decide +kernel
theorem cl_267_254 : x_rmk 267 254 = true := by decide +kernel
theorem cl_267_257 : x_rmk 267 257 = true := by decide +kernel
theorem cl_267_258 : x_rmk 267 258 = true := by decide +kernel
theorem cl_267_259 : x_rmk 267 259 = true := by decide +kernel
theorem cl_267_262 : x_rmk 267 262 = true := by decide +kernel
theorem cl_267_263 : x_rmk 267 263 = true := by decide +kernel
theorem cl_267_264 : x_rmk 267 264 = true := by decide +kernel
theorem cl_267_265 : x_rmk 267 265 = true := by decide +kernel
theorem cl_267_266 : x_rmk 267 266 = true := by decide +kernel
