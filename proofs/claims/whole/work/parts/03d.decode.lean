theorem dX12_isSafe_4 : decode cX12_isSafe 4 = .ok (.getfield 213, 3) := by decide +kernel
theorem dX12_isSafe_7 : decode cX12_isSafe 7 = .ok (.if_icmp .ge 36, 3) := by decide +kernel
theorem dX12_isSafe_10 : decode cX12_isSafe 10 = .ok (.aload_n 0, 1) := by decide +kernel
theorem dX12_isSafe_11 : decode cX12_isSafe 11 = .ok (.getfield 101, 3) := by decide +kernel
theorem dX12_isSafe_14 : decode cX12_isSafe 14 = .ok (.iload_n 3, 1) := by decide +kernel
theorem dX12_isSafe_15 : decode cX12_isSafe 15 = .ok (.iaload, 1) := by decide +kernel
theorem dX12_isSafe_16 : decode cX12_isSafe 16 = .ok (.iload_n 1, 1) := by decide +kernel
theorem dX12_isSafe_17 : decode cX12_isSafe 17 = .ok (.if_icmp .ne 20, 3) := by decide +kernel
theorem dX12_isSafe_20 : decode cX12_isSafe 20 = .ok (.aload_n 0, 1) := by decide +kernel
theorem dX12_isSafe_21 : decode cX12_isSafe 21 = .ok (.iload_n 3, 1) := by decide +kernel
theorem dX12_isSafe_22 : decode cX12_isSafe 22 = .ok (.invokevirtual 325, 3) := by decide +kernel
theorem dX12_isSafe_25 : decode cX12_isSafe 25 = .ok (.aload_n 0, 1) := by decide +kernel
theorem dX12_isSafe_26 : decode cX12_isSafe 26 = .ok (.getfield 43, 3) := by decide +kernel
theorem dX12_isSafe_29 : decode cX12_isSafe 29 = .ok (.bipush 23, 2) := by decide +kernel
theorem dX12_isSafe_31 : decode cX12_isSafe 31 = .ok (.iaload, 1) := by decide +kernel
theorem dX12_isSafe_32 : decode cX12_isSafe 32 = .ok (.if_icmp .lt 5, 3) := by decide +kernel
theorem dX12_isSafe_35 : decode cX12_isSafe 35 = .ok (.iconst 0, 1) := by decide +kernel
theorem dX12_isSafe_36 : decode cX12_isSafe 36 = .ok (.ireturn, 1) := by decide +kernel
theorem dX12_isSafe_37 : decode cX12_isSafe 37 = .ok (.iinc 3 1, 3) := by decide +kernel
theorem dX12_isSafe_40 : decode cX12_isSafe 40 = .ok (.goto (-38), 3) := by decide +kernel
theorem dX12_isSafe_43 : decode cX12_isSafe 43 = .ok (.iconst 1, 1) := by decide +kernel
theorem dX12_isSafe_44 : decode cX12_isSafe 44 = .ok (.ireturn, 1) := by decide +kernel
theorem dX12_columnStands_0 : decode cX12_columnStands 0 = .ok (.aload_n 0, 1) := by decide +kernel
theorem dX12_columnStands_1 : decode cX12_columnStands 1 = .ok (.iconst 0, 1) := by decide +kernel
theorem dX12_columnStands_2 : decode cX12_columnStands 2 = .ok (.putfield 229, 3) := by decide +kernel
theorem dX12_columnStands_5 : decode cX12_columnStands 5 = .ok (.aload_n 0, 1) := by decide +kernel
theorem dX12_columnStands_6 : decode cX12_columnStands 6 = .ok (.iconst 0, 1) := by decide +kernel
theorem dX12_columnStands_7 : decode cX12_columnStands 7 = .ok (.putfield 236, 3) := by decide +kernel
theorem dX12_columnStands_10 : decode cX12_columnStands 10 = .ok (.iconst 0, 1) := by decide +kernel
theorem dX12_columnStands_11 : decode cX12_columnStands 11 = .ok (.istore_n 3, 1) := by decide +kernel
theorem dX12_columnStands_12 : decode cX12_columnStands 12 = .ok (.iload_n 3, 1) := by decide +kernel
theorem dX12_columnStands_13 : decode cX12_columnStands 13 = .ok (.aload_n 0, 1) := by decide +kernel
theorem dX12_columnStands_14 : decode cX12_columnStands 14 = .ok (.getfield 219, 3) := by decide +kernel
theorem dX12_columnStands_17 : decode cX12_columnStands 17 = .ok (.if_icmp .ge 102, 3) := by decide +kernel
theorem dX12_columnStands_20 : decode cX12_columnStands 20 = .ok (.iload_n 2, 1) := by decide +kernel
theorem dX12_columnStands_21 : decode cX12_columnStands 21 = .ok (.iload_n 3, 1) := by decide +kernel
theorem dX12_columnStands_22 : decode cX12_columnStands 22 = .ok (.ishr, 1) := by decide +kernel
theorem dX12_columnStands_23 : decode cX12_columnStands 23 = .ok (.iconst 1, 1) := by decide +kernel
theorem dX12_columnStands_24 : decode cX12_columnStands 24 = .ok (.iand, 1) := by decide +kernel
theorem dX12_columnStands_25 : decode cX12_columnStands 25 = .ok (.iconst 1, 1) := by decide +kernel
theorem dX12_columnStands_26 : decode cX12_columnStands 26 = .ok (.if_icmp .ne 17, 3) := by decide +kernel
theorem dX12_columnStands_29 : decode cX12_columnStands 29 = .ok (.aload_n 0, 1) := by decide +kernel
theorem dX12_columnStands_30 : decode cX12_columnStands 30 = .ok (.getfield 122, 3) := by decide +kernel
theorem dX12_columnStands_33 : decode cX12_columnStands 33 = .ok (.iload_n 3, 1) := by decide +kernel
theorem dX12_columnStands_34 : decode cX12_columnStands 34 = .ok (.iaload, 1) := by decide +kernel
theorem dX12_columnStands_35 : decode cX12_columnStands 35 = .ok (.iload_n 1, 1) := by decide +kernel
theorem dX12_columnStands_36 : decode cX12_columnStands 36 = .ok (.if_icmp .ne 7, 3) := by decide +kernel
theorem dX12_columnStands_39 : decode cX12_columnStands 39 = .ok (.iconst 1, 1) := by decide +kernel
theorem dX12_columnStands_40 : decode cX12_columnStands 40 = .ok (.goto 4, 3) := by decide +kernel
theorem dX12_columnStands_43 : decode cX12_columnStands 43 = .ok (.iconst 0, 1) := by decide +kernel
theorem dX12_columnStands_44 : decode cX12_columnStands 44 = .ok (.istore 4, 2) := by decide +kernel
theorem dX12_columnStands_46 : decode cX12_columnStands 46 = .ok (.aload_n 0, 1) := by decide +kernel
theorem dX12_columnStands_47 : decode cX12_columnStands 47 = .ok (.dup, 1) := by decide +kernel
theorem dX12_columnStands_48 : decode cX12_columnStands 48 = .ok (.getfield 229, 3) := by decide +kernel
theorem dX12_columnStands_51 : decode cX12_columnStands 51 = .ok (.iload 4, 2) := by decide +kernel
theorem dX12_columnStands_53 : decode cX12_columnStands 53 = .ok (.ifCond .eq 21, 3) := by decide +kernel
theorem dX12_columnStands_56 : decode cX12_columnStands 56 = .ok (.aload_n 0, 1) := by decide +kernel
theorem dX12_columnStands_57 : decode cX12_columnStands 57 = .ok (.getfield 125, 3) := by decide +kernel
theorem dX12_columnStands_60 : decode cX12_columnStands 60 = .ok (.iload_n 3, 1) := by decide +kernel
theorem dX12_columnStands_61 : decode cX12_columnStands 61 = .ok (.iaload, 1) := by decide +kernel
theorem dX12_columnStands_62 : decode cX12_columnStands 62 = .ok (.ifCond .ne 12, 3) := by decide +kernel
theorem dX12_columnStands_65 : decode cX12_columnStands 65 = .ok (.aload_n 0, 1) := by decide +kernel
theorem dX12_columnStands_66 : decode cX12_columnStands 66 = .ok (.getfield 128, 3) := by decide +kernel
theorem dX12_columnStands_69 : decode cX12_columnStands 69 = .ok (.iload_n 3, 1) := by decide +kernel
theorem dX12_columnStands_70 : decode cX12_columnStands 70 = .ok (.iaload, 1) := by decide +kernel
theorem dX12_columnStands_71 : decode cX12_columnStands 71 = .ok (.goto 4, 3) := by decide +kernel
theorem dX12_columnStands_74 : decode cX12_columnStands 74 = .ok (.iconst 0, 1) := by decide +kernel
theorem dX12_columnStands_75 : decode cX12_columnStands 75 = .ok (.iadd, 1) := by decide +kernel
theorem dX12_columnStands_76 : decode cX12_columnStands 76 = .ok (.putfield 229, 3) := by decide +kernel
theorem dX12_columnStands_79 : decode cX12_columnStands 79 = .ok (.aload_n 0, 1) := by decide +kernel
theorem dX12_columnStands_80 : decode cX12_columnStands 80 = .ok (.dup, 1) := by decide +kernel
theorem dX12_columnStands_81 : decode cX12_columnStands 81 = .ok (.getfield 236, 3) := by decide +kernel
theorem dX12_columnStands_84 : decode cX12_columnStands 84 = .ok (.iload 4, 2) := by decide +kernel
theorem dX12_columnStands_86 : decode cX12_columnStands 86 = .ok (.ifCond .eq 22, 3) := by decide +kernel
theorem dX12_columnStands_89 : decode cX12_columnStands 89 = .ok (.aload_n 0, 1) := by decide +kernel
theorem dX12_columnStands_90 : decode cX12_columnStands 90 = .ok (.getfield 125, 3) := by decide +kernel
theorem dX12_columnStands_93 : decode cX12_columnStands 93 = .ok (.iload_n 3, 1) := by decide +kernel
theorem dX12_columnStands_94 : decode cX12_columnStands 94 = .ok (.iaload, 1) := by decide +kernel
theorem dX12_columnStands_95 : decode cX12_columnStands 95 = .ok (.iconst 1, 1) := by decide +kernel
theorem dX12_columnStands_96 : decode cX12_columnStands 96 = .ok (.if_icmp .ne 12, 3) := by decide +kernel
theorem dX12_columnStands_99 : decode cX12_columnStands 99 = .ok (.aload_n 0, 1) := by decide +kernel
theorem dX12_columnStands_100 : decode cX12_columnStands 100 = .ok (.getfield 128, 3) := by decide +kernel
theorem dX12_columnStands_103 : decode cX12_columnStands 103 = .ok (.iload_n 3, 1) := by decide +kernel
theorem dX12_columnStands_104 : decode cX12_columnStands 104 = .ok (.iaload, 1) := by decide +kernel
theorem dX12_columnStands_105 : decode cX12_columnStands 105 = .ok (.goto 4, 3) := by decide +kernel
theorem dX12_columnStands_108 : decode cX12_columnStands 108 = .ok (.iconst 0, 1) := by decide +kernel
theorem dX12_columnStands_109 : decode cX12_columnStands 109 = .ok (.iadd, 1) := by decide +kernel
theorem dX12_columnStands_110 : decode cX12_columnStands 110 = .ok (.putfield 236, 3) := by decide +kernel
theorem dX12_columnStands_113 : decode cX12_columnStands 113 = .ok (.iinc 3 1, 3) := by decide +kernel
theorem dX12_columnStands_116 : decode cX12_columnStands 116 = .ok (.goto (-104), 3) := by decide +kernel
theorem dX12_columnStands_119 : decode cX12_columnStands 119 = .ok (.aload_n 0, 1) := by decide +kernel
theorem dX12_columnStands_120 : decode cX12_columnStands 120 = .ok (.getfield 134, 3) := by decide +kernel
theorem dX12_columnStands_123 : decode cX12_columnStands 123 = .ok (.iload_n 1, 1) := by decide +kernel
theorem dX12_columnStands_124 : decode cX12_columnStands 124 = .ok (.iaload, 1) := by decide +kernel
theorem dX12_columnStands_125 : decode cX12_columnStands 125 = .ok (.aload_n 0, 1) := by decide +kernel
theorem dX12_columnStands_126 : decode cX12_columnStands 126 = .ok (.iload_n 1, 1) := by decide +kernel
theorem dX12_columnStands_127 : decode cX12_columnStands 127 = .ok (.invokevirtual 266, 3) := by decide +kernel
theorem dX12_columnStands_130 : decode cX12_columnStands 130 = .ok (.if_icmp .ge 74, 3) := by decide +kernel
theorem dX12_columnStands_133 : decode cX12_columnStands 133 = .ok (.aload_n 0, 1) := by decide +kernel
theorem dX12_columnStands_134 : decode cX12_columnStands 134 = .ok (.getfield 98, 3) := by decide +kernel
theorem dX12_columnStands_137 : decode cX12_columnStands 137 = .ok (.sipush 729, 3) := by decide +kernel
theorem dX12_columnStands_140 : decode cX12_columnStands 140 = .ok (.iload_n 1, 1) := by decide +kernel
theorem dX12_columnStands_141 : decode cX12_columnStands 141 = .ok (.imul, 1) := by decide +kernel
theorem dX12_columnStands_142 : decode cX12_columnStands 142 = .ok (.aload_n 0, 1) := by decide +kernel
theorem dX12_columnStands_143 : decode cX12_columnStands 143 = .ok (.getfield 134, 3) := by decide +kernel
theorem dX12_columnStands_146 : decode cX12_columnStands 146 = .ok (.iload_n 1, 1) := by decide +kernel
theorem dX12_columnStands_147 : decode cX12_columnStands 147 = .ok (.iaload, 1) := by decide +kernel
theorem dX12_columnStands_148 : decode cX12_columnStands 148 = .ok (.iadd, 1) := by decide +kernel
theorem dX12_columnStands_149 : decode cX12_columnStands 149 = .ok (.baload, 1) := by decide +kernel
theorem dX12_columnStands_150 : decode cX12_columnStands 150 = .ok (.ifCond .eq 54, 3) := by decide +kernel
theorem dX12_columnStands_153 : decode cX12_columnStands 153 = .ok (.aload_n 0, 1) := by decide +kernel
theorem dX12_columnStands_154 : decode cX12_columnStands 154 = .ok (.getfield 137, 3) := by decide +kernel
theorem dX12_columnStands_157 : decode cX12_columnStands 157 = .ok (.iload_n 1, 1) := by decide +kernel
theorem dX12_columnStands_158 : decode cX12_columnStands 158 = .ok (.iaload, 1) := by decide +kernel
theorem dX12_columnStands_159 : decode cX12_columnStands 159 = .ok (.aload_n 0, 1) := by decide +kernel
theorem dX12_columnStands_160 : decode cX12_columnStands 160 = .ok (.getfield 173, 3) := by decide +kernel
theorem dX12_columnStands_163 : decode cX12_columnStands 163 = .ok (.if_icmp .ge 41, 3) := by decide +kernel
theorem dX12_columnStands_166 : decode cX12_columnStands 166 = .ok (.aload_n 0, 1) := by decide +kernel
theorem dX12_columnStands_167 : decode cX12_columnStands 167 = .ok (.iload_n 1, 1) := by decide +kernel
theorem dX12_columnStands_168 : decode cX12_columnStands 168 = .ok (.aload_n 0, 1) := by decide +kernel
theorem dX12_columnStands_169 : decode cX12_columnStands 169 = .ok (.getfield 134, 3) := by decide +kernel
theorem dX12_columnStands_172 : decode cX12_columnStands 172 = .ok (.iload_n 1, 1) := by decide +kernel
theorem dX12_columnStands_173 : decode cX12_columnStands 173 = .ok (.iaload, 1) := by decide +kernel
theorem dX12_columnStands_174 : decode cX12_columnStands 174 = .ok (.invokevirtual 246, 3) := by decide +kernel
theorem dX12_columnStands_177 : decode cX12_columnStands 177 = .ok (.aload_n 0, 1) := by decide +kernel
theorem dX12_columnStands_178 : decode cX12_columnStands 178 = .ok (.iload_n 1, 1) := by decide +kernel
theorem dX12_columnStands_179 : decode cX12_columnStands 179 = .ok (.aload_n 0, 1) := by decide +kernel
theorem dX12_columnStands_180 : decode cX12_columnStands 180 = .ok (.getfield 137, 3) := by decide +kernel
theorem dX12_columnStands_183 : decode cX12_columnStands 183 = .ok (.iload_n 1, 1) := by decide +kernel
theorem dX12_columnStands_184 : decode cX12_columnStands 184 = .ok (.iaload, 1) := by decide +kernel
theorem dX12_columnStands_185 : decode cX12_columnStands 185 = .ok (.invokevirtual 249, 3) := by decide +kernel
theorem dX12_columnStands_188 : decode cX12_columnStands 188 = .ok (.aload_n 0, 1) := by decide +kernel
theorem dX12_columnStands_189 : decode cX12_columnStands 189 = .ok (.iload_n 1, 1) := by decide +kernel
theorem dX12_columnStands_190 : decode cX12_columnStands 190 = .ok (.aload_n 0, 1) := by decide +kernel
theorem dX12_columnStands_191 : decode cX12_columnStands 191 = .ok (.getfield 137, 3) := by decide +kernel
theorem dX12_columnStands_194 : decode cX12_columnStands 194 = .ok (.iload_n 1, 1) := by decide +kernel
theorem dX12_columnStands_195 : decode cX12_columnStands 195 = .ok (.iaload, 1) := by decide +kernel
theorem dX12_columnStands_196 : decode cX12_columnStands 196 = .ok (.invokevirtual 369, 3) := by decide +kernel
theorem dX12_columnStands_199 : decode cX12_columnStands 199 = .ok (.ifCond .ne 5, 3) := by decide +kernel
theorem dX12_columnStands_202 : decode cX12_columnStands 202 = .ok (.iconst 0, 1) := by decide +kernel
theorem dX12_columnStands_203 : decode cX12_columnStands 203 = .ok (.ireturn, 1) := by decide +kernel
theorem dX12_columnStands_204 : decode cX12_columnStands 204 = .ok (.iconst 0, 1) := by decide +kernel
theorem dX12_columnStands_205 : decode cX12_columnStands 205 = .ok (.istore_n 3, 1) := by decide +kernel
theorem dX12_columnStands_206 : decode cX12_columnStands 206 = .ok (.iload_n 3, 1) := by decide +kernel
theorem dX12_columnStands_207 : decode cX12_columnStands 207 = .ok (.aload_n 0, 1) := by decide +kernel
theorem dX12_columnStands_208 : decode cX12_columnStands 208 = .ok (.iload_n 1, 1) := by decide +kernel
theorem dX12_columnStands_209 : decode cX12_columnStands 209 = .ok (.invokevirtual 266, 3) := by decide +kernel
theorem dX12_columnStands_212 : decode cX12_columnStands 212 = .ok (.if_icmp .ge 82, 3) := by decide +kernel
theorem dX12_columnStands_215 : decode cX12_columnStands 215 = .ok (.iconst 0, 1) := by decide +kernel
theorem dX12_columnStands_216 : decode cX12_columnStands 216 = .ok (.istore 4, 2) := by decide +kernel
theorem dX12_columnStands_218 : decode cX12_columnStands 218 = .ok (.iload 4, 2) := by decide +kernel
theorem dX12_columnStands_220 : decode cX12_columnStands 220 = .ok (.aload_n 0, 1) := by decide +kernel
theorem dX12_columnStands_221 : decode cX12_columnStands 221 = .ok (.getfield 173, 3) := by decide +kernel
theorem dX12_columnStands_224 : decode cX12_columnStands 224 = .ok (.if_icmp .ge 64, 3) := by decide +kernel
theorem dX12_columnStands_227 : decode cX12_columnStands 227 = .ok (.aload_n 0, 1) := by decide +kernel
theorem dX12_columnStands_228 : decode cX12_columnStands 228 = .ok (.getfield 98, 3) := by decide +kernel
theorem dX12_columnStands_231 : decode cX12_columnStands 231 = .ok (.sipush 729, 3) := by decide +kernel
theorem dX12_columnStands_234 : decode cX12_columnStands 234 = .ok (.iload_n 1, 1) := by decide +kernel
theorem dX12_columnStands_235 : decode cX12_columnStands 235 = .ok (.imul, 1) := by decide +kernel
theorem dX12_columnStands_236 : decode cX12_columnStands 236 = .ok (.iload_n 3, 1) := by decide +kernel
theorem dX12_columnStands_237 : decode cX12_columnStands 237 = .ok (.iadd, 1) := by decide +kernel
theorem dX12_columnStands_238 : decode cX12_columnStands 238 = .ok (.baload, 1) := by decide +kernel
theorem dX12_columnStands_239 : decode cX12_columnStands 239 = .ok (.ifCond .eq 49, 3) := by decide +kernel
theorem dX12_columnStands_242 : decode cX12_columnStands 242 = .ok (.aload_n 0, 1) := by decide +kernel
theorem dX12_columnStands_243 : decode cX12_columnStands 243 = .ok (.iload_n 1, 1) := by decide +kernel
theorem dX12_columnStands_244 : decode cX12_columnStands 244 = .ok (.iload_n 3, 1) := by decide +kernel
theorem dX12_columnStands_245 : decode cX12_columnStands 245 = .ok (.invokevirtual 246, 3) := by decide +kernel
theorem dX12_columnStands_248 : decode cX12_columnStands 248 = .ok (.aload_n 0, 1) := by decide +kernel
theorem dX12_columnStands_249 : decode cX12_columnStands 249 = .ok (.iload_n 1, 1) := by decide +kernel
theorem dX12_columnStands_250 : decode cX12_columnStands 250 = .ok (.iload 4, 2) := by decide +kernel
theorem dX12_columnStands_252 : decode cX12_columnStands 252 = .ok (.invokevirtual 249, 3) := by decide +kernel
theorem dX12_columnStands_255 : decode cX12_columnStands 255 = .ok (.aload_n 0, 1) := by decide +kernel
theorem dX12_columnStands_256 : decode cX12_columnStands 256 = .ok (.iload_n 1, 1) := by decide +kernel
theorem dX12_columnStands_257 : decode cX12_columnStands 257 = .ok (.iload 4, 2) := by decide +kernel
theorem dX12_columnStands_259 : decode cX12_columnStands 259 = .ok (.invokevirtual 369, 3) := by decide +kernel
theorem dX12_columnStands_262 : decode cX12_columnStands 262 = .ok (.ifCond .ne 20, 3) := by decide +kernel
theorem dX12_columnStands_265 : decode cX12_columnStands 265 = .ok (.aload_n 0, 1) := by decide +kernel
theorem dX12_columnStands_266 : decode cX12_columnStands 266 = .ok (.getfield 134, 3) := by decide +kernel
theorem dX12_columnStands_269 : decode cX12_columnStands 269 = .ok (.iload_n 1, 1) := by decide +kernel
theorem dX12_columnStands_270 : decode cX12_columnStands 270 = .ok (.iload_n 3, 1) := by decide +kernel
theorem dX12_columnStands_271 : decode cX12_columnStands 271 = .ok (.iastore, 1) := by decide +kernel
theorem dX12_columnStands_272 : decode cX12_columnStands 272 = .ok (.aload_n 0, 1) := by decide +kernel
theorem dX12_columnStands_273 : decode cX12_columnStands 273 = .ok (.getfield 137, 3) := by decide +kernel
theorem dX12_columnStands_276 : decode cX12_columnStands 276 = .ok (.iload_n 1, 1) := by decide +kernel
theorem dX12_columnStands_277 : decode cX12_columnStands 277 = .ok (.iload 4, 2) := by decide +kernel
theorem dX12_columnStands_279 : decode cX12_columnStands 279 = .ok (.iastore, 1) := by decide +kernel
theorem dX12_columnStands_280 : decode cX12_columnStands 280 = .ok (.iconst 0, 1) := by decide +kernel
theorem dX12_columnStands_281 : decode cX12_columnStands 281 = .ok (.ireturn, 1) := by decide +kernel
theorem dX12_columnStands_282 : decode cX12_columnStands 282 = .ok (.iinc 4 1, 3) := by decide +kernel
theorem dX12_columnStands_285 : decode cX12_columnStands 285 = .ok (.goto (-67), 3) := by decide +kernel
theorem dX12_columnStands_288 : decode cX12_columnStands 288 = .ok (.iinc 3 1, 3) := by decide +kernel
theorem dX12_columnStands_291 : decode cX12_columnStands 291 = .ok (.goto (-85), 3) := by decide +kernel
theorem dX12_columnStands_294 : decode cX12_columnStands 294 = .ok (.iconst 1, 1) := by decide +kernel
theorem dX12_columnStands_295 : decode cX12_columnStands 295 = .ok (.ireturn, 1) := by decide +kernel
theorem dX12_lookAnew_0 : decode cX12_lookAnew 0 = .ok (.iconst 0, 1) := by decide +kernel
theorem dX12_lookAnew_1 : decode cX12_lookAnew 1 = .ok (.istore_n 1, 1) := by decide +kernel
theorem dX12_lookAnew_2 : decode cX12_lookAnew 2 = .ok (.iload_n 1, 1) := by decide +kernel
theorem dX12_lookAnew_3 : decode cX12_lookAnew 3 = .ok (.sipush 384, 3) := by decide +kernel
theorem dX12_lookAnew_6 : decode cX12_lookAnew 6 = .ok (.if_icmp .ge 16, 3) := by decide +kernel
theorem dX12_lookAnew_9 : decode cX12_lookAnew 9 = .ok (.aload_n 0, 1) := by decide +kernel
theorem dX12_lookAnew_10 : decode cX12_lookAnew 10 = .ok (.getfield 140, 3) := by decide +kernel
theorem dX12_lookAnew_13 : decode cX12_lookAnew 13 = .ok (.iload_n 1, 1) := by decide +kernel
theorem dX12_lookAnew_14 : decode cX12_lookAnew 14 = .ok (.iconst 0, 1) := by decide +kernel
theorem dX12_lookAnew_15 : decode cX12_lookAnew 15 = .ok (.iastore, 1) := by decide +kernel
theorem dX12_lookAnew_16 : decode cX12_lookAnew 16 = .ok (.iinc 1 1, 3) := by decide +kernel
theorem dX12_lookAnew_19 : decode cX12_lookAnew 19 = .ok (.goto (-17), 3) := by decide +kernel
theorem dX12_lookAnew_22 : decode cX12_lookAnew 22 = .ok (.return_, 1) := by decide +kernel
theorem dX12_allStand_0 : decode cX12_allStand 0 = .ok (.iconst 1, 1) := by decide +kernel
theorem dX12_allStand_1 : decode cX12_allStand 1 = .ok (.istore_n 2, 1) := by decide +kernel
theorem dX12_allStand_2 : decode cX12_allStand 2 = .ok (.iconst 0, 1) := by decide +kernel
theorem dX12_allStand_3 : decode cX12_allStand 3 = .ok (.istore_n 3, 1) := by decide +kernel
theorem dX12_allStand_4 : decode cX12_allStand 4 = .ok (.iload_n 3, 1) := by decide +kernel
theorem dX12_allStand_5 : decode cX12_allStand 5 = .ok (.bipush 6, 2) := by decide +kernel
theorem dX12_allStand_7 : decode cX12_allStand 7 = .ok (.if_icmp .ge 125, 3) := by decide +kernel
theorem dX12_allStand_10 : decode cX12_allStand 10 = .ok (.iload_n 2, 1) := by decide +kernel
theorem dX12_allStand_11 : decode cX12_allStand 11 = .ok (.ifCond .eq 121, 3) := by decide +kernel
theorem dX12_allStand_14 : decode cX12_allStand 14 = .ok (.iconst 0, 1) := by decide +kernel
theorem dX12_allStand_15 : decode cX12_allStand 15 = .ok (.istore 4, 2) := by decide +kernel
theorem dX12_allStand_17 : decode cX12_allStand 17 = .ok (.iconst 0, 1) := by decide +kernel
theorem dX12_allStand_18 : decode cX12_allStand 18 = .ok (.istore 5, 2) := by decide +kernel
theorem dX12_allStand_20 : decode cX12_allStand 20 = .ok (.iload 5, 2) := by decide +kernel
theorem dX12_allStand_22 : decode cX12_allStand 22 = .ok (.aload_n 0, 1) := by decide +kernel
theorem dX12_allStand_23 : decode cX12_allStand 23 = .ok (.getfield 219, 3) := by decide +kernel
theorem dX12_allStand_26 : decode cX12_allStand 26 = .ok (.if_icmp .ge 35, 3) := by decide +kernel
theorem dX12_allStand_29 : decode cX12_allStand 29 = .ok (.iload 4, 2) := by decide +kernel
theorem dX12_allStand_31 : decode cX12_allStand 31 = .ok (.aload_n 0, 1) := by decide +kernel
theorem dX12_allStand_32 : decode cX12_allStand 32 = .ok (.getfield 122, 3) := by decide +kernel
theorem dX12_allStand_35 : decode cX12_allStand 35 = .ok (.iload 5, 2) := by decide +kernel
theorem dX12_allStand_37 : decode cX12_allStand 37 = .ok (.iaload, 1) := by decide +kernel
theorem dX12_allStand_38 : decode cX12_allStand 38 = .ok (.iload_n 3, 1) := by decide +kernel
theorem dX12_allStand_39 : decode cX12_allStand 39 = .ok (.if_icmp .ne 12, 3) := by decide +kernel
theorem dX12_allStand_42 : decode cX12_allStand 42 = .ok (.iload_n 1, 1) := by decide +kernel
theorem dX12_allStand_43 : decode cX12_allStand 43 = .ok (.iconst 1, 1) := by decide +kernel
theorem dX12_allStand_44 : decode cX12_allStand 44 = .ok (.iload 5, 2) := by decide +kernel
theorem dX12_allStand_46 : decode cX12_allStand 46 = .ok (.ishl, 1) := by decide +kernel
theorem dX12_allStand_47 : decode cX12_allStand 47 = .ok (.iand, 1) := by decide +kernel
theorem dX12_allStand_48 : decode cX12_allStand 48 = .ok (.goto 4, 3) := by decide +kernel
theorem dX12_allStand_51 : decode cX12_allStand 51 = .ok (.iconst 0, 1) := by decide +kernel
theorem dX12_allStand_52 : decode cX12_allStand 52 = .ok (.ior, 1) := by decide +kernel
theorem dX12_allStand_53 : decode cX12_allStand 53 = .ok (.istore 4, 2) := by decide +kernel
theorem dX12_allStand_55 : decode cX12_allStand 55 = .ok (.iinc 5 1, 3) := by decide +kernel
theorem dX12_allStand_58 : decode cX12_allStand 58 = .ok (.goto (-38), 3) := by decide +kernel
theorem dX12_allStand_61 : decode cX12_allStand 61 = .ok (.bipush 64, 2) := by decide +kernel
theorem dX12_allStand_63 : decode cX12_allStand 63 = .ok (.iload_n 3, 1) := by decide +kernel
theorem dX12_allStand_64 : decode cX12_allStand 64 = .ok (.imul, 1) := by decide +kernel
theorem dX12_allStand_65 : decode cX12_allStand 65 = .ok (.iload 4, 2) := by decide +kernel
theorem dX12_allStand_67 : decode cX12_allStand 67 = .ok (.iadd, 1) := by decide +kernel
theorem dX12_allStand_68 : decode cX12_allStand 68 = .ok (.istore 5, 2) := by decide +kernel
theorem dX12_allStand_70 : decode cX12_allStand 70 = .ok (.aload_n 0, 1) := by decide +kernel
theorem dX12_allStand_71 : decode cX12_allStand 71 = .ok (.iload_n 3, 1) := by decide +kernel
theorem dX12_allStand_72 : decode cX12_allStand 72 = .ok (.invokevirtual 366, 3) := by decide +kernel
theorem dX12_allStand_75 : decode cX12_allStand 75 = .ok (.ifCond .eq 34, 3) := by decide +kernel
theorem dX12_allStand_78 : decode cX12_allStand 78 = .ok (.aload_n 0, 1) := by decide +kernel
theorem dX12_allStand_79 : decode cX12_allStand 79 = .ok (.getfield 140, 3) := by decide +kernel
theorem dX12_allStand_82 : decode cX12_allStand 82 = .ok (.iload 5, 2) := by decide +kernel
theorem dX12_allStand_84 : decode cX12_allStand 84 = .ok (.iaload, 1) := by decide +kernel
theorem dX12_allStand_85 : decode cX12_allStand 85 = .ok (.ifCond .ne 24, 3) := by decide +kernel
theorem dX12_allStand_88 : decode cX12_allStand 88 = .ok (.aload_n 0, 1) := by decide +kernel
theorem dX12_allStand_89 : decode cX12_allStand 89 = .ok (.getfield 140, 3) := by decide +kernel
theorem dX12_allStand_92 : decode cX12_allStand 92 = .ok (.iload 5, 2) := by decide +kernel
theorem dX12_allStand_94 : decode cX12_allStand 94 = .ok (.aload_n 0, 1) := by decide +kernel
theorem dX12_allStand_95 : decode cX12_allStand 95 = .ok (.iload_n 3, 1) := by decide +kernel
theorem dX12_allStand_96 : decode cX12_allStand 96 = .ok (.iload_n 1, 1) := by decide +kernel
theorem dX12_allStand_97 : decode cX12_allStand 97 = .ok (.invokevirtual 372, 3) := by decide +kernel
theorem dX12_allStand_100 : decode cX12_allStand 100 = .ok (.ifCond .eq 7, 3) := by decide +kernel
theorem dX12_allStand_103 : decode cX12_allStand 103 = .ok (.iconst 1, 1) := by decide +kernel
theorem dX12_allStand_104 : decode cX12_allStand 104 = .ok (.goto 4, 3) := by decide +kernel
theorem dX12_allStand_107 : decode cX12_allStand 107 = .ok (.iconst 2, 1) := by decide +kernel
theorem dX12_allStand_108 : decode cX12_allStand 108 = .ok (.iastore, 1) := by decide +kernel
theorem dX12_allStand_109 : decode cX12_allStand 109 = .ok (.aload_n 0, 1) := by decide +kernel
theorem dX12_allStand_110 : decode cX12_allStand 110 = .ok (.getfield 140, 3) := by decide +kernel
theorem dX12_allStand_113 : decode cX12_allStand 113 = .ok (.iload 5, 2) := by decide +kernel
theorem dX12_allStand_115 : decode cX12_allStand 115 = .ok (.iaload, 1) := by decide +kernel
theorem dX12_allStand_116 : decode cX12_allStand 116 = .ok (.iconst 2, 1) := by decide +kernel
theorem dX12_allStand_117 : decode cX12_allStand 117 = .ok (.if_icmp .eq 7, 3) := by decide +kernel
theorem dX12_allStand_120 : decode cX12_allStand 120 = .ok (.iconst 1, 1) := by decide +kernel
theorem dX12_allStand_121 : decode cX12_allStand 121 = .ok (.goto 4, 3) := by decide +kernel
theorem dX12_allStand_124 : decode cX12_allStand 124 = .ok (.iconst 0, 1) := by decide +kernel
theorem dX12_allStand_125 : decode cX12_allStand 125 = .ok (.istore_n 2, 1) := by decide +kernel
theorem dX12_allStand_126 : decode cX12_allStand 126 = .ok (.iinc 3 1, 3) := by decide +kernel
theorem dX12_allStand_129 : decode cX12_allStand 129 = .ok (.goto (-125), 3) := by decide +kernel
theorem dX12_allStand_132 : decode cX12_allStand 132 = .ok (.iload_n 2, 1) := by decide +kernel
theorem dX12_allStand_133 : decode cX12_allStand 133 = .ok (.ireturn, 1) := by decide +kernel
theorem dX12_stands_0 : decode cX12_stands 0 = .ok (.iload_n 1, 1) := by decide +kernel
theorem dX12_stands_1 : decode cX12_stands 1 = .ok (.i2l, 1) := by decide +kernel
theorem dX12_stands_2 : decode cX12_stands 2 = .ok (.lconst 0, 1) := by decide +kernel
theorem dX12_stands_3 : decode cX12_stands 3 = .ok (.iconst 1, 1) := by decide +kernel
theorem dX12_stands_4 : decode cX12_stands 4 = .ok (.aload_n 0, 1) := by decide +kernel
theorem dX12_stands_5 : decode cX12_stands 5 = .ok (.getfield 219, 3) := by decide +kernel
theorem dX12_stands_8 : decode cX12_stands 8 = .ok (.ishl, 1) := by decide +kernel
theorem dX12_stands_9 : decode cX12_stands 9 = .ok (.iconst 1, 1) := by decide +kernel
theorem dX12_stands_10 : decode cX12_stands 10 = .ok (.isub, 1) := by decide +kernel
theorem dX12_stands_11 : decode cX12_stands 11 = .ok (.i2l, 1) := by decide +kernel
theorem dX12_stands_12 : decode cX12_stands 12 = .ok (.invokestatic 165, 3) := by decide +kernel
theorem dX12_stands_15 : decode cX12_stands 15 = .ok (.ifCond .ne 7, 3) := by decide +kernel
theorem dX12_stands_18 : decode cX12_stands 18 = .ok (.sipush (-1001), 3) := by decide +kernel
theorem dX12_stands_21 : decode cX12_stands 21 = .ok (.ireturn, 1) := by decide +kernel
theorem dX12_stands_22 : decode cX12_stands 22 = .ok (.aload_n 0, 1) := by decide +kernel
theorem dX12_stands_23 : decode cX12_stands 23 = .ok (.invokevirtual 375, 3) := by decide +kernel
theorem dX12_stands_26 : decode cX12_stands 26 = .ok (.ifCond .ne 7, 3) := by decide +kernel
theorem dX12_stands_29 : decode cX12_stands 29 = .ok (.sipush (-1005), 3) := by decide +kernel
theorem dX12_stands_32 : decode cX12_stands 32 = .ok (.ireturn, 1) := by decide +kernel
theorem dX12_stands_33 : decode cX12_stands 33 = .ok (.aload_n 0, 1) := by decide +kernel
theorem dX12_stands_34 : decode cX12_stands 34 = .ok (.invokevirtual 379, 3) := by decide +kernel
theorem dX12_stands_37 : decode cX12_stands 37 = .ok (.aload_n 0, 1) := by decide +kernel
theorem dX12_stands_38 : decode cX12_stands 38 = .ok (.iload_n 1, 1) := by decide +kernel
theorem dX12_stands_39 : decode cX12_stands 39 = .ok (.invokevirtual 382, 3) := by decide +kernel
theorem dX12_stands_42 : decode cX12_stands 42 = .ok (.ifCond .eq 7, 3) := by decide +kernel
theorem dX12_stands_45 : decode cX12_stands 45 = .ok (.iconst 1, 1) := by decide +kernel
theorem dX12_stands_46 : decode cX12_stands 46 = .ok (.goto 4, 3) := by decide +kernel
theorem dX12_stands_49 : decode cX12_stands 49 = .ok (.iconst 0, 1) := by decide +kernel
theorem dX12_stands_50 : decode cX12_stands 50 = .ok (.ireturn, 1) := by decide +kernel
theorem dX12_priceOf_0 : decode cX12_priceOf 0 = .ok (.iconst 0, 1) := by decide +kernel
theorem dX12_priceOf_1 : decode cX12_priceOf 1 = .ok (.istore_n 2, 1) := by decide +kernel
theorem dX12_priceOf_2 : decode cX12_priceOf 2 = .ok (.iconst 0, 1) := by decide +kernel
theorem dX12_priceOf_3 : decode cX12_priceOf 3 = .ok (.istore_n 3, 1) := by decide +kernel
theorem dX12_priceOf_4 : decode cX12_priceOf 4 = .ok (.iload_n 3, 1) := by decide +kernel
theorem dX12_priceOf_5 : decode cX12_priceOf 5 = .ok (.aload_n 0, 1) := by decide +kernel
theorem dX12_priceOf_6 : decode cX12_priceOf 6 = .ok (.getfield 219, 3) := by decide +kernel
theorem dX12_priceOf_9 : decode cX12_priceOf 9 = .ok (.if_icmp .ge 24, 3) := by decide +kernel
theorem dX12_priceOf_12 : decode cX12_priceOf 12 = .ok (.iload_n 2, 1) := by decide +kernel
theorem dX12_priceOf_13 : decode cX12_priceOf 13 = .ok (.iload_n 1, 1) := by decide +kernel
theorem dX12_priceOf_14 : decode cX12_priceOf 14 = .ok (.iload_n 3, 1) := by decide +kernel
theorem dX12_priceOf_15 : decode cX12_priceOf 15 = .ok (.ishr, 1) := by decide +kernel
theorem dX12_priceOf_16 : decode cX12_priceOf 16 = .ok (.iconst 1, 1) := by decide +kernel
theorem dX12_priceOf_17 : decode cX12_priceOf 17 = .ok (.iand, 1) := by decide +kernel
theorem dX12_priceOf_18 : decode cX12_priceOf 18 = .ok (.aload_n 0, 1) := by decide +kernel
theorem dX12_priceOf_19 : decode cX12_priceOf 19 = .ok (.getfield 131, 3) := by decide +kernel
theorem dX12_priceOf_22 : decode cX12_priceOf 22 = .ok (.iload_n 3, 1) := by decide +kernel
theorem dX12_priceOf_23 : decode cX12_priceOf 23 = .ok (.iaload, 1) := by decide +kernel
theorem dX12_priceOf_24 : decode cX12_priceOf 24 = .ok (.imul, 1) := by decide +kernel
theorem dX12_priceOf_25 : decode cX12_priceOf 25 = .ok (.iadd, 1) := by decide +kernel
theorem dX12_priceOf_26 : decode cX12_priceOf 26 = .ok (.istore_n 2, 1) := by decide +kernel
theorem dX12_priceOf_27 : decode cX12_priceOf 27 = .ok (.iinc 3 1, 3) := by decide +kernel
theorem dX12_priceOf_30 : decode cX12_priceOf 30 = .ok (.goto (-26), 3) := by decide +kernel
theorem dX12_priceOf_33 : decode cX12_priceOf 33 = .ok (.iload_n 2, 1) := by decide +kernel
theorem dX12_priceOf_34 : decode cX12_priceOf 34 = .ok (.ireturn, 1) := by decide +kernel
theorem dX12_plan_0 : decode cX12_plan 0 = .ok (.iload_n 1, 1) := by decide +kernel
theorem dX12_plan_1 : decode cX12_plan 1 = .ok (.i2l, 1) := by decide +kernel
theorem dX12_plan_2 : decode cX12_plan 2 = .ok (.lconst 0, 1) := by decide +kernel
theorem dX12_plan_3 : decode cX12_plan 3 = .ok (.lconst 1, 1) := by decide +kernel
theorem dX12_plan_4 : decode cX12_plan 4 = .ok (.invokestatic 165, 3) := by decide +kernel
theorem dX12_plan_7 : decode cX12_plan 7 = .ok (.ifCond .ne 7, 3) := by decide +kernel
theorem dX12_plan_10 : decode cX12_plan 10 = .ok (.sipush (-1002), 3) := by decide +kernel
theorem dX12_plan_13 : decode cX12_plan 13 = .ok (.ireturn, 1) := by decide +kernel
theorem dX12_plan_14 : decode cX12_plan 14 = .ok (.aload_n 0, 1) := by decide +kernel
theorem dX12_plan_15 : decode cX12_plan 15 = .ok (.invokevirtual 375, 3) := by decide +kernel
theorem dX12_plan_18 : decode cX12_plan 18 = .ok (.ifCond .ne 7, 3) := by decide +kernel
theorem dX12_plan_21 : decode cX12_plan 21 = .ok (.sipush (-1005), 3) := by decide +kernel
theorem dX12_plan_24 : decode cX12_plan 24 = .ok (.ireturn, 1) := by decide +kernel
theorem dX12_plan_25 : decode cX12_plan 25 = .ok (.aload_n 0, 1) := by decide +kernel
theorem dX12_plan_26 : decode cX12_plan 26 = .ok (.invokevirtual 379, 3) := by decide +kernel
theorem dX12_plan_29 : decode cX12_plan 29 = .ok (.iconst (-1), 1) := by decide +kernel
theorem dX12_plan_30 : decode cX12_plan 30 = .ok (.istore_n 2, 1) := by decide +kernel
theorem dX12_plan_31 : decode cX12_plan 31 = .ok (.iconst 0, 1) := by decide +kernel
theorem dX12_plan_32 : decode cX12_plan 32 = .ok (.istore_n 3, 1) := by decide +kernel
theorem dX12_plan_33 : decode cX12_plan 33 = .ok (.iload_n 3, 1) := by decide +kernel
theorem dX12_plan_34 : decode cX12_plan 34 = .ok (.iconst 1, 1) := by decide +kernel
theorem dX12_plan_35 : decode cX12_plan 35 = .ok (.aload_n 0, 1) := by decide +kernel
theorem dX12_plan_36 : decode cX12_plan 36 = .ok (.getfield 219, 3) := by decide +kernel
theorem dX12_plan_39 : decode cX12_plan 39 = .ok (.ishl, 1) := by decide +kernel
theorem dX12_plan_40 : decode cX12_plan 40 = .ok (.if_icmp .ge 52, 3) := by decide +kernel
theorem dX12_plan_43 : decode cX12_plan 43 = .ok (.iload_n 2, 1) := by decide +kernel
theorem dX12_plan_44 : decode cX12_plan 44 = .ok (.ifCond .lt 16, 3) := by decide +kernel
theorem dX12_plan_47 : decode cX12_plan 47 = .ok (.aload_n 0, 1) := by decide +kernel
theorem dX12_plan_48 : decode cX12_plan 48 = .ok (.iload_n 3, 1) := by decide +kernel
theorem dX12_plan_49 : decode cX12_plan 49 = .ok (.invokevirtual 385, 3) := by decide +kernel
theorem dX12_plan_52 : decode cX12_plan 52 = .ok (.aload_n 0, 1) := by decide +kernel
theorem dX12_plan_53 : decode cX12_plan 53 = .ok (.iload_n 2, 1) := by decide +kernel
theorem dX12_plan_54 : decode cX12_plan 54 = .ok (.invokevirtual 385, 3) := by decide +kernel
theorem dX12_plan_57 : decode cX12_plan 57 = .ok (.if_icmp .ge 7, 3) := by decide +kernel
theorem dX12_plan_60 : decode cX12_plan 60 = .ok (.iconst 1, 1) := by decide +kernel
theorem dX12_plan_61 : decode cX12_plan 61 = .ok (.goto 4, 3) := by decide +kernel
theorem dX12_plan_64 : decode cX12_plan 64 = .ok (.iconst 0, 1) := by decide +kernel
theorem dX12_plan_65 : decode cX12_plan 65 = .ok (.istore 4, 2) := by decide +kernel
theorem dX12_plan_67 : decode cX12_plan 67 = .ok (.iload 4, 2) := by decide +kernel
theorem dX12_plan_69 : decode cX12_plan 69 = .ok (.ifCond .eq 15, 3) := by decide +kernel
theorem dX12_plan_72 : decode cX12_plan 72 = .ok (.aload_n 0, 1) := by decide +kernel
theorem dX12_plan_73 : decode cX12_plan 73 = .ok (.iload_n 3, 1) := by decide +kernel
theorem dX12_plan_74 : decode cX12_plan 74 = .ok (.invokevirtual 382, 3) := by decide +kernel
theorem dX12_plan_77 : decode cX12_plan 77 = .ok (.ifCond .eq 7, 3) := by decide +kernel
theorem dX12_plan_80 : decode cX12_plan 80 = .ok (.iload_n 3, 1) := by decide +kernel
theorem dX12_plan_81 : decode cX12_plan 81 = .ok (.goto 4, 3) := by decide +kernel
theorem dX12_plan_84 : decode cX12_plan 84 = .ok (.iload_n 2, 1) := by decide +kernel
theorem dX12_plan_85 : decode cX12_plan 85 = .ok (.istore_n 2, 1) := by decide +kernel
theorem dX12_plan_86 : decode cX12_plan 86 = .ok (.iinc 3 1, 3) := by decide +kernel
theorem dX12_plan_89 : decode cX12_plan 89 = .ok (.goto (-56), 3) := by decide +kernel
theorem dX12_plan_92 : decode cX12_plan 92 = .ok (.iload_n 2, 1) := by decide +kernel
theorem dX12_plan_93 : decode cX12_plan 93 = .ok (.ifCond .ge 7, 3) := by decide +kernel
theorem dX12_plan_96 : decode cX12_plan 96 = .ok (.iconst (-1), 1) := by decide +kernel
theorem dX12_plan_97 : decode cX12_plan 97 = .ok (.goto 16, 3) := by decide +kernel
theorem dX12_plan_100 : decode cX12_plan 100 = .ok (.iload_n 1, 1) := by decide +kernel
theorem dX12_plan_101 : decode cX12_plan 101 = .ok (.ifCond .ne 7, 3) := by decide +kernel
theorem dX12_plan_104 : decode cX12_plan 104 = .ok (.iload_n 2, 1) := by decide +kernel
theorem dX12_plan_105 : decode cX12_plan 105 = .ok (.goto 8, 3) := by decide +kernel
theorem dX12_plan_108 : decode cX12_plan 108 = .ok (.aload_n 0, 1) := by decide +kernel
theorem dX12_plan_109 : decode cX12_plan 109 = .ok (.iload_n 2, 1) := by decide +kernel
theorem dX12_plan_110 : decode cX12_plan 110 = .ok (.invokevirtual 385, 3) := by decide +kernel
theorem dX12_plan_113 : decode cX12_plan 113 = .ok (.ireturn, 1) := by decide +kernel
theorem dX12_goColumn_0 : decode cX12_goColumn 0 = .ok (.aload_n 0, 1) := by decide +kernel
theorem dX12_goColumn_1 : decode cX12_goColumn 1 = .ok (.invokevirtual 243, 3) := by decide +kernel
theorem dX12_goColumn_4 : decode cX12_goColumn 4 = .ok (.aload_n 0, 1) := by decide +kernel
theorem dX12_goColumn_5 : decode cX12_goColumn 5 = .ok (.invokevirtual 295, 3) := by decide +kernel
theorem dX12_goColumn_8 : decode cX12_goColumn 8 = .ok (.iconst 0, 1) := by decide +kernel
theorem dX12_goColumn_9 : decode cX12_goColumn 9 = .ok (.istore_n 3, 1) := by decide +kernel
theorem dX12_goColumn_10 : decode cX12_goColumn 10 = .ok (.iload_n 3, 1) := by decide +kernel
theorem dX12_goColumn_11 : decode cX12_goColumn 11 = .ok (.aload_n 0, 1) := by decide +kernel
theorem dX12_goColumn_12 : decode cX12_goColumn 12 = .ok (.getfield 213, 3) := by decide +kernel
theorem dX12_goColumn_15 : decode cX12_goColumn 15 = .ok (.if_icmp .ge 16, 3) := by decide +kernel
theorem dX12_goColumn_18 : decode cX12_goColumn 18 = .ok (.aload_n 0, 1) := by decide +kernel
theorem dX12_goColumn_19 : decode cX12_goColumn 19 = .ok (.getfield 143, 3) := by decide +kernel
theorem dX12_goColumn_22 : decode cX12_goColumn 22 = .ok (.iload_n 3, 1) := by decide +kernel
theorem dX12_goColumn_23 : decode cX12_goColumn 23 = .ok (.lconst 0, 1) := by decide +kernel
theorem dX12_goColumn_24 : decode cX12_goColumn 24 = .ok (.lastore, 1) := by decide +kernel
theorem dX12_goColumn_25 : decode cX12_goColumn 25 = .ok (.iinc 3 1, 3) := by decide +kernel
theorem dX12_goColumn_28 : decode cX12_goColumn 28 = .ok (.goto (-18), 3) := by decide +kernel
theorem dX12_goColumn_31 : decode cX12_goColumn 31 = .ok (.iconst 0, 1) := by decide +kernel
theorem dX12_goColumn_32 : decode cX12_goColumn 32 = .ok (.istore_n 3, 1) := by decide +kernel
theorem dX12_goColumn_33 : decode cX12_goColumn 33 = .ok (.iload_n 3, 1) := by decide +kernel
theorem dX12_goColumn_34 : decode cX12_goColumn 34 = .ok (.aload_n 0, 1) := by decide +kernel
theorem dX12_goColumn_35 : decode cX12_goColumn 35 = .ok (.iload_n 1, 1) := by decide +kernel
theorem dX12_goColumn_36 : decode cX12_goColumn 36 = .ok (.invokevirtual 266, 3) := by decide +kernel
theorem dX12_goColumn_39 : decode cX12_goColumn 39 = .ok (.if_icmp .ge 112, 3) := by decide +kernel
theorem dX12_goColumn_42 : decode cX12_goColumn 42 = .ok (.aload_n 0, 1) := by decide +kernel
theorem dX12_goColumn_43 : decode cX12_goColumn 43 = .ok (.getfield 98, 3) := by decide +kernel
theorem dX12_goColumn_46 : decode cX12_goColumn 46 = .ok (.sipush 729, 3) := by decide +kernel
theorem dX12_goColumn_49 : decode cX12_goColumn 49 = .ok (.iload_n 1, 1) := by decide +kernel
theorem dX12_goColumn_50 : decode cX12_goColumn 50 = .ok (.imul, 1) := by decide +kernel
theorem dX12_goColumn_51 : decode cX12_goColumn 51 = .ok (.iload_n 3, 1) := by decide +kernel
theorem dX12_goColumn_52 : decode cX12_goColumn 52 = .ok (.iadd, 1) := by decide +kernel
theorem dX12_goColumn_53 : decode cX12_goColumn 53 = .ok (.baload, 1) := by decide +kernel
theorem dX12_goColumn_54 : decode cX12_goColumn 54 = .ok (.ifCond .eq 91, 3) := by decide +kernel
theorem dX12_goColumn_57 : decode cX12_goColumn 57 = .ok (.aload_n 0, 1) := by decide +kernel
theorem dX12_goColumn_58 : decode cX12_goColumn 58 = .ok (.iload_n 1, 1) := by decide +kernel
theorem dX12_goColumn_59 : decode cX12_goColumn 59 = .ok (.iload_n 3, 1) := by decide +kernel
theorem dX12_goColumn_60 : decode cX12_goColumn 60 = .ok (.invokevirtual 246, 3) := by decide +kernel
theorem dX12_goColumn_63 : decode cX12_goColumn 63 = .ok (.aload_n 0, 1) := by decide +kernel
theorem dX12_goColumn_64 : decode cX12_goColumn 64 = .ok (.iload_n 1, 1) := by decide +kernel
theorem dX12_goColumn_65 : decode cX12_goColumn 65 = .ok (.iload_n 2, 1) := by decide +kernel
theorem dX12_goColumn_66 : decode cX12_goColumn 66 = .ok (.invokevirtual 249, 3) := by decide +kernel
theorem dX12_goColumn_69 : decode cX12_goColumn 69 = .ok (.aload_n 0, 1) := by decide +kernel
theorem dX12_goColumn_70 : decode cX12_goColumn 70 = .ok (.dup, 1) := by decide +kernel
theorem dX12_goColumn_71 : decode cX12_goColumn 71 = .ok (.getfield 282, 3) := by decide +kernel
theorem dX12_goColumn_74 : decode cX12_goColumn 74 = .ok (.aload_n 0, 1) := by decide +kernel
theorem dX12_goColumn_75 : decode cX12_goColumn 75 = .ok (.getfield 225, 3) := by decide +kernel
theorem dX12_goColumn_78 : decode cX12_goColumn 78 = .ok (.ladd, 1) := by decide +kernel
theorem dX12_goColumn_79 : decode cX12_goColumn 79 = .ok (.putfield 282, 3) := by decide +kernel
theorem dX12_goColumn_82 : decode cX12_goColumn 82 = .ok (.iconst 0, 1) := by decide +kernel
theorem dX12_goColumn_83 : decode cX12_goColumn 83 = .ok (.istore 4, 2) := by decide +kernel
theorem dX12_goColumn_85 : decode cX12_goColumn 85 = .ok (.iload 4, 2) := by decide +kernel
theorem dX12_goColumn_87 : decode cX12_goColumn 87 = .ok (.aload_n 0, 1) := by decide +kernel
theorem dX12_goColumn_88 : decode cX12_goColumn 88 = .ok (.getfield 213, 3) := by decide +kernel
theorem dX12_goColumn_91 : decode cX12_goColumn 91 = .ok (.if_icmp .ge 54, 3) := by decide +kernel
theorem dX12_goColumn_94 : decode cX12_goColumn 94 = .ok (.aload_n 0, 1) := by decide +kernel
theorem dX12_goColumn_95 : decode cX12_goColumn 95 = .ok (.getfield 143, 3) := by decide +kernel
theorem dX12_goColumn_98 : decode cX12_goColumn 98 = .ok (.iload 4, 2) := by decide +kernel
theorem dX12_goColumn_100 : decode cX12_goColumn 100 = .ok (.dup2, 1) := by decide +kernel
theorem dX12_goColumn_101 : decode cX12_goColumn 101 = .ok (.laload, 1) := by decide +kernel
theorem dX12_goColumn_102 : decode cX12_goColumn 102 = .ok (.aload_n 0, 1) := by decide +kernel
theorem dX12_goColumn_103 : decode cX12_goColumn 103 = .ok (.getfield 101, 3) := by decide +kernel
theorem dX12_goColumn_106 : decode cX12_goColumn 106 = .ok (.iload 4, 2) := by decide +kernel
theorem dX12_goColumn_108 : decode cX12_goColumn 108 = .ok (.iaload, 1) := by decide +kernel
theorem dX12_goColumn_109 : decode cX12_goColumn 109 = .ok (.iload_n 1, 1) := by decide +kernel
theorem dX12_goColumn_110 : decode cX12_goColumn 110 = .ok (.if_icmp .ne 26, 3) := by decide +kernel
theorem dX12_goColumn_113 : decode cX12_goColumn 113 = .ok (.aload_n 0, 1) := by decide +kernel
theorem dX12_goColumn_114 : decode cX12_goColumn 114 = .ok (.iload 4, 2) := by decide +kernel
theorem dX12_goColumn_116 : decode cX12_goColumn 116 = .ok (.invokevirtual 325, 3) := by decide +kernel
theorem dX12_goColumn_119 : decode cX12_goColumn 119 = .ok (.aload_n 0, 1) := by decide +kernel
theorem dX12_goColumn_120 : decode cX12_goColumn 120 = .ok (.getfield 43, 3) := by decide +kernel
theorem dX12_goColumn_123 : decode cX12_goColumn 123 = .ok (.bipush 23, 2) := by decide +kernel
theorem dX12_goColumn_125 : decode cX12_goColumn 125 = .ok (.iaload, 1) := by decide +kernel
theorem dX12_goColumn_126 : decode cX12_goColumn 126 = .ok (.if_icmp .lt 10, 3) := by decide +kernel
theorem dX12_goColumn_129 : decode cX12_goColumn 129 = .ok (.aload_n 0, 1) := by decide +kernel
theorem dX12_goColumn_130 : decode cX12_goColumn 130 = .ok (.getfield 225, 3) := by decide +kernel
theorem dX12_goColumn_133 : decode cX12_goColumn 133 = .ok (.goto 4, 3) := by decide +kernel
theorem dX12_goColumn_136 : decode cX12_goColumn 136 = .ok (.lconst 0, 1) := by decide +kernel
theorem dX12_goColumn_137 : decode cX12_goColumn 137 = .ok (.ladd, 1) := by decide +kernel
theorem dX12_goColumn_138 : decode cX12_goColumn 138 = .ok (.lastore, 1) := by decide +kernel
theorem dX12_goColumn_139 : decode cX12_goColumn 139 = .ok (.iinc 4 1, 3) := by decide +kernel
theorem dX12_goColumn_142 : decode cX12_goColumn 142 = .ok (.goto (-57), 3) := by decide +kernel
theorem dX12_goColumn_145 : decode cX12_goColumn 145 = .ok (.iinc 3 1, 3) := by decide +kernel
theorem dX12_goColumn_148 : decode cX12_goColumn 148 = .ok (.goto (-115), 3) := by decide +kernel
theorem dX12_goColumn_151 : decode cX12_goColumn 151 = .ok (.return_, 1) := by decide +kernel
theorem dX12_loss_0 : decode cX12_loss 0 = .ok (.aload_n 0, 1) := by decide +kernel
theorem dX12_loss_1 : decode cX12_loss 1 = .ok (.invokevirtual 375, 3) := by decide +kernel
theorem dX12_loss_4 : decode cX12_loss 4 = .ok (.ifCond .ne 7, 3) := by decide +kernel
theorem dX12_loss_7 : decode cX12_loss 7 = .ok (.ldc2_w 318, 3) := by decide +kernel
theorem dX12_loss_10 : decode cX12_loss 10 = .ok (.lreturn, 1) := by decide +kernel
theorem dX12_loss_11 : decode cX12_loss 11 = .ok (.lconst 0, 1) := by decide +kernel
theorem dX12_loss_12 : decode cX12_loss 12 = .ok (.lstore_n 1, 1) := by decide +kernel
theorem dX12_loss_13 : decode cX12_loss 13 = .ok (.iconst 0, 1) := by decide +kernel
theorem dX12_loss_14 : decode cX12_loss 14 = .ok (.istore_n 3, 1) := by decide +kernel
theorem dX12_loss_15 : decode cX12_loss 15 = .ok (.iload_n 3, 1) := by decide +kernel
theorem dX12_loss_16 : decode cX12_loss 16 = .ok (.bipush 6, 2) := by decide +kernel
theorem dX12_loss_18 : decode cX12_loss 18 = .ok (.if_icmp .ge 108, 3) := by decide +kernel
theorem dX12_loss_21 : decode cX12_loss 21 = .ok (.iconst 0, 1) := by decide +kernel
theorem dX12_loss_22 : decode cX12_loss 22 = .ok (.istore 4, 2) := by decide +kernel
theorem dX12_loss_24 : decode cX12_loss 24 = .ok (.iload 4, 2) := by decide +kernel
theorem dX12_loss_26 : decode cX12_loss 26 = .ok (.aload_n 0, 1) := by decide +kernel
theorem dX12_loss_27 : decode cX12_loss 27 = .ok (.getfield 173, 3) := by decide +kernel
theorem dX12_loss_30 : decode cX12_loss 30 = .ok (.if_icmp .ge 90, 3) := by decide +kernel
theorem dX12_loss_33 : decode cX12_loss 33 = .ok (.aload_n 0, 1) := by decide +kernel
theorem dX12_loss_34 : decode cX12_loss 34 = .ok (.iload_n 3, 1) := by decide +kernel
theorem dX12_loss_35 : decode cX12_loss 35 = .ok (.invokevirtual 366, 3) := by decide +kernel
theorem dX12_loss_38 : decode cX12_loss 38 = .ok (.ifCond .eq 82, 3) := by decide +kernel
theorem dX12_loss_41 : decode cX12_loss 41 = .ok (.aload_n 0, 1) := by decide +kernel
theorem dX12_loss_42 : decode cX12_loss 42 = .ok (.iload_n 3, 1) := by decide +kernel
theorem dX12_loss_43 : decode cX12_loss 43 = .ok (.iload 4, 2) := by decide +kernel
theorem dX12_loss_45 : decode cX12_loss 45 = .ok (.invokevirtual 388, 3) := by decide +kernel
theorem dX12_loss_48 : decode cX12_loss 48 = .ok (.iconst 0, 1) := by decide +kernel
theorem dX12_loss_49 : decode cX12_loss 49 = .ok (.istore 5, 2) := by decide +kernel
theorem dX12_loss_51 : decode cX12_loss 51 = .ok (.iload 5, 2) := by decide +kernel
theorem dX12_loss_53 : decode cX12_loss 53 = .ok (.aload_n 0, 1) := by decide +kernel
theorem dX12_loss_54 : decode cX12_loss 54 = .ok (.getfield 213, 3) := by decide +kernel
theorem dX12_loss_57 : decode cX12_loss 57 = .ok (.if_icmp .ge 57, 3) := by decide +kernel
theorem dX12_loss_60 : decode cX12_loss 60 = .ok (.lload_n 1, 1) := by decide +kernel
theorem dX12_loss_61 : decode cX12_loss 61 = .ok (.aload_n 0, 1) := by decide +kernel
theorem dX12_loss_62 : decode cX12_loss 62 = .ok (.getfield 101, 3) := by decide +kernel
theorem dX12_loss_65 : decode cX12_loss 65 = .ok (.iload 5, 2) := by decide +kernel
theorem dX12_loss_67 : decode cX12_loss 67 = .ok (.iaload, 1) := by decide +kernel
theorem dX12_loss_68 : decode cX12_loss 68 = .ok (.iload_n 3, 1) := by decide +kernel
theorem dX12_loss_69 : decode cX12_loss 69 = .ok (.if_icmp .ne 36, 3) := by decide +kernel
theorem dX12_loss_72 : decode cX12_loss 72 = .ok (.aload_n 0, 1) := by decide +kernel
theorem dX12_loss_73 : decode cX12_loss 73 = .ok (.getfield 34, 3) := by decide +kernel
theorem dX12_loss_76 : decode cX12_loss 76 = .ok (.iload 4, 2) := by decide +kernel
theorem dX12_loss_78 : decode cX12_loss 78 = .ok (.iaload, 1) := by decide +kernel
theorem dX12_loss_79 : decode cX12_loss 79 = .ok (.i2l, 1) := by decide +kernel
theorem dX12_loss_80 : decode cX12_loss 80 = .ok (.aload_n 0, 1) := by decide +kernel
theorem dX12_loss_81 : decode cX12_loss 81 = .ok (.getfield 107, 3) := by decide +kernel
theorem dX12_loss_84 : decode cX12_loss 84 = .ok (.iload 5, 2) := by decide +kernel
theorem dX12_loss_86 : decode cX12_loss 86 = .ok (.iaload, 1) := by decide +kernel
theorem dX12_loss_87 : decode cX12_loss 87 = .ok (.i2l, 1) := by decide +kernel
theorem dX12_loss_88 : decode cX12_loss 88 = .ok (.lmul, 1) := by decide +kernel
theorem dX12_loss_89 : decode cX12_loss 89 = .ok (.aload_n 0, 1) := by decide +kernel
theorem dX12_loss_90 : decode cX12_loss 90 = .ok (.getfield 143, 3) := by decide +kernel
theorem dX12_loss_93 : decode cX12_loss 93 = .ok (.iload 5, 2) := by decide +kernel
theorem dX12_loss_95 : decode cX12_loss 95 = .ok (.laload, 1) := by decide +kernel
theorem dX12_loss_96 : decode cX12_loss 96 = .ok (.lmul, 1) := by decide +kernel
theorem dX12_loss_97 : decode cX12_loss 97 = .ok (.aload_n 0, 1) := by decide +kernel
theorem dX12_loss_98 : decode cX12_loss 98 = .ok (.getfield 282, 3) := by decide +kernel
theorem dX12_loss_101 : decode cX12_loss 101 = .ok (.ldiv, 1) := by decide +kernel
theorem dX12_loss_102 : decode cX12_loss 102 = .ok (.goto 4, 3) := by decide +kernel
theorem dX12_loss_105 : decode cX12_loss 105 = .ok (.lconst 0, 1) := by decide +kernel
theorem dX12_loss_106 : decode cX12_loss 106 = .ok (.ladd, 1) := by decide +kernel
theorem dX12_loss_107 : decode cX12_loss 107 = .ok (.lstore_n 1, 1) := by decide +kernel
theorem dX12_loss_108 : decode cX12_loss 108 = .ok (.iinc 5 1, 3) := by decide +kernel
theorem dX12_loss_111 : decode cX12_loss 111 = .ok (.goto (-60), 3) := by decide +kernel
theorem dX12_loss_114 : decode cX12_loss 114 = .ok (.iinc 4 1, 3) := by decide +kernel
theorem dX12_loss_117 : decode cX12_loss 117 = .ok (.goto (-93), 3) := by decide +kernel
theorem dX12_loss_120 : decode cX12_loss 120 = .ok (.iinc 3 1, 3) := by decide +kernel
theorem dX12_loss_123 : decode cX12_loss 123 = .ok (.goto (-108), 3) := by decide +kernel
theorem dX12_loss_126 : decode cX12_loss 126 = .ok (.lload_n 1, 1) := by decide +kernel
theorem dX12_loss_127 : decode cX12_loss 127 = .ok (.lreturn, 1) := by decide +kernel
theorem dX12_feed_0 : decode cX12_feed 0 = .ok (.iload_n 1, 1) := by decide +kernel
theorem dX12_feed_1 : decode cX12_feed 1 = .ok (.i2l, 1) := by decide +kernel
theorem dX12_feed_2 : decode cX12_feed 2 = .ok (.lconst 1, 1) := by decide +kernel
theorem dX12_feed_3 : decode cX12_feed 3 = .ok (.ldc2_w 391, 3) := by decide +kernel
theorem dX12_feed_6 : decode cX12_feed 6 = .ok (.invokestatic 165, 3) := by decide +kernel
theorem dX12_feed_9 : decode cX12_feed 9 = .ok (.ifCond .ne 7, 3) := by decide +kernel
theorem dX12_feed_12 : decode cX12_feed 12 = .ok (.sipush (-1002), 3) := by decide +kernel
theorem dX12_feed_15 : decode cX12_feed 15 = .ok (.ireturn, 1) := by decide +kernel
theorem dX12_feed_16 : decode cX12_feed 16 = .ok (.aload_n 0, 1) := by decide +kernel
theorem dX12_feed_17 : decode cX12_feed 17 = .ok (.getfield 222, 3) := by decide +kernel
theorem dX12_feed_20 : decode cX12_feed 20 = .ok (.iload_n 1, 1) := by decide +kernel
theorem dX12_feed_21 : decode cX12_feed 21 = .ok (.iadd, 1) := by decide +kernel
theorem dX12_feed_22 : decode cX12_feed 22 = .ok (.sipush 200, 3) := by decide +kernel
theorem dX12_feed_25 : decode cX12_feed 25 = .ok (.if_icmp .le 7, 3) := by decide +kernel
theorem dX12_feed_28 : decode cX12_feed 28 = .ok (.sipush (-1004), 3) := by decide +kernel
theorem dX12_feed_31 : decode cX12_feed 31 = .ok (.ireturn, 1) := by decide +kernel
theorem dX12_feed_32 : decode cX12_feed 32 = .ok (.iload_n 1, 1) := by decide +kernel
theorem dX12_feed_33 : decode cX12_feed 33 = .ok (.iconst 1, 1) := by decide +kernel
theorem dX12_feed_34 : decode cX12_feed 34 = .ok (.isub, 1) := by decide +kernel
theorem dX12_feed_35 : decode cX12_feed 35 = .ok (.istore 4, 2) := by decide +kernel
theorem dX12_feed_37 : decode cX12_feed 37 = .ok (.iload 4, 2) := by decide +kernel
theorem dX12_feed_39 : decode cX12_feed 39 = .ok (.ifCond .lt 40, 3) := by decide +kernel
theorem dX12_feed_42 : decode cX12_feed 42 = .ok (.aload_n 0, 1) := by decide +kernel
theorem dX12_feed_43 : decode cX12_feed 43 = .ok (.getfield 147, 3) := by decide +kernel
theorem dX12_feed_46 : decode cX12_feed 46 = .ok (.aload_n 0, 1) := by decide +kernel
theorem dX12_feed_47 : decode cX12_feed 47 = .ok (.getfield 222, 3) := by decide +kernel
theorem dX12_feed_50 : decode cX12_feed 50 = .ok (.lload_n 2, 1) := by decide +kernel
theorem dX12_feed_51 : decode cX12_feed 51 = .ok (.bipush 8, 2) := by decide +kernel
theorem dX12_feed_53 : decode cX12_feed 53 = .ok (.iload 4, 2) := by decide +kernel
theorem dX12_feed_55 : decode cX12_feed 55 = .ok (.imul, 1) := by decide +kernel
theorem dX12_feed_56 : decode cX12_feed 56 = .ok (.lshr, 1) := by decide +kernel
theorem dX12_feed_57 : decode cX12_feed 57 = .ok (.ldc2_w 393, 3) := by decide +kernel
theorem dX12_feed_60 : decode cX12_feed 60 = .ok (.land, 1) := by decide +kernel
theorem dX12_feed_61 : decode cX12_feed 61 = .ok (.l2i, 1) := by decide +kernel
theorem dX12_feed_62 : decode cX12_feed 62 = .ok (.iastore, 1) := by decide +kernel
theorem dX12_feed_63 : decode cX12_feed 63 = .ok (.aload_n 0, 1) := by decide +kernel
theorem dX12_feed_64 : decode cX12_feed 64 = .ok (.dup, 1) := by decide +kernel
theorem dX12_feed_65 : decode cX12_feed 65 = .ok (.getfield 222, 3) := by decide +kernel
theorem dX12_feed_68 : decode cX12_feed 68 = .ok (.iconst 1, 1) := by decide +kernel
theorem dX12_feed_69 : decode cX12_feed 69 = .ok (.iadd, 1) := by decide +kernel
theorem dX12_feed_70 : decode cX12_feed 70 = .ok (.putfield 222, 3) := by decide +kernel
theorem dX12_feed_73 : decode cX12_feed 73 = .ok (.iinc 4 (-1), 3) := by decide +kernel
theorem dX12_feed_76 : decode cX12_feed 76 = .ok (.goto (-39), 3) := by decide +kernel
theorem dX12_feed_79 : decode cX12_feed 79 = .ok (.aload_n 0, 1) := by decide +kernel
theorem dX12_feed_80 : decode cX12_feed 80 = .ok (.getfield 222, 3) := by decide +kernel
theorem dX12_feed_83 : decode cX12_feed 83 = .ok (.ireturn, 1) := by decide +kernel
theorem dX12_here_0 : decode cX12_here 0 = .ok (.aload_n 0, 1) := by decide +kernel
theorem dX12_here_1 : decode cX12_here 1 = .ok (.getfield 395, 3) := by decide +kernel
theorem dX12_here_4 : decode cX12_here 4 = .ok (.aload_n 0, 1) := by decide +kernel
theorem dX12_here_5 : decode cX12_here 5 = .ok (.getfield 222, 3) := by decide +kernel
theorem dX12_here_8 : decode cX12_here 8 = .ok (.if_icmp .ge 30, 3) := by decide +kernel
theorem dX12_here_11 : decode cX12_here 11 = .ok (.aload_n 0, 1) := by decide +kernel
theorem dX12_here_12 : decode cX12_here 12 = .ok (.getfield 147, 3) := by decide +kernel
theorem dX12_here_15 : decode cX12_here 15 = .ok (.aload_n 0, 1) := by decide +kernel
theorem dX12_here_16 : decode cX12_here 16 = .ok (.getfield 395, 3) := by decide +kernel
theorem dX12_here_19 : decode cX12_here 19 = .ok (.iaload, 1) := by decide +kernel
theorem dX12_here_20 : decode cX12_here 20 = .ok (.bipush 32, 2) := by decide +kernel
theorem dX12_here_22 : decode cX12_here 22 = .ok (.if_icmp .ne 16, 3) := by decide +kernel
theorem dX12_here_25 : decode cX12_here 25 = .ok (.aload_n 0, 1) := by decide +kernel
theorem dX12_here_26 : decode cX12_here 26 = .ok (.dup, 1) := by decide +kernel
theorem dX12_here_27 : decode cX12_here 27 = .ok (.getfield 395, 3) := by decide +kernel
theorem dX12_here_30 : decode cX12_here 30 = .ok (.iconst 1, 1) := by decide +kernel
theorem dX12_here_31 : decode cX12_here 31 = .ok (.iadd, 1) := by decide +kernel
theorem dX12_here_32 : decode cX12_here 32 = .ok (.putfield 395, 3) := by decide +kernel
theorem dX12_here_35 : decode cX12_here 35 = .ok (.goto (-35), 3) := by decide +kernel
theorem dX12_here_38 : decode cX12_here 38 = .ok (.aload_n 0, 1) := by decide +kernel
theorem dX12_here_39 : decode cX12_here 39 = .ok (.getfield 395, 3) := by decide +kernel
theorem dX12_here_42 : decode cX12_here 42 = .ok (.aload_n 0, 1) := by decide +kernel
theorem dX12_here_43 : decode cX12_here 43 = .ok (.getfield 222, 3) := by decide +kernel
theorem dX12_here_46 : decode cX12_here 46 = .ok (.if_icmp .ge 15, 3) := by decide +kernel
theorem dX12_here_49 : decode cX12_here 49 = .ok (.aload_n 0, 1) := by decide +kernel
theorem dX12_here_50 : decode cX12_here 50 = .ok (.getfield 147, 3) := by decide +kernel
theorem dX12_here_53 : decode cX12_here 53 = .ok (.aload_n 0, 1) := by decide +kernel
theorem dX12_here_54 : decode cX12_here 54 = .ok (.getfield 395, 3) := by decide +kernel
theorem dX12_here_57 : decode cX12_here 57 = .ok (.iaload, 1) := by decide +kernel
theorem dX12_here_58 : decode cX12_here 58 = .ok (.goto 4, 3) := by decide +kernel
theorem dX12_here_61 : decode cX12_here 61 = .ok (.iconst (-1), 1) := by decide +kernel
theorem dX12_here_62 : decode cX12_here 62 = .ok (.ireturn, 1) := by decide +kernel
theorem dX12_fails_0 : decode cX12_fails 0 = .ok (.aload_n 0, 1) := by decide +kernel
theorem dX12_fails_1 : decode cX12_fails 1 = .ok (.iload_n 2, 1) := by decide +kernel
theorem dX12_fails_2 : decode cX12_fails 2 = .ok (.putfield 150, 3) := by decide +kernel
theorem dX12_fails_5 : decode cX12_fails 5 = .ok (.iload_n 1, 1) := by decide +kernel
theorem dX12_fails_6 : decode cX12_fails 6 = .ok (.ireturn, 1) := by decide +kernel
theorem dX12_readWord_0 : decode cX12_readWord 0 = .ok (.aload_n 0, 1) := by decide +kernel
theorem dX12_readWord_1 : decode cX12_readWord 1 = .ok (.invokevirtual 398, 3) := by decide +kernel
theorem dX12_readWord_4 : decode cX12_readWord 4 = .ok (.istore_n 1, 1) := by decide +kernel
theorem dX12_readWord_5 : decode cX12_readWord 5 = .ok (.aload_n 0, 1) := by decide +kernel
theorem dX12_readWord_6 : decode cX12_readWord 6 = .ok (.lconst 0, 1) := by decide +kernel
theorem dX12_readWord_7 : decode cX12_readWord 7 = .ok (.putfield 402, 3) := by decide +kernel
theorem dX12_readWord_10 : decode cX12_readWord 10 = .ok (.aload_n 0, 1) := by decide +kernel
theorem dX12_readWord_11 : decode cX12_readWord 11 = .ok (.aload_n 0, 1) := by decide +kernel
theorem dX12_readWord_12 : decode cX12_readWord 12 = .ok (.getfield 395, 3) := by decide +kernel
theorem dX12_readWord_15 : decode cX12_readWord 15 = .ok (.putfield 405, 3) := by decide +kernel
theorem dX12_readWord_18 : decode cX12_readWord 18 = .ok (.aload_n 0, 1) := by decide +kernel
theorem dX12_readWord_19 : decode cX12_readWord 19 = .ok (.getfield 405, 3) := by decide +kernel
theorem dX12_readWord_22 : decode cX12_readWord 22 = .ok (.aload_n 0, 1) := by decide +kernel
theorem dX12_readWord_23 : decode cX12_readWord 23 = .ok (.getfield 222, 3) := by decide +kernel
theorem dX12_readWord_26 : decode cX12_readWord 26 = .ok (.if_icmp .ge 82, 3) := by decide +kernel
theorem dX12_readWord_29 : decode cX12_readWord 29 = .ok (.aload_n 0, 1) := by decide +kernel
theorem dX12_readWord_30 : decode cX12_readWord 30 = .ok (.getfield 147, 3) := by decide +kernel
theorem dX12_readWord_33 : decode cX12_readWord 33 = .ok (.aload_n 0, 1) := by decide +kernel
theorem dX12_readWord_34 : decode cX12_readWord 34 = .ok (.getfield 405, 3) := by decide +kernel
theorem dX12_readWord_37 : decode cX12_readWord 37 = .ok (.iaload, 1) := by decide +kernel
theorem dX12_readWord_38 : decode cX12_readWord 38 = .ok (.i2l, 1) := by decide +kernel
theorem dX12_readWord_39 : decode cX12_readWord 39 = .ok (.ldc2_w 408, 3) := by decide +kernel
theorem dX12_readWord_42 : decode cX12_readWord 42 = .ok (.ldc2_w 410, 3) := by decide +kernel
theorem dX12_readWord_45 : decode cX12_readWord 45 = .ok (.invokestatic 165, 3) := by decide +kernel
theorem dX12_readWord_48 : decode cX12_readWord 48 = .ok (.ifCond .eq 60, 3) := by decide +kernel
theorem dX12_readWord_51 : decode cX12_readWord 51 = .ok (.aload_n 0, 1) := by decide +kernel
theorem dX12_readWord_52 : decode cX12_readWord 52 = .ok (.aload_n 0, 1) := by decide +kernel
theorem dX12_readWord_53 : decode cX12_readWord 53 = .ok (.getfield 402, 3) := by decide +kernel
theorem dX12_readWord_56 : decode cX12_readWord 56 = .ok (.ldc2_w 412, 3) := by decide +kernel
theorem dX12_readWord_59 : decode cX12_readWord 59 = .ok (.lcmp, 1) := by decide +kernel
theorem dX12_readWord_60 : decode cX12_readWord 60 = .ok (.ifCond .le 9, 3) := by decide +kernel
theorem dX12_readWord_63 : decode cX12_readWord 63 = .ok (.ldc2_w 414, 3) := by decide +kernel
theorem dX12_readWord_66 : decode cX12_readWord 66 = .ok (.goto 26, 3) := by decide +kernel
theorem dX12_readWord_69 : decode cX12_readWord 69 = .ok (.ldc2_w 416, 3) := by decide +kernel
theorem dX12_readWord_72 : decode cX12_readWord 72 = .ok (.aload_n 0, 1) := by decide +kernel
theorem dX12_readWord_73 : decode cX12_readWord 73 = .ok (.getfield 402, 3) := by decide +kernel
theorem dX12_readWord_76 : decode cX12_readWord 76 = .ok (.lmul, 1) := by decide +kernel
theorem dX12_readWord_77 : decode cX12_readWord 77 = .ok (.aload_n 0, 1) := by decide +kernel
theorem dX12_readWord_78 : decode cX12_readWord 78 = .ok (.getfield 147, 3) := by decide +kernel
theorem dX12_readWord_81 : decode cX12_readWord 81 = .ok (.aload_n 0, 1) := by decide +kernel
theorem dX12_readWord_82 : decode cX12_readWord 82 = .ok (.getfield 405, 3) := by decide +kernel
theorem dX12_readWord_85 : decode cX12_readWord 85 = .ok (.iaload, 1) := by decide +kernel
theorem dX12_readWord_86 : decode cX12_readWord 86 = .ok (.i2l, 1) := by decide +kernel
theorem dX12_readWord_87 : decode cX12_readWord 87 = .ok (.ladd, 1) := by decide +kernel
theorem dX12_readWord_88 : decode cX12_readWord 88 = .ok (.ldc2_w 418, 3) := by decide +kernel
theorem dX12_readWord_91 : decode cX12_readWord 91 = .ok (.lsub, 1) := by decide +kernel
theorem dX12_readWord_92 : decode cX12_readWord 92 = .ok (.putfield 402, 3) := by decide +kernel
theorem dX12_readWord_95 : decode cX12_readWord 95 = .ok (.aload_n 0, 1) := by decide +kernel
theorem dX12_readWord_96 : decode cX12_readWord 96 = .ok (.dup, 1) := by decide +kernel
theorem dX12_readWord_97 : decode cX12_readWord 97 = .ok (.getfield 405, 3) := by decide +kernel
theorem dX12_readWord_100 : decode cX12_readWord 100 = .ok (.iconst 1, 1) := by decide +kernel
theorem dX12_readWord_101 : decode cX12_readWord 101 = .ok (.iadd, 1) := by decide +kernel
theorem dX12_readWord_102 : decode cX12_readWord 102 = .ok (.putfield 405, 3) := by decide +kernel
theorem dX12_readWord_105 : decode cX12_readWord 105 = .ok (.goto (-87), 3) := by decide +kernel
theorem dX12_readWord_108 : decode cX12_readWord 108 = .ok (.return_, 1) := by decide +kernel
theorem dX12_code_0 : decode cX12_code 0 = .ok (.ldc2_w 416, 3) := by decide +kernel
theorem dX12_code_3 : decode cX12_code 3 = .ok (.ldc2_w 416, 3) := by decide +kernel
theorem dX12_code_6 : decode cX12_code 6 = .ok (.ldc2_w 416, 3) := by decide +kernel
theorem dX12_code_9 : decode cX12_code 9 = .ok (.iload_n 0, 1) := by decide +kernel
theorem dX12_code_10 : decode cX12_code 10 = .ok (.i2l, 1) := by decide +kernel
theorem dX12_code_11 : decode cX12_code 11 = .ok (.ldc2_w 418, 3) := by decide +kernel
theorem dX12_code_14 : decode cX12_code 14 = .ok (.lsub, 1) := by decide +kernel
theorem dX12_code_15 : decode cX12_code 15 = .ok (.lmul, 1) := by decide +kernel
theorem dX12_code_16 : decode cX12_code 16 = .ok (.iload_n 1, 1) := by decide +kernel
theorem dX12_code_17 : decode cX12_code 17 = .ok (.i2l, 1) := by decide +kernel
theorem dX12_code_18 : decode cX12_code 18 = .ok (.ladd, 1) := by decide +kernel
theorem dX12_code_19 : decode cX12_code 19 = .ok (.ldc2_w 418, 3) := by decide +kernel
theorem dX12_code_22 : decode cX12_code 22 = .ok (.lsub, 1) := by decide +kernel
theorem dX12_code_23 : decode cX12_code 23 = .ok (.lmul, 1) := by decide +kernel
theorem dX12_code_24 : decode cX12_code 24 = .ok (.iload_n 2, 1) := by decide +kernel
theorem dX12_code_25 : decode cX12_code 25 = .ok (.i2l, 1) := by decide +kernel
theorem dX12_code_26 : decode cX12_code 26 = .ok (.ladd, 1) := by decide +kernel
theorem dX12_code_27 : decode cX12_code 27 = .ok (.ldc2_w 418, 3) := by decide +kernel
theorem dX12_code_30 : decode cX12_code 30 = .ok (.lsub, 1) := by decide +kernel
theorem dX12_code_31 : decode cX12_code 31 = .ok (.lmul, 1) := by decide +kernel
theorem dX12_code_32 : decode cX12_code 32 = .ok (.lstore 6, 2) := by decide +kernel
theorem dX12_code_34 : decode cX12_code 34 = .ok (.iload_n 3, 1) := by decide +kernel
theorem dX12_code_35 : decode cX12_code 35 = .ok (.ifCond .ne 12, 3) := by decide +kernel
theorem dX12_code_38 : decode cX12_code 38 = .ok (.lload 6, 2) := by decide +kernel
theorem dX12_code_40 : decode cX12_code 40 = .ok (.ldc2_w 416, 3) := by decide +kernel
theorem dX12_code_43 : decode cX12_code 43 = .ok (.ldiv, 1) := by decide +kernel
theorem dX12_code_44 : decode cX12_code 44 = .ok (.goto 12, 3) := by decide +kernel
theorem dX12_code_47 : decode cX12_code 47 = .ok (.lload 6, 2) := by decide +kernel
theorem dX12_code_49 : decode cX12_code 49 = .ok (.iload_n 3, 1) := by decide +kernel
theorem dX12_code_50 : decode cX12_code 50 = .ok (.i2l, 1) := by decide +kernel
theorem dX12_code_51 : decode cX12_code 51 = .ok (.ladd, 1) := by decide +kernel
theorem dX12_code_52 : decode cX12_code 52 = .ok (.ldc2_w 418, 3) := by decide +kernel
theorem dX12_code_55 : decode cX12_code 55 = .ok (.lsub, 1) := by decide +kernel
theorem dX12_code_56 : decode cX12_code 56 = .ok (.lstore 6, 2) := by decide +kernel
theorem dX12_code_58 : decode cX12_code 58 = .ok (.iload 4, 2) := by decide +kernel
theorem dX12_code_60 : decode cX12_code 60 = .ok (.ifCond .ne 8, 3) := by decide +kernel
theorem dX12_code_63 : decode cX12_code 63 = .ok (.lload 6, 2) := by decide +kernel
theorem dX12_code_65 : decode cX12_code 65 = .ok (.goto 17, 3) := by decide +kernel
theorem dX12_code_68 : decode cX12_code 68 = .ok (.ldc2_w 416, 3) := by decide +kernel
theorem dX12_code_71 : decode cX12_code 71 = .ok (.lload 6, 2) := by decide +kernel
theorem dX12_code_73 : decode cX12_code 73 = .ok (.lmul, 1) := by decide +kernel
theorem dX12_code_74 : decode cX12_code 74 = .ok (.iload 4, 2) := by decide +kernel
theorem dX12_code_76 : decode cX12_code 76 = .ok (.i2l, 1) := by decide +kernel
theorem dX12_code_77 : decode cX12_code 77 = .ok (.ladd, 1) := by decide +kernel
theorem dX12_code_78 : decode cX12_code 78 = .ok (.ldc2_w 418, 3) := by decide +kernel
theorem dX12_code_81 : decode cX12_code 81 = .ok (.lsub, 1) := by decide +kernel
theorem dX12_code_82 : decode cX12_code 82 = .ok (.lstore 6, 2) := by decide +kernel
theorem dX12_code_84 : decode cX12_code 84 = .ok (.iload 5, 2) := by decide +kernel
theorem dX12_code_86 : decode cX12_code 86 = .ok (.ifCond .ne 8, 3) := by decide +kernel
theorem dX12_code_89 : decode cX12_code 89 = .ok (.lload 6, 2) := by decide +kernel
theorem dX12_code_91 : decode cX12_code 91 = .ok (.goto 17, 3) := by decide +kernel
theorem dX12_code_94 : decode cX12_code 94 = .ok (.ldc2_w 416, 3) := by decide +kernel
theorem dX12_code_97 : decode cX12_code 97 = .ok (.lload 6, 2) := by decide +kernel
theorem dX12_code_99 : decode cX12_code 99 = .ok (.lmul, 1) := by decide +kernel
theorem dX12_code_100 : decode cX12_code 100 = .ok (.iload 5, 2) := by decide +kernel
theorem dX12_code_102 : decode cX12_code 102 = .ok (.i2l, 1) := by decide +kernel
theorem dX12_code_103 : decode cX12_code 103 = .ok (.ladd, 1) := by decide +kernel
theorem dX12_code_104 : decode cX12_code 104 = .ok (.ldc2_w 418, 3) := by decide +kernel
theorem dX12_code_107 : decode cX12_code 107 = .ok (.lsub, 1) := by decide +kernel
theorem dX12_code_108 : decode cX12_code 108 = .ok (.lreturn, 1) := by decide +kernel
theorem dX12_keyOf_0 : decode cX12_keyOf 0 = .ok (.aload_n 0, 1) := by decide +kernel
theorem dX12_keyOf_1 : decode cX12_keyOf 1 = .ok (.getfield 402, 3) := by decide +kernel
theorem dX12_keyOf_4 : decode cX12_keyOf 4 = .ok (.bipush 107, 2) := by decide +kernel
theorem dX12_keyOf_6 : decode cX12_keyOf 6 = .ok (.bipush 105, 2) := by decide +kernel
theorem dX12_keyOf_8 : decode cX12_keyOf 8 = .ok (.bipush 110, 2) := by decide +kernel
theorem dX12_keyOf_10 : decode cX12_keyOf 10 = .ok (.bipush 100, 2) := by decide +kernel
theorem dX12_keyOf_12 : decode cX12_keyOf 12 = .ok (.iconst 0, 1) := by decide +kernel
theorem dX12_keyOf_13 : decode cX12_keyOf 13 = .ok (.iconst 0, 1) := by decide +kernel
theorem dX12_keyOf_14 : decode cX12_keyOf 14 = .ok (.invokestatic 420, 3) := by decide +kernel
theorem dX12_keyOf_17 : decode cX12_keyOf 17 = .ok (.lcmp, 1) := by decide +kernel
theorem dX12_keyOf_18 : decode cX12_keyOf 18 = .ok (.ifCond .ne 7, 3) := by decide +kernel
theorem dX12_keyOf_21 : decode cX12_keyOf 21 = .ok (.iconst 0, 1) := by decide +kernel
theorem dX12_keyOf_22 : decode cX12_keyOf 22 = .ok (.goto 133, 3) := by decide +kernel
theorem dX12_keyOf_25 : decode cX12_keyOf 25 = .ok (.aload_n 0, 1) := by decide +kernel
theorem dX12_keyOf_26 : decode cX12_keyOf 26 = .ok (.getfield 402, 3) := by decide +kernel
theorem dX12_keyOf_29 : decode cX12_keyOf 29 = .ok (.bipush 100, 2) := by decide +kernel
theorem dX12_keyOf_31 : decode cX12_keyOf 31 = .ok (.bipush 114, 2) := by decide +kernel
theorem dX12_keyOf_33 : decode cX12_keyOf 33 = .ok (.bipush 121, 2) := by decide +kernel
theorem dX12_keyOf_35 : decode cX12_keyOf 35 = .ok (.iconst 0, 1) := by decide +kernel
theorem dX12_keyOf_36 : decode cX12_keyOf 36 = .ok (.iconst 0, 1) := by decide +kernel
theorem dX12_keyOf_37 : decode cX12_keyOf 37 = .ok (.iconst 0, 1) := by decide +kernel
theorem dX12_keyOf_38 : decode cX12_keyOf 38 = .ok (.invokestatic 420, 3) := by decide +kernel
theorem dX12_keyOf_41 : decode cX12_keyOf 41 = .ok (.lcmp, 1) := by decide +kernel
theorem dX12_keyOf_42 : decode cX12_keyOf 42 = .ok (.ifCond .ne 8, 3) := by decide +kernel
theorem dX12_keyOf_45 : decode cX12_keyOf 45 = .ok (.bipush 20, 2) := by decide +kernel
theorem dX12_keyOf_47 : decode cX12_keyOf 47 = .ok (.goto 108, 3) := by decide +kernel
theorem dX12_keyOf_50 : decode cX12_keyOf 50 = .ok (.aload_n 0, 1) := by decide +kernel
theorem dX12_keyOf_51 : decode cX12_keyOf 51 = .ok (.getfield 402, 3) := by decide +kernel
theorem dX12_keyOf_54 : decode cX12_keyOf 54 = .ok (.bipush 119, 2) := by decide +kernel
theorem dX12_keyOf_56 : decode cX12_keyOf 56 = .ok (.bipush 101, 2) := by decide +kernel
theorem dX12_keyOf_58 : decode cX12_keyOf 58 = .ok (.bipush 116, 2) := by decide +kernel
theorem dX12_keyOf_60 : decode cX12_keyOf 60 = .ok (.iconst 0, 1) := by decide +kernel
theorem dX12_keyOf_61 : decode cX12_keyOf 61 = .ok (.iconst 0, 1) := by decide +kernel
theorem dX12_keyOf_62 : decode cX12_keyOf 62 = .ok (.iconst 0, 1) := by decide +kernel
theorem dX12_keyOf_63 : decode cX12_keyOf 63 = .ok (.invokestatic 420, 3) := by decide +kernel
theorem dX12_keyOf_66 : decode cX12_keyOf 66 = .ok (.lcmp, 1) := by decide +kernel
theorem dX12_keyOf_67 : decode cX12_keyOf 67 = .ok (.ifCond .ne 8, 3) := by decide +kernel
theorem dX12_keyOf_70 : decode cX12_keyOf 70 = .ok (.bipush 21, 2) := by decide +kernel
theorem dX12_keyOf_72 : decode cX12_keyOf 72 = .ok (.goto 83, 3) := by decide +kernel
theorem dX12_keyOf_75 : decode cX12_keyOf 75 = .ok (.aload_n 0, 1) := by decide +kernel
theorem dX12_keyOf_76 : decode cX12_keyOf 76 = .ok (.getfield 402, 3) := by decide +kernel
theorem dX12_keyOf_79 : decode cX12_keyOf 79 = .ok (.bipush 102, 2) := by decide +kernel
theorem dX12_keyOf_81 : decode cX12_keyOf 81 = .ok (.bipush 108, 2) := by decide +kernel
theorem dX12_keyOf_83 : decode cX12_keyOf 83 = .ok (.bipush 111, 2) := by decide +kernel
theorem dX12_keyOf_85 : decode cX12_keyOf 85 = .ok (.bipush 119, 2) := by decide +kernel
theorem dX12_keyOf_87 : decode cX12_keyOf 87 = .ok (.iconst 0, 1) := by decide +kernel
theorem dX12_keyOf_88 : decode cX12_keyOf 88 = .ok (.iconst 0, 1) := by decide +kernel
theorem dX12_keyOf_89 : decode cX12_keyOf 89 = .ok (.invokestatic 420, 3) := by decide +kernel
theorem dX12_keyOf_92 : decode cX12_keyOf 92 = .ok (.lcmp, 1) := by decide +kernel
theorem dX12_keyOf_93 : decode cX12_keyOf 93 = .ok (.ifCond .ne 8, 3) := by decide +kernel
theorem dX12_keyOf_96 : decode cX12_keyOf 96 = .ok (.bipush 22, 2) := by decide +kernel
theorem dX12_keyOf_98 : decode cX12_keyOf 98 = .ok (.goto 57, 3) := by decide +kernel
theorem dX12_keyOf_101 : decode cX12_keyOf 101 = .ok (.aload_n 0, 1) := by decide +kernel
theorem dX12_keyOf_102 : decode cX12_keyOf 102 = .ok (.getfield 402, 3) := by decide +kernel
theorem dX12_keyOf_105 : decode cX12_keyOf 105 = .ok (.bipush 109, 2) := by decide +kernel
theorem dX12_keyOf_107 : decode cX12_keyOf 107 = .ok (.bipush 97, 2) := by decide +kernel
theorem dX12_keyOf_109 : decode cX12_keyOf 109 = .ok (.bipush 114, 2) := by decide +kernel
theorem dX12_keyOf_111 : decode cX12_keyOf 111 = .ok (.bipush 107, 2) := by decide +kernel
theorem dX12_keyOf_113 : decode cX12_keyOf 113 = .ok (.iconst 0, 1) := by decide +kernel
theorem dX12_keyOf_114 : decode cX12_keyOf 114 = .ok (.iconst 0, 1) := by decide +kernel
theorem dX12_keyOf_115 : decode cX12_keyOf 115 = .ok (.invokestatic 420, 3) := by decide +kernel
theorem dX12_keyOf_118 : decode cX12_keyOf 118 = .ok (.lcmp, 1) := by decide +kernel
theorem dX12_keyOf_119 : decode cX12_keyOf 119 = .ok (.ifCond .ne 8, 3) := by decide +kernel
theorem dX12_keyOf_122 : decode cX12_keyOf 122 = .ok (.bipush 23, 2) := by decide +kernel
theorem dX12_keyOf_124 : decode cX12_keyOf 124 = .ok (.goto 31, 3) := by decide +kernel
theorem dX12_keyOf_127 : decode cX12_keyOf 127 = .ok (.aload_n 0, 1) := by decide +kernel
theorem dX12_keyOf_128 : decode cX12_keyOf 128 = .ok (.getfield 402, 3) := by decide +kernel
theorem dX12_keyOf_131 : decode cX12_keyOf 131 = .ok (.bipush 97, 2) := by decide +kernel
theorem dX12_keyOf_133 : decode cX12_keyOf 133 = .ok (.bipush 102, 2) := by decide +kernel
theorem dX12_keyOf_135 : decode cX12_keyOf 135 = .ok (.bipush 116, 2) := by decide +kernel
theorem dX12_keyOf_137 : decode cX12_keyOf 137 = .ok (.bipush 101, 2) := by decide +kernel
theorem dX12_keyOf_139 : decode cX12_keyOf 139 = .ok (.bipush 114, 2) := by decide +kernel
theorem dX12_keyOf_141 : decode cX12_keyOf 141 = .ok (.iconst 0, 1) := by decide +kernel
theorem dX12_keyOf_142 : decode cX12_keyOf 142 = .ok (.invokestatic 420, 3) := by decide +kernel
theorem dX12_keyOf_145 : decode cX12_keyOf 145 = .ok (.lcmp, 1) := by decide +kernel
theorem dX12_keyOf_146 : decode cX12_keyOf 146 = .ok (.ifCond .ne 8, 3) := by decide +kernel
theorem dX12_keyOf_149 : decode cX12_keyOf 149 = .ok (.bipush 24, 2) := by decide +kernel
theorem dX12_keyOf_151 : decode cX12_keyOf 151 = .ok (.goto 4, 3) := by decide +kernel
theorem dX12_keyOf_154 : decode cX12_keyOf 154 = .ok (.iconst (-1), 1) := by decide +kernel
theorem dX12_keyOf_155 : decode cX12_keyOf 155 = .ok (.ireturn, 1) := by decide +kernel
theorem dX12_nameOf_0 : decode cX12_nameOf 0 = .ok (.aload_n 0, 1) := by decide +kernel
theorem dX12_nameOf_1 : decode cX12_nameOf 1 = .ok (.getfield 402, 3) := by decide +kernel
theorem dX12_nameOf_4 : decode cX12_nameOf 4 = .ok (.bipush 103, 2) := by decide +kernel
theorem dX12_nameOf_6 : decode cX12_nameOf 6 = .ok (.bipush 114, 2) := by decide +kernel
theorem dX12_nameOf_8 : decode cX12_nameOf 8 = .ok (.bipush 111, 2) := by decide +kernel
theorem dX12_nameOf_10 : decode cX12_nameOf 10 = .ok (.bipush 119, 2) := by decide +kernel
theorem dX12_nameOf_12 : decode cX12_nameOf 12 = .ok (.iconst 0, 1) := by decide +kernel
theorem dX12_nameOf_13 : decode cX12_nameOf 13 = .ok (.iconst 0, 1) := by decide +kernel
theorem dX12_nameOf_14 : decode cX12_nameOf 14 = .ok (.invokestatic 420, 3) := by decide +kernel
theorem dX12_nameOf_17 : decode cX12_nameOf 17 = .ok (.lcmp, 1) := by decide +kernel
theorem dX12_nameOf_18 : decode cX12_nameOf 18 = .ok (.ifCond .ne 7, 3) := by decide +kernel
theorem dX12_nameOf_21 : decode cX12_nameOf 21 = .ok (.iconst 0, 1) := by decide +kernel
theorem dX12_nameOf_22 : decode cX12_nameOf 22 = .ok (.goto 107, 3) := by decide +kernel
theorem dX12_nameOf_25 : decode cX12_nameOf 25 = .ok (.aload_n 0, 1) := by decide +kernel
theorem dX12_nameOf_26 : decode cX12_nameOf 26 = .ok (.getfield 402, 3) := by decide +kernel
theorem dX12_nameOf_29 : decode cX12_nameOf 29 = .ok (.bipush 100, 2) := by decide +kernel
theorem dX12_nameOf_31 : decode cX12_nameOf 31 = .ok (.bipush 114, 2) := by decide +kernel
theorem dX12_nameOf_33 : decode cX12_nameOf 33 = .ok (.bipush 97, 2) := by decide +kernel
theorem dX12_nameOf_35 : decode cX12_nameOf 35 = .ok (.bipush 105, 2) := by decide +kernel
theorem dX12_nameOf_37 : decode cX12_nameOf 37 = .ok (.bipush 110, 2) := by decide +kernel
theorem dX12_nameOf_39 : decode cX12_nameOf 39 = .ok (.iconst 0, 1) := by decide +kernel
theorem dX12_nameOf_40 : decode cX12_nameOf 40 = .ok (.invokestatic 420, 3) := by decide +kernel
theorem dX12_nameOf_43 : decode cX12_nameOf 43 = .ok (.lcmp, 1) := by decide +kernel
theorem dX12_nameOf_44 : decode cX12_nameOf 44 = .ok (.ifCond .ne 7, 3) := by decide +kernel
theorem dX12_nameOf_47 : decode cX12_nameOf 47 = .ok (.iconst 1, 1) := by decide +kernel
theorem dX12_nameOf_48 : decode cX12_nameOf 48 = .ok (.goto 81, 3) := by decide +kernel
theorem dX12_nameOf_51 : decode cX12_nameOf 51 = .ok (.aload_n 0, 1) := by decide +kernel
theorem dX12_nameOf_52 : decode cX12_nameOf 52 = .ok (.getfield 402, 3) := by decide +kernel
theorem dX12_nameOf_55 : decode cX12_nameOf 55 = .ok (.bipush 112, 2) := by decide +kernel
theorem dX12_nameOf_57 : decode cX12_nameOf 57 = .ok (.bipush 97, 2) := by decide +kernel
theorem dX12_nameOf_59 : decode cX12_nameOf 59 = .ok (.bipush 115, 2) := by decide +kernel
theorem dX12_nameOf_61 : decode cX12_nameOf 61 = .ok (.bipush 115, 2) := by decide +kernel
theorem dX12_nameOf_63 : decode cX12_nameOf 63 = .ok (.iconst 0, 1) := by decide +kernel
theorem dX12_nameOf_64 : decode cX12_nameOf 64 = .ok (.iconst 0, 1) := by decide +kernel
theorem dX12_nameOf_65 : decode cX12_nameOf 65 = .ok (.invokestatic 420, 3) := by decide +kernel
theorem dX12_nameOf_68 : decode cX12_nameOf 68 = .ok (.lcmp, 1) := by decide +kernel
theorem dX12_nameOf_69 : decode cX12_nameOf 69 = .ok (.ifCond .ne 7, 3) := by decide +kernel
theorem dX12_nameOf_72 : decode cX12_nameOf 72 = .ok (.iconst 2, 1) := by decide +kernel
theorem dX12_nameOf_73 : decode cX12_nameOf 73 = .ok (.goto 56, 3) := by decide +kernel
theorem dX12_nameOf_76 : decode cX12_nameOf 76 = .ok (.aload_n 0, 1) := by decide +kernel
theorem dX12_nameOf_77 : decode cX12_nameOf 77 = .ok (.getfield 402, 3) := by decide +kernel
theorem dX12_nameOf_80 : decode cX12_nameOf 80 = .ok (.bipush 115, 2) := by decide +kernel
theorem dX12_nameOf_82 : decode cX12_nameOf 82 = .ok (.bipush 101, 2) := by decide +kernel
theorem dX12_nameOf_84 : decode cX12_nameOf 84 = .ok (.bipush 116, 2) := by decide +kernel
theorem dX12_nameOf_86 : decode cX12_nameOf 86 = .ok (.bipush 116, 2) := by decide +kernel
theorem dX12_nameOf_88 : decode cX12_nameOf 88 = .ok (.bipush 108, 2) := by decide +kernel
theorem dX12_nameOf_90 : decode cX12_nameOf 90 = .ok (.bipush 101, 2) := by decide +kernel
theorem dX12_nameOf_92 : decode cX12_nameOf 92 = .ok (.invokestatic 420, 3) := by decide +kernel
theorem dX12_nameOf_95 : decode cX12_nameOf 95 = .ok (.lcmp, 1) := by decide +kernel
theorem dX12_nameOf_96 : decode cX12_nameOf 96 = .ok (.ifCond .ne 7, 3) := by decide +kernel
theorem dX12_nameOf_99 : decode cX12_nameOf 99 = .ok (.iconst 3, 1) := by decide +kernel
theorem dX12_nameOf_100 : decode cX12_nameOf 100 = .ok (.goto 29, 3) := by decide +kernel
theorem dX12_nameOf_103 : decode cX12_nameOf 103 = .ok (.aload_n 0, 1) := by decide +kernel
theorem dX12_nameOf_104 : decode cX12_nameOf 104 = .ok (.getfield 402, 3) := by decide +kernel
theorem dX12_nameOf_107 : decode cX12_nameOf 107 = .ok (.bipush 104, 2) := by decide +kernel
theorem dX12_nameOf_109 : decode cX12_nameOf 109 = .ok (.bipush 111, 2) := by decide +kernel
theorem dX12_nameOf_111 : decode cX12_nameOf 111 = .ok (.bipush 108, 2) := by decide +kernel
theorem dX12_nameOf_113 : decode cX12_nameOf 113 = .ok (.bipush 100, 2) := by decide +kernel
theorem dX12_nameOf_115 : decode cX12_nameOf 115 = .ok (.iconst 0, 1) := by decide +kernel
theorem dX12_nameOf_116 : decode cX12_nameOf 116 = .ok (.iconst 0, 1) := by decide +kernel
theorem dX12_nameOf_117 : decode cX12_nameOf 117 = .ok (.invokestatic 420, 3) := by decide +kernel
theorem dX12_nameOf_120 : decode cX12_nameOf 120 = .ok (.lcmp, 1) := by decide +kernel
theorem dX12_nameOf_121 : decode cX12_nameOf 121 = .ok (.ifCond .ne 7, 3) := by decide +kernel
theorem dX12_nameOf_124 : decode cX12_nameOf 124 = .ok (.iconst 4, 1) := by decide +kernel
theorem dX12_nameOf_125 : decode cX12_nameOf 125 = .ok (.goto 4, 3) := by decide +kernel
theorem dX12_nameOf_128 : decode cX12_nameOf 128 = .ok (.iconst (-1), 1) := by decide +kernel
theorem dX12_nameOf_129 : decode cX12_nameOf 129 = .ok (.ireturn, 1) := by decide +kernel
theorem dX12_leastOf_0 : decode cX12_leastOf 0 = .ok (.iload_n 0, 1) := by decide +kernel
theorem dX12_leastOf_1 : decode cX12_leastOf 1 = .ok (.bipush 20, 2) := by decide +kernel
theorem dX12_leastOf_3 : decode cX12_leastOf 3 = .ok (.if_icmp .eq 15, 3) := by decide +kernel
theorem dX12_leastOf_6 : decode cX12_leastOf 6 = .ok (.iload_n 0, 1) := by decide +kernel
theorem dX12_leastOf_7 : decode cX12_leastOf 7 = .ok (.bipush 21, 2) := by decide +kernel
theorem dX12_leastOf_9 : decode cX12_leastOf 9 = .ok (.if_icmp .eq 9, 3) := by decide +kernel
theorem dX12_leastOf_12 : decode cX12_leastOf 12 = .ok (.iload_n 0, 1) := by decide +kernel
theorem dX12_leastOf_13 : decode cX12_leastOf 13 = .ok (.bipush 23, 2) := by decide +kernel
theorem dX12_leastOf_15 : decode cX12_leastOf 15 = .ok (.if_icmp .ne 7, 3) := by decide +kernel
theorem dX12_leastOf_18 : decode cX12_leastOf 18 = .ok (.iconst 1, 1) := by decide +kernel
theorem dX12_leastOf_19 : decode cX12_leastOf 19 = .ok (.goto 4, 3) := by decide +kernel
theorem dX12_leastOf_22 : decode cX12_leastOf 22 = .ok (.iconst 0, 1) := by decide +kernel
theorem dX12_leastOf_23 : decode cX12_leastOf 23 = .ok (.ireturn, 1) := by decide +kernel
theorem dX12_mostOf_0 : decode cX12_mostOf 0 = .ok (.iload_n 0, 1) := by decide +kernel
theorem dX12_mostOf_1 : decode cX12_mostOf 1 = .ok (.bipush 20, 2) := by decide +kernel
theorem dX12_mostOf_3 : decode cX12_mostOf 3 = .ok (.if_icmp .ge 33, 3) := by decide +kernel
theorem dX12_mostOf_6 : decode cX12_mostOf 6 = .ok (.iload_n 0, 1) := by decide +kernel
theorem dX12_mostOf_7 : decode cX12_mostOf 7 = .ok (.iconst 5, 1) := by decide +kernel
theorem dX12_mostOf_8 : decode cX12_mostOf 8 = .ok (.irem, 1) := by decide +kernel
theorem dX12_mostOf_9 : decode cX12_mostOf 9 = .ok (.iconst 1, 1) := by decide +kernel
theorem dX12_mostOf_10 : decode cX12_mostOf 10 = .ok (.if_icmp .ne 9, 3) := by decide +kernel
theorem dX12_mostOf_13 : decode cX12_mostOf 13 = .ok (.sipush 999, 3) := by decide +kernel
theorem dX12_mostOf_16 : decode cX12_mostOf 16 = .ok (.goto 44, 3) := by decide +kernel
theorem dX12_mostOf_19 : decode cX12_mostOf 19 = .ok (.iload_n 0, 1) := by decide +kernel
theorem dX12_mostOf_20 : decode cX12_mostOf 20 = .ok (.iconst 5, 1) := by decide +kernel
theorem dX12_mostOf_21 : decode cX12_mostOf 21 = .ok (.irem, 1) := by decide +kernel
theorem dX12_mostOf_22 : decode cX12_mostOf 22 = .ok (.iconst 2, 1) := by decide +kernel
theorem dX12_mostOf_23 : decode cX12_mostOf 23 = .ok (.if_icmp .ne 8, 3) := by decide +kernel
theorem dX12_mostOf_26 : decode cX12_mostOf 26 = .ok (.bipush 100, 2) := by decide +kernel
theorem dX12_mostOf_28 : decode cX12_mostOf 28 = .ok (.goto 32, 3) := by decide +kernel
theorem dX12_mostOf_31 : decode cX12_mostOf 31 = .ok (.bipush 99, 2) := by decide +kernel
theorem dX12_mostOf_33 : decode cX12_mostOf 33 = .ok (.goto 27, 3) := by decide +kernel
theorem dX12_mostOf_36 : decode cX12_mostOf 36 = .ok (.iload_n 0, 1) := by decide +kernel
theorem dX12_mostOf_37 : decode cX12_mostOf 37 = .ok (.bipush 22, 2) := by decide +kernel
theorem dX12_mostOf_39 : decode cX12_mostOf 39 = .ok (.if_icmp .ne 8, 3) := by decide +kernel
theorem dX12_mostOf_42 : decode cX12_mostOf 42 = .ok (.bipush 100, 2) := by decide +kernel
theorem dX12_mostOf_44 : decode cX12_mostOf 44 = .ok (.goto 16, 3) := by decide +kernel
theorem dX12_mostOf_47 : decode cX12_mostOf 47 = .ok (.iload_n 0, 1) := by decide +kernel
theorem dX12_mostOf_48 : decode cX12_mostOf 48 = .ok (.bipush 24, 2) := by decide +kernel
theorem dX12_mostOf_50 : decode cX12_mostOf 50 = .ok (.if_icmp .ne 8, 3) := by decide +kernel
theorem dX12_mostOf_53 : decode cX12_mostOf 53 = .ok (.bipush 30, 2) := by decide +kernel
theorem dX12_mostOf_55 : decode cX12_mostOf 55 = .ok (.goto 5, 3) := by decide +kernel
theorem dX12_mostOf_58 : decode cX12_mostOf 58 = .ok (.bipush 99, 2) := by decide +kernel
theorem dX12_mostOf_60 : decode cX12_mostOf 60 = .ok (.ireturn, 1) := by decide +kernel
theorem dX12_readNumber_0 : decode cX12_readNumber 0 = .ok (.aload_n 0, 1) := by decide +kernel
theorem dX12_readNumber_1 : decode cX12_readNumber 1 = .ok (.invokevirtual 398, 3) := by decide +kernel
theorem dX12_readNumber_4 : decode cX12_readNumber 4 = .ok (.istore_n 3, 1) := by decide +kernel
theorem dX12_readNumber_5 : decode cX12_readNumber 5 = .ok (.iload_n 3, 1) := by decide +kernel
theorem dX12_readNumber_6 : decode cX12_readNumber 6 = .ok (.i2l, 1) := by decide +kernel
theorem dX12_readNumber_7 : decode cX12_readNumber 7 = .ok (.ldc2_w 424, 3) := by decide +kernel
theorem dX12_readNumber_10 : decode cX12_readNumber 10 = .ok (.ldc2_w 426, 3) := by decide +kernel
theorem dX12_readNumber_13 : decode cX12_readNumber 13 = .ok (.invokestatic 165, 3) := by decide +kernel
theorem dX12_readNumber_16 : decode cX12_readNumber 16 = .ok (.ifCond .ne 13, 3) := by decide +kernel
theorem dX12_readNumber_19 : decode cX12_readNumber 19 = .ok (.aload_n 0, 1) := by decide +kernel
theorem dX12_readNumber_20 : decode cX12_readNumber 20 = .ok (.iconst 1, 1) := by decide +kernel
theorem dX12_readNumber_21 : decode cX12_readNumber 21 = .ok (.aload_n 0, 1) := by decide +kernel
theorem dX12_readNumber_22 : decode cX12_readNumber 22 = .ok (.getfield 395, 3) := by decide +kernel
theorem dX12_readNumber_25 : decode cX12_readNumber 25 = .ok (.invokevirtual 428, 3) := by decide +kernel
theorem dX12_readNumber_28 : decode cX12_readNumber 28 = .ok (.ireturn, 1) := by decide +kernel
theorem dX12_readNumber_29 : decode cX12_readNumber 29 = .ok (.aload_n 0, 1) := by decide +kernel
theorem dX12_readNumber_30 : decode cX12_readNumber 30 = .ok (.getfield 395, 3) := by decide +kernel
theorem dX12_readNumber_33 : decode cX12_readNumber 33 = .ok (.istore 4, 2) := by decide +kernel
theorem dX12_readNumber_35 : decode cX12_readNumber 35 = .ok (.aload_n 0, 1) := by decide +kernel
theorem dX12_readNumber_36 : decode cX12_readNumber 36 = .ok (.iconst 0, 1) := by decide +kernel
theorem dX12_readNumber_37 : decode cX12_readNumber 37 = .ok (.putfield 431, 3) := by decide +kernel
theorem dX12_readNumber_40 : decode cX12_readNumber 40 = .ok (.aload_n 0, 1) := by decide +kernel
theorem dX12_readNumber_41 : decode cX12_readNumber 41 = .ok (.getfield 395, 3) := by decide +kernel
theorem dX12_readNumber_44 : decode cX12_readNumber 44 = .ok (.aload_n 0, 1) := by decide +kernel
theorem dX12_readNumber_45 : decode cX12_readNumber 45 = .ok (.getfield 222, 3) := by decide +kernel
theorem dX12_readNumber_48 : decode cX12_readNumber 48 = .ok (.if_icmp .ge 79, 3) := by decide +kernel
theorem dX12_readNumber_51 : decode cX12_readNumber 51 = .ok (.aload_n 0, 1) := by decide +kernel
theorem dX12_readNumber_52 : decode cX12_readNumber 52 = .ok (.getfield 147, 3) := by decide +kernel
theorem dX12_readNumber_55 : decode cX12_readNumber 55 = .ok (.aload_n 0, 1) := by decide +kernel
theorem dX12_readNumber_56 : decode cX12_readNumber 56 = .ok (.getfield 395, 3) := by decide +kernel
theorem dX12_readNumber_59 : decode cX12_readNumber 59 = .ok (.iaload, 1) := by decide +kernel
theorem dX12_readNumber_60 : decode cX12_readNumber 60 = .ok (.i2l, 1) := by decide +kernel
theorem dX12_readNumber_61 : decode cX12_readNumber 61 = .ok (.ldc2_w 424, 3) := by decide +kernel
theorem dX12_readNumber_64 : decode cX12_readNumber 64 = .ok (.ldc2_w 426, 3) := by decide +kernel
theorem dX12_readNumber_67 : decode cX12_readNumber 67 = .ok (.invokestatic 165, 3) := by decide +kernel
theorem dX12_readNumber_70 : decode cX12_readNumber 70 = .ok (.ifCond .eq 57, 3) := by decide +kernel
theorem dX12_readNumber_73 : decode cX12_readNumber 73 = .ok (.aload_n 0, 1) := by decide +kernel
theorem dX12_readNumber_74 : decode cX12_readNumber 74 = .ok (.aload_n 0, 1) := by decide +kernel
theorem dX12_readNumber_75 : decode cX12_readNumber 75 = .ok (.getfield 431, 3) := by decide +kernel
theorem dX12_readNumber_78 : decode cX12_readNumber 78 = .ok (.sipush 10000, 3) := by decide +kernel
theorem dX12_readNumber_81 : decode cX12_readNumber 81 = .ok (.if_icmp .le 10, 3) := by decide +kernel
theorem dX12_readNumber_84 : decode cX12_readNumber 84 = .ok (.aload_n 0, 1) := by decide +kernel
theorem dX12_readNumber_85 : decode cX12_readNumber 85 = .ok (.getfield 431, 3) := by decide +kernel
theorem dX12_readNumber_88 : decode cX12_readNumber 88 = .ok (.goto 23, 3) := by decide +kernel
theorem dX12_readNumber_91 : decode cX12_readNumber 91 = .ok (.bipush 10, 2) := by decide +kernel
theorem dX12_readNumber_93 : decode cX12_readNumber 93 = .ok (.aload_n 0, 1) := by decide +kernel
theorem dX12_readNumber_94 : decode cX12_readNumber 94 = .ok (.getfield 431, 3) := by decide +kernel
theorem dX12_readNumber_97 : decode cX12_readNumber 97 = .ok (.imul, 1) := by decide +kernel
theorem dX12_readNumber_98 : decode cX12_readNumber 98 = .ok (.aload_n 0, 1) := by decide +kernel
theorem dX12_readNumber_99 : decode cX12_readNumber 99 = .ok (.getfield 147, 3) := by decide +kernel
theorem dX12_readNumber_102 : decode cX12_readNumber 102 = .ok (.aload_n 0, 1) := by decide +kernel
theorem dX12_readNumber_103 : decode cX12_readNumber 103 = .ok (.getfield 395, 3) := by decide +kernel
theorem dX12_readNumber_106 : decode cX12_readNumber 106 = .ok (.iaload, 1) := by decide +kernel
theorem dX12_readNumber_107 : decode cX12_readNumber 107 = .ok (.iadd, 1) := by decide +kernel
theorem dX12_readNumber_108 : decode cX12_readNumber 108 = .ok (.bipush 48, 2) := by decide +kernel
theorem dX12_readNumber_110 : decode cX12_readNumber 110 = .ok (.isub, 1) := by decide +kernel
theorem dX12_readNumber_111 : decode cX12_readNumber 111 = .ok (.putfield 431, 3) := by decide +kernel
theorem dX12_readNumber_114 : decode cX12_readNumber 114 = .ok (.aload_n 0, 1) := by decide +kernel
theorem dX12_readNumber_115 : decode cX12_readNumber 115 = .ok (.dup, 1) := by decide +kernel
theorem dX12_readNumber_116 : decode cX12_readNumber 116 = .ok (.getfield 395, 3) := by decide +kernel
theorem dX12_readNumber_119 : decode cX12_readNumber 119 = .ok (.iconst 1, 1) := by decide +kernel
theorem dX12_readNumber_120 : decode cX12_readNumber 120 = .ok (.iadd, 1) := by decide +kernel
theorem dX12_readNumber_121 : decode cX12_readNumber 121 = .ok (.putfield 395, 3) := by decide +kernel
theorem dX12_readNumber_124 : decode cX12_readNumber 124 = .ok (.goto (-84), 3) := by decide +kernel
theorem dX12_readNumber_127 : decode cX12_readNumber 127 = .ok (.aload_n 0, 1) := by decide +kernel
theorem dX12_readNumber_128 : decode cX12_readNumber 128 = .ok (.getfield 395, 3) := by decide +kernel
theorem dX12_readNumber_131 : decode cX12_readNumber 131 = .ok (.iload 4, 2) := by decide +kernel
theorem dX12_readNumber_133 : decode cX12_readNumber 133 = .ok (.isub, 1) := by decide +kernel
theorem dX12_readNumber_134 : decode cX12_readNumber 134 = .ok (.iconst 3, 1) := by decide +kernel
theorem dX12_readNumber_135 : decode cX12_readNumber 135 = .ok (.if_icmp .gt 18, 3) := by decide +kernel
theorem dX12_readNumber_138 : decode cX12_readNumber 138 = .ok (.aload_n 0, 1) := by decide +kernel
theorem dX12_readNumber_139 : decode cX12_readNumber 139 = .ok (.getfield 431, 3) := by decide +kernel
theorem dX12_readNumber_142 : decode cX12_readNumber 142 = .ok (.i2l, 1) := by decide +kernel
theorem dX12_readNumber_143 : decode cX12_readNumber 143 = .ok (.iload_n 1, 1) := by decide +kernel
theorem dX12_readNumber_144 : decode cX12_readNumber 144 = .ok (.i2l, 1) := by decide +kernel
theorem dX12_readNumber_145 : decode cX12_readNumber 145 = .ok (.iload_n 2, 1) := by decide +kernel
theorem dX12_readNumber_146 : decode cX12_readNumber 146 = .ok (.i2l, 1) := by decide +kernel
theorem dX12_readNumber_147 : decode cX12_readNumber 147 = .ok (.invokestatic 165, 3) := by decide +kernel
theorem dX12_readNumber_150 : decode cX12_readNumber 150 = .ok (.ifCond .ne 13, 3) := by decide +kernel
theorem dX12_readNumber_153 : decode cX12_readNumber 153 = .ok (.aload_n 0, 1) := by decide +kernel
theorem dX12_readNumber_154 : decode cX12_readNumber 154 = .ok (.iconst 2, 1) := by decide +kernel
theorem dX12_readNumber_155 : decode cX12_readNumber 155 = .ok (.iload 4, 2) := by decide +kernel
theorem dX12_readNumber_157 : decode cX12_readNumber 157 = .ok (.invokevirtual 428, 3) := by decide +kernel
theorem dX12_readNumber_160 : decode cX12_readNumber 160 = .ok (.goto 4, 3) := by decide +kernel
theorem dX12_readNumber_163 : decode cX12_readNumber 163 = .ok (.iconst 0, 1) := by decide +kernel
theorem dX12_readNumber_164 : decode cX12_readNumber 164 = .ok (.ireturn, 1) := by decide +kernel
theorem dX12_readRule_0 : decode cX12_readRule 0 = .ok (.aload_n 0, 1) := by decide +kernel
theorem dX12_readRule_1 : decode cX12_readRule 1 = .ok (.iload_n 1, 1) := by decide +kernel
theorem dX12_readRule_2 : decode cX12_readRule 2 = .ok (.invokestatic 434, 3) := by decide +kernel
theorem dX12_readRule_5 : decode cX12_readRule 5 = .ok (.iload_n 1, 1) := by decide +kernel
theorem dX12_readRule_6 : decode cX12_readRule 6 = .ok (.invokestatic 437, 3) := by decide +kernel
theorem dX12_readRule_9 : decode cX12_readRule 9 = .ok (.invokevirtual 440, 3) := by decide +kernel
theorem dX12_readRule_12 : decode cX12_readRule 12 = .ok (.istore_n 2, 1) := by decide +kernel
theorem dX12_readRule_13 : decode cX12_readRule 13 = .ok (.aload_n 0, 1) := by decide +kernel
theorem dX12_readRule_14 : decode cX12_readRule 14 = .ok (.getfield 46, 3) := by decide +kernel
theorem dX12_readRule_17 : decode cX12_readRule 17 = .ok (.iload_n 1, 1) := by decide +kernel
theorem dX12_readRule_18 : decode cX12_readRule 18 = .ok (.iload_n 2, 1) := by decide +kernel
theorem dX12_readRule_19 : decode cX12_readRule 19 = .ok (.ifCond .ne 10, 3) := by decide +kernel
theorem dX12_readRule_22 : decode cX12_readRule 22 = .ok (.aload_n 0, 1) := by decide +kernel
theorem dX12_readRule_23 : decode cX12_readRule 23 = .ok (.getfield 431, 3) := by decide +kernel
theorem dX12_readRule_26 : decode cX12_readRule 26 = .ok (.goto 9, 3) := by decide +kernel
theorem dX12_readRule_29 : decode cX12_readRule 29 = .ok (.aload_n 0, 1) := by decide +kernel
theorem dX12_readRule_30 : decode cX12_readRule 30 = .ok (.getfield 46, 3) := by decide +kernel
theorem dX12_readRule_33 : decode cX12_readRule 33 = .ok (.iload_n 1, 1) := by decide +kernel
theorem dX12_readRule_34 : decode cX12_readRule 34 = .ok (.iaload, 1) := by decide +kernel
theorem dX12_readRule_35 : decode cX12_readRule 35 = .ok (.iastore, 1) := by decide +kernel
theorem dX12_readRule_36 : decode cX12_readRule 36 = .ok (.iload_n 2, 1) := by decide +kernel
theorem dX12_readRule_37 : decode cX12_readRule 37 = .ok (.ireturn, 1) := by decide +kernel
theorem dX12_readKind_0 : decode cX12_readKind 0 = .ok (.aload_n 0, 1) := by decide +kernel
theorem dX12_readKind_1 : decode cX12_readKind 1 = .ok (.iconst 0, 1) := by decide +kernel
theorem dX12_readKind_2 : decode cX12_readKind 2 = .ok (.iconst 3, 1) := by decide +kernel
theorem dX12_readKind_3 : decode cX12_readKind 3 = .ok (.invokevirtual 440, 3) := by decide +kernel
theorem dX12_readKind_6 : decode cX12_readKind 6 = .ok (.istore_n 1, 1) := by decide +kernel
theorem dX12_readKind_7 : decode cX12_readKind 7 = .ok (.iconst 5, 1) := by decide +kernel
theorem dX12_readKind_8 : decode cX12_readKind 8 = .ok (.aload_n 0, 1) := by decide +kernel
theorem dX12_readKind_9 : decode cX12_readKind 9 = .ok (.getfield 431, 3) := by decide +kernel
theorem dX12_readKind_12 : decode cX12_readKind 12 = .ok (.imul, 1) := by decide +kernel
theorem dX12_readKind_13 : decode cX12_readKind 13 = .ok (.istore_n 2, 1) := by decide +kernel
theorem dX12_readKind_14 : decode cX12_readKind 14 = .ok (.iconst 0, 1) := by decide +kernel
theorem dX12_readKind_15 : decode cX12_readKind 15 = .ok (.istore_n 3, 1) := by decide +kernel
theorem dX12_readKind_16 : decode cX12_readKind 16 = .ok (.iload_n 1, 1) := by decide +kernel
theorem dX12_readKind_17 : decode cX12_readKind 17 = .ok (.ifCond .ne 7, 3) := by decide +kernel
theorem dX12_readKind_20 : decode cX12_readKind 20 = .ok (.iconst 1, 1) := by decide +kernel
theorem dX12_readKind_21 : decode cX12_readKind 21 = .ok (.goto 4, 3) := by decide +kernel
theorem dX12_readKind_24 : decode cX12_readKind 24 = .ok (.iconst 0, 1) := by decide +kernel
theorem dX12_readKind_25 : decode cX12_readKind 25 = .ok (.istore 4, 2) := by decide +kernel
theorem dX12_readKind_27 : decode cX12_readKind 27 = .ok (.iload 4, 2) := by decide +kernel
theorem dX12_readKind_29 : decode cX12_readKind 29 = .ok (.ifCond .eq 102, 3) := by decide +kernel
theorem dX12_readKind_32 : decode cX12_readKind 32 = .ok (.aload_n 0, 1) := by decide +kernel
theorem dX12_readKind_33 : decode cX12_readKind 33 = .ok (.invokevirtual 443, 3) := by decide +kernel
theorem dX12_readKind_36 : decode cX12_readKind 36 = .ok (.aload_n 0, 1) := by decide +kernel
theorem dX12_readKind_37 : decode cX12_readKind 37 = .ok (.invokevirtual 446, 3) := by decide +kernel
theorem dX12_readKind_40 : decode cX12_readKind 40 = .ok (.istore 5, 2) := by decide +kernel
theorem dX12_readKind_42 : decode cX12_readKind 42 = .ok (.iload 5, 2) := by decide +kernel
theorem dX12_readKind_44 : decode cX12_readKind 44 = .ok (.ifCond .lt 13, 3) := by decide +kernel
theorem dX12_readKind_47 : decode cX12_readKind 47 = .ok (.iload_n 3, 1) := by decide +kernel
theorem dX12_readKind_48 : decode cX12_readKind 48 = .ok (.iload 5, 2) := by decide +kernel
theorem dX12_readKind_50 : decode cX12_readKind 50 = .ok (.ishr, 1) := by decide +kernel
theorem dX12_readKind_51 : decode cX12_readKind 51 = .ok (.iconst 1, 1) := by decide +kernel
theorem dX12_readKind_52 : decode cX12_readKind 52 = .ok (.iand, 1) := by decide +kernel
theorem dX12_readKind_53 : decode cX12_readKind 53 = .ok (.iconst 1, 1) := by decide +kernel
theorem dX12_readKind_54 : decode cX12_readKind 54 = .ok (.if_icmp .ne 22, 3) := by decide +kernel
theorem dX12_readKind_57 : decode cX12_readKind 57 = .ok (.aload_n 0, 1) := by decide +kernel
theorem dX12_readKind_58 : decode cX12_readKind 58 = .ok (.iload 5, 2) := by decide +kernel
theorem dX12_readKind_60 : decode cX12_readKind 60 = .ok (.ifCond .ge 7, 3) := by decide +kernel
theorem dX12_readKind_63 : decode cX12_readKind 63 = .ok (.iconst 1, 1) := by decide +kernel
theorem dX12_readKind_64 : decode cX12_readKind 64 = .ok (.goto 4, 3) := by decide +kernel
theorem dX12_readKind_67 : decode cX12_readKind 67 = .ok (.iconst 3, 1) := by decide +kernel
theorem dX12_readKind_68 : decode cX12_readKind 68 = .ok (.aload_n 0, 1) := by decide +kernel
theorem dX12_readKind_69 : decode cX12_readKind 69 = .ok (.getfield 395, 3) := by decide +kernel
theorem dX12_readKind_72 : decode cX12_readKind 72 = .ok (.invokevirtual 428, 3) := by decide +kernel
theorem dX12_readKind_75 : decode cX12_readKind 75 = .ok (.ireturn, 1) := by decide +kernel
theorem dX12_readKind_76 : decode cX12_readKind 76 = .ok (.iload_n 3, 1) := by decide +kernel
theorem dX12_readKind_77 : decode cX12_readKind 77 = .ok (.iconst 1, 1) := by decide +kernel
theorem dX12_readKind_78 : decode cX12_readKind 78 = .ok (.iload 5, 2) := by decide +kernel
theorem dX12_readKind_80 : decode cX12_readKind 80 = .ok (.ishl, 1) := by decide +kernel
theorem dX12_readKind_81 : decode cX12_readKind 81 = .ok (.ior, 1) := by decide +kernel
theorem dX12_readKind_82 : decode cX12_readKind 82 = .ok (.istore_n 3, 1) := by decide +kernel
theorem dX12_readKind_83 : decode cX12_readKind 83 = .ok (.aload_n 0, 1) := by decide +kernel
theorem dX12_readKind_84 : decode cX12_readKind 84 = .ok (.aload_n 0, 1) := by decide +kernel
theorem dX12_readKind_85 : decode cX12_readKind 85 = .ok (.getfield 405, 3) := by decide +kernel
theorem dX12_readKind_88 : decode cX12_readKind 88 = .ok (.putfield 395, 3) := by decide +kernel
theorem dX12_readKind_91 : decode cX12_readKind 91 = .ok (.aload_n 0, 1) := by decide +kernel
theorem dX12_readKind_92 : decode cX12_readKind 92 = .ok (.iload_n 2, 1) := by decide +kernel
theorem dX12_readKind_93 : decode cX12_readKind 93 = .ok (.iload 5, 2) := by decide +kernel
theorem dX12_readKind_95 : decode cX12_readKind 95 = .ok (.iadd, 1) := by decide +kernel
theorem dX12_readKind_96 : decode cX12_readKind 96 = .ok (.invokevirtual 449, 3) := by decide +kernel
theorem dX12_readKind_99 : decode cX12_readKind 99 = .ok (.istore_n 1, 1) := by decide +kernel
theorem dX12_readKind_100 : decode cX12_readKind 100 = .ok (.iload_n 1, 1) := by decide +kernel
theorem dX12_readKind_101 : decode cX12_readKind 101 = .ok (.ifCond .ne 24, 3) := by decide +kernel
theorem dX12_readKind_104 : decode cX12_readKind 104 = .ok (.aload_n 0, 1) := by decide +kernel
theorem dX12_readKind_105 : decode cX12_readKind 105 = .ok (.invokevirtual 398, 3) := by decide +kernel
theorem dX12_readKind_108 : decode cX12_readKind 108 = .ok (.i2l, 1) := by decide +kernel
theorem dX12_readKind_109 : decode cX12_readKind 109 = .ok (.ldc2_w 408, 3) := by decide +kernel
theorem dX12_readKind_112 : decode cX12_readKind 112 = .ok (.ldc2_w 410, 3) := by decide +kernel
theorem dX12_readKind_115 : decode cX12_readKind 115 = .ok (.invokestatic 165, 3) := by decide +kernel
theorem dX12_readKind_118 : decode cX12_readKind 118 = .ok (.ifCond .eq 7, 3) := by decide +kernel
theorem dX12_readKind_121 : decode cX12_readKind 121 = .ok (.iconst 1, 1) := by decide +kernel
theorem dX12_readKind_122 : decode cX12_readKind 122 = .ok (.goto 4, 3) := by decide +kernel
theorem dX12_readKind_125 : decode cX12_readKind 125 = .ok (.iconst 0, 1) := by decide +kernel
theorem dX12_readKind_126 : decode cX12_readKind 126 = .ok (.istore 4, 2) := by decide +kernel
theorem dX12_readKind_128 : decode cX12_readKind 128 = .ok (.goto (-101), 3) := by decide +kernel
theorem dX12_readKind_131 : decode cX12_readKind 131 = .ok (.iload_n 1, 1) := by decide +kernel
theorem dX12_readKind_132 : decode cX12_readKind 132 = .ok (.ireturn, 1) := by decide +kernel
theorem dX12_readClause_0 : decode cX12_readClause 0 = .ok (.aload_n 0, 1) := by decide +kernel
theorem dX12_readClause_1 : decode cX12_readClause 1 = .ok (.invokevirtual 443, 3) := by decide +kernel
theorem dX12_readClause_4 : decode cX12_readClause 4 = .ok (.aload_n 0, 1) := by decide +kernel
theorem dX12_readClause_5 : decode cX12_readClause 5 = .ok (.invokevirtual 452, 3) := by decide +kernel
theorem dX12_readClause_8 : decode cX12_readClause 8 = .ok (.istore_n 2, 1) := by decide +kernel
theorem dX12_readClause_9 : decode cX12_readClause 9 = .ok (.iload_n 2, 1) := by decide +kernel
theorem dX12_readClause_10 : decode cX12_readClause 10 = .ok (.ifCond .lt 7, 3) := by decide +kernel
theorem dX12_readClause_13 : decode cX12_readClause 13 = .ok (.iload_n 1, 1) := by decide +kernel
theorem dX12_readClause_14 : decode cX12_readClause 14 = .ok (.ifCond .eq 21, 3) := by decide +kernel
theorem dX12_readClause_17 : decode cX12_readClause 17 = .ok (.aload_n 0, 1) := by decide +kernel
theorem dX12_readClause_18 : decode cX12_readClause 18 = .ok (.iload_n 2, 1) := by decide +kernel
theorem dX12_readClause_19 : decode cX12_readClause 19 = .ok (.ifCond .ge 7, 3) := by decide +kernel
theorem dX12_readClause_22 : decode cX12_readClause 22 = .ok (.iconst 1, 1) := by decide +kernel
theorem dX12_readClause_23 : decode cX12_readClause 23 = .ok (.goto 4, 3) := by decide +kernel
theorem dX12_readClause_26 : decode cX12_readClause 26 = .ok (.iconst 4, 1) := by decide +kernel
theorem dX12_readClause_27 : decode cX12_readClause 27 = .ok (.aload_n 0, 1) := by decide +kernel
theorem dX12_readClause_28 : decode cX12_readClause 28 = .ok (.getfield 395, 3) := by decide +kernel
theorem dX12_readClause_31 : decode cX12_readClause 31 = .ok (.invokevirtual 428, 3) := by decide +kernel
theorem dX12_readClause_34 : decode cX12_readClause 34 = .ok (.ireturn, 1) := by decide +kernel
theorem dX12_readClause_35 : decode cX12_readClause 35 = .ok (.aload_n 0, 1) := by decide +kernel
theorem dX12_readClause_36 : decode cX12_readClause 36 = .ok (.aload_n 0, 1) := by decide +kernel
theorem dX12_readClause_37 : decode cX12_readClause 37 = .ok (.getfield 405, 3) := by decide +kernel
theorem dX12_readClause_40 : decode cX12_readClause 40 = .ok (.putfield 395, 3) := by decide +kernel
theorem dX12_readClause_43 : decode cX12_readClause 43 = .ok (.iload_n 2, 1) := by decide +kernel
theorem dX12_readClause_44 : decode cX12_readClause 44 = .ok (.ifCond .ne 10, 3) := by decide +kernel
theorem dX12_readClause_47 : decode cX12_readClause 47 = .ok (.aload_n 0, 1) := by decide +kernel
theorem dX12_readClause_48 : decode cX12_readClause 48 = .ok (.invokevirtual 455, 3) := by decide +kernel
theorem dX12_readClause_51 : decode cX12_readClause 51 = .ok (.goto 8, 3) := by decide +kernel
theorem dX12_readClause_54 : decode cX12_readClause 54 = .ok (.aload_n 0, 1) := by decide +kernel
theorem dX12_readClause_55 : decode cX12_readClause 55 = .ok (.iload_n 2, 1) := by decide +kernel
theorem dX12_readClause_56 : decode cX12_readClause 56 = .ok (.invokevirtual 449, 3) := by decide +kernel
theorem dX12_readClause_59 : decode cX12_readClause 59 = .ok (.istore_n 3, 1) := by decide +kernel
theorem dX12_readClause_60 : decode cX12_readClause 60 = .ok (.iload_n 3, 1) := by decide +kernel
theorem dX12_readClause_61 : decode cX12_readClause 61 = .ok (.ifCond .le 5, 3) := by decide +kernel
theorem dX12_readClause_64 : decode cX12_readClause 64 = .ok (.iload_n 3, 1) := by decide +kernel
theorem dX12_readClause_65 : decode cX12_readClause 65 = .ok (.ireturn, 1) := by decide +kernel
theorem dX12_readClause_66 : decode cX12_readClause 66 = .ok (.aload_n 0, 1) := by decide +kernel
theorem dX12_readClause_67 : decode cX12_readClause 67 = .ok (.invokevirtual 398, 3) := by decide +kernel
theorem dX12_readClause_70 : decode cX12_readClause 70 = .ok (.bipush 59, 2) := by decide +kernel
theorem dX12_readClause_72 : decode cX12_readClause 72 = .ok (.if_icmp .eq 13, 3) := by decide +kernel
theorem dX12_readClause_75 : decode cX12_readClause 75 = .ok (.aload_n 0, 1) := by decide +kernel
theorem dX12_readClause_76 : decode cX12_readClause 76 = .ok (.iconst 1, 1) := by decide +kernel
theorem dX12_readClause_77 : decode cX12_readClause 77 = .ok (.aload_n 0, 1) := by decide +kernel
theorem dX12_readClause_78 : decode cX12_readClause 78 = .ok (.getfield 395, 3) := by decide +kernel
theorem dX12_readClause_81 : decode cX12_readClause 81 = .ok (.invokevirtual 428, 3) := by decide +kernel
theorem dX12_readClause_84 : decode cX12_readClause 84 = .ok (.ireturn, 1) := by decide +kernel
theorem dX12_readClause_85 : decode cX12_readClause 85 = .ok (.aload_n 0, 1) := by decide +kernel
theorem dX12_readClause_86 : decode cX12_readClause 86 = .ok (.dup, 1) := by decide +kernel
theorem dX12_readClause_87 : decode cX12_readClause 87 = .ok (.getfield 395, 3) := by decide +kernel
theorem dX12_readClause_90 : decode cX12_readClause 90 = .ok (.iconst 1, 1) := by decide +kernel
theorem dX12_readClause_91 : decode cX12_readClause 91 = .ok (.iadd, 1) := by decide +kernel
theorem dX12_readClause_92 : decode cX12_readClause 92 = .ok (.putfield 395, 3) := by decide +kernel
theorem dX12_readClause_95 : decode cX12_readClause 95 = .ok (.iconst 0, 1) := by decide +kernel
theorem dX12_readClause_96 : decode cX12_readClause 96 = .ok (.ireturn, 1) := by decide +kernel
theorem dX12_read_0 : decode cX12_read 0 = .ok (.aload_n 0, 1) := by decide +kernel
theorem dX12_read_1 : decode cX12_read 1 = .ok (.iconst (-1), 1) := by decide +kernel
theorem dX12_read_2 : decode cX12_read 2 = .ok (.putfield 150, 3) := by decide +kernel
theorem dX12_read_5 : decode cX12_read 5 = .ok (.aload_n 0, 1) := by decide +kernel
theorem dX12_read_6 : decode cX12_read 6 = .ok (.iconst 0, 1) := by decide +kernel
theorem dX12_read_7 : decode cX12_read 7 = .ok (.putfield 395, 3) := by decide +kernel
theorem dX12_read_10 : decode cX12_read 10 = .ok (.aload_n 0, 1) := by decide +kernel
theorem dX12_read_11 : decode cX12_read 11 = .ok (.invokevirtual 154, 3) := by decide +kernel
theorem dX12_read_14 : decode cX12_read 14 = .ok (.iconst 0, 1) := by decide +kernel
theorem dX12_read_15 : decode cX12_read 15 = .ok (.istore_n 1, 1) := by decide +kernel
theorem dX12_read_16 : decode cX12_read 16 = .ok (.iconst 0, 1) := by decide +kernel
theorem dX12_read_17 : decode cX12_read 17 = .ok (.istore_n 2, 1) := by decide +kernel
theorem dX12_read_18 : decode cX12_read 18 = .ok (.iload_n 2, 1) := by decide +kernel
theorem dX12_read_19 : decode cX12_read 19 = .ok (.ifCond .ne 32, 3) := by decide +kernel
theorem dX12_read_22 : decode cX12_read 22 = .ok (.aload_n 0, 1) := by decide +kernel
theorem dX12_read_23 : decode cX12_read 23 = .ok (.invokevirtual 398, 3) := by decide +kernel
theorem dX12_read_26 : decode cX12_read 26 = .ok (.ifCond .lt 25, 3) := by decide +kernel
theorem dX12_read_29 : decode cX12_read 29 = .ok (.aload_n 0, 1) := by decide +kernel
theorem dX12_read_30 : decode cX12_read 30 = .ok (.iload_n 1, 1) := by decide +kernel
theorem dX12_read_31 : decode cX12_read 31 = .ok (.bipush 12, 2) := by decide +kernel
theorem dX12_read_33 : decode cX12_read 33 = .ok (.if_icmp .ne 7, 3) := by decide +kernel
theorem dX12_read_36 : decode cX12_read 36 = .ok (.iconst 1, 1) := by decide +kernel
theorem dX12_read_37 : decode cX12_read 37 = .ok (.goto 4, 3) := by decide +kernel
theorem dX12_read_40 : decode cX12_read 40 = .ok (.iconst 0, 1) := by decide +kernel
theorem dX12_read_41 : decode cX12_read 41 = .ok (.invokevirtual 458, 3) := by decide +kernel
theorem dX12_read_44 : decode cX12_read 44 = .ok (.istore_n 2, 1) := by decide +kernel
theorem dX12_read_45 : decode cX12_read 45 = .ok (.iinc 1 1, 3) := by decide +kernel
theorem dX12_read_48 : decode cX12_read 48 = .ok (.goto (-30), 3) := by decide +kernel
theorem dX12_read_51 : decode cX12_read 51 = .ok (.aload_n 0, 1) := by decide +kernel
theorem dX12_read_52 : decode cX12_read 52 = .ok (.iconst 0, 1) := by decide +kernel
theorem dX12_read_53 : decode cX12_read 53 = .ok (.putfield 222, 3) := by decide +kernel
theorem dX12_read_56 : decode cX12_read 56 = .ok (.iload_n 2, 1) := by decide +kernel
theorem dX12_read_57 : decode cX12_read 57 = .ok (.ifCond .le 8, 3) := by decide +kernel
theorem dX12_read_60 : decode cX12_read 60 = .ok (.bipush (-10), 2) := by decide +kernel
theorem dX12_read_62 : decode cX12_read 62 = .ok (.iload_n 2, 1) := by decide +kernel
theorem dX12_read_63 : decode cX12_read 63 = .ok (.isub, 1) := by decide +kernel
theorem dX12_read_64 : decode cX12_read 64 = .ok (.ireturn, 1) := by decide +kernel
theorem dX12_read_65 : decode cX12_read 65 = .ok (.aload_n 0, 1) := by decide +kernel
theorem dX12_read_66 : decode cX12_read 66 = .ok (.invokevirtual 157, 3) := by decide +kernel
theorem dX12_read_69 : decode cX12_read 69 = .ok (.iload_n 1, 1) := by decide +kernel
theorem dX12_read_70 : decode cX12_read 70 = .ok (.ireturn, 1) := by decide +kernel
theorem dX12_fault_0 : decode cX12_fault 0 = .ok (.aload_n 0, 1) := by decide +kernel
theorem dX12_fault_1 : decode cX12_fault 1 = .ok (.getfield 150, 3) := by decide +kernel
theorem dX12_fault_4 : decode cX12_fault 4 = .ok (.ireturn, 1) := by decide +kernel
theorem dX12_rule_0 : decode cX12_rule 0 = .ok (.iload_n 1, 1) := by decide +kernel
theorem dX12_rule_1 : decode cX12_rule 1 = .ok (.i2l, 1) := by decide +kernel
theorem dX12_rule_2 : decode cX12_rule 2 = .ok (.lconst 0, 1) := by decide +kernel
theorem dX12_rule_3 : decode cX12_rule 3 = .ok (.ldc2_w 462, 3) := by decide +kernel
theorem dX12_rule_6 : decode cX12_rule 6 = .ok (.invokestatic 165, 3) := by decide +kernel
theorem dX12_rule_9 : decode cX12_rule 9 = .ok (.ifCond .eq 12, 3) := by decide +kernel
theorem dX12_rule_12 : decode cX12_rule 12 = .ok (.aload_n 0, 1) := by decide +kernel
theorem dX12_rule_13 : decode cX12_rule 13 = .ok (.getfield 43, 3) := by decide +kernel
theorem dX12_rule_16 : decode cX12_rule 16 = .ok (.iload_n 1, 1) := by decide +kernel
theorem dX12_rule_17 : decode cX12_rule 17 = .ok (.iaload, 1) := by decide +kernel
theorem dX12_rule_18 : decode cX12_rule 18 = .ok (.goto 6, 3) := by decide +kernel
theorem dX12_rule_21 : decode cX12_rule 21 = .ok (.sipush (-1002), 3) := by decide +kernel
theorem dX12_rule_24 : decode cX12_rule 24 = .ok (.ireturn, 1) := by decide +kernel
theorem dL_law_0 : decode cL_law 0 = .ok (.new 7, 3) := by decide +kernel
theorem dL_law_3 : decode cL_law 3 = .ok (.dup, 1) := by decide +kernel
theorem dL_law_4 : decode cL_law 4 = .ok (.invokespecial 9, 3) := by decide +kernel
theorem dL_law_7 : decode cL_law 7 = .ok (.astore_n 1, 1) := by decide +kernel
theorem dL_law_8 : decode cL_law 8 = .ok (.new 10, 3) := by decide +kernel
theorem dL_law_11 : decode cL_law 11 = .ok (.dup, 1) := by decide +kernel
theorem dL_law_12 : decode cL_law 12 = .ok (.invokespecial 12, 3) := by decide +kernel
theorem dL_law_15 : decode cL_law 15 = .ok (.astore_n 2, 1) := by decide +kernel
theorem dL_law_16 : decode cL_law 16 = .ok (.iconst 0, 1) := by decide +kernel
theorem dL_law_17 : decode cL_law 17 = .ok (.istore_n 3, 1) := by decide +kernel
theorem dL_law_18 : decode cL_law 18 = .ok (.iload_n 3, 1) := by decide +kernel
theorem dL_law_19 : decode cL_law 19 = .ok (.aload_n 0, 1) := by decide +kernel
theorem dL_law_20 : decode cL_law 20 = .ok (.arraylength, 1) := by decide +kernel
theorem dL_law_21 : decode cL_law 21 = .ok (.bipush 6, 2) := by decide +kernel
theorem dL_law_23 : decode cL_law 23 = .ok (.isub, 1) := by decide +kernel
theorem dL_law_24 : decode cL_law 24 = .ok (.if_icmp .gt 1425, 3) := by decide +kernel
theorem dL_law_27 : decode cL_law 27 = .ok (.aload_n 0, 1) := by decide +kernel
theorem dL_law_28 : decode cL_law 28 = .ok (.iload_n 3, 1) := by decide +kernel
theorem dL_law_29 : decode cL_law 29 = .ok (.iaload, 1) := by decide +kernel
theorem dL_law_30 : decode cL_law 30 = .ok (.bipush 31, 2) := by decide +kernel
theorem dL_law_32 : decode cL_law 32 = .ok (.iand, 1) := by decide +kernel
theorem dL_law_33 : decode cL_law 33 = .ok (.tableswitch 1410 0 31 #[143, 186, 239, 292, 335, 358, 391, 414, 467, 520, 574, 627, 690, 739, 762, 785, 828, 871, 915, 958, 1001, 1054, 1087, 1151, 1185, 1238, 1261, 1284, 1298, 1361, 1374, 1387], 143) := by decide +kernel
theorem dL_law_176 : decode cL_law 176 = .ok (.aload_n 1, 1) := by decide +kernel
theorem dL_law_177 : decode cL_law 177 = .ok (.aload_n 0, 1) := by decide +kernel
theorem dL_law_178 : decode cL_law 178 = .ok (.iload_n 3, 1) := by decide +kernel
theorem dL_law_179 : decode cL_law 179 = .ok (.iconst 1, 1) := by decide +kernel
theorem dL_law_180 : decode cL_law 180 = .ok (.iadd, 1) := by decide +kernel
theorem dL_law_181 : decode cL_law 181 = .ok (.iaload, 1) := by decide +kernel
theorem dL_law_182 : decode cL_law 182 = .ok (.aload_n 0, 1) := by decide +kernel
theorem dL_law_183 : decode cL_law 183 = .ok (.iload_n 3, 1) := by decide +kernel
theorem dL_law_184 : decode cL_law 184 = .ok (.iconst 2, 1) := by decide +kernel
theorem dL_law_185 : decode cL_law 185 = .ok (.iadd, 1) := by decide +kernel
theorem dL_law_186 : decode cL_law 186 = .ok (.iaload, 1) := by decide +kernel
theorem dL_law_187 : decode cL_law 187 = .ok (.aload_n 0, 1) := by decide +kernel
theorem dL_law_188 : decode cL_law 188 = .ok (.iload_n 3, 1) := by decide +kernel
theorem dL_law_189 : decode cL_law 189 = .ok (.iconst 3, 1) := by decide +kernel
theorem dL_law_190 : decode cL_law 190 = .ok (.iadd, 1) := by decide +kernel
theorem dL_law_191 : decode cL_law 191 = .ok (.iaload, 1) := by decide +kernel
theorem dL_law_192 : decode cL_law 192 = .ok (.invokevirtual 13, 3) := by decide +kernel
theorem dL_law_195 : decode cL_law 195 = .ok (.aload_n 2, 1) := by decide +kernel
theorem dL_law_196 : decode cL_law 196 = .ok (.aload_n 0, 1) := by decide +kernel
theorem dL_law_197 : decode cL_law 197 = .ok (.iload_n 3, 1) := by decide +kernel
theorem dL_law_198 : decode cL_law 198 = .ok (.iconst 1, 1) := by decide +kernel
theorem dL_law_199 : decode cL_law 199 = .ok (.iadd, 1) := by decide +kernel
theorem dL_law_200 : decode cL_law 200 = .ok (.iaload, 1) := by decide +kernel
theorem dL_law_201 : decode cL_law 201 = .ok (.aload_n 0, 1) := by decide +kernel
theorem dL_law_202 : decode cL_law 202 = .ok (.iload_n 3, 1) := by decide +kernel
theorem dL_law_203 : decode cL_law 203 = .ok (.iconst 2, 1) := by decide +kernel
theorem dL_law_204 : decode cL_law 204 = .ok (.iadd, 1) := by decide +kernel
theorem dL_law_205 : decode cL_law 205 = .ok (.iaload, 1) := by decide +kernel
theorem dL_law_206 : decode cL_law 206 = .ok (.aload_n 0, 1) := by decide +kernel
theorem dL_law_207 : decode cL_law 207 = .ok (.iload_n 3, 1) := by decide +kernel
theorem dL_law_208 : decode cL_law 208 = .ok (.iconst 3, 1) := by decide +kernel
theorem dL_law_209 : decode cL_law 209 = .ok (.iadd, 1) := by decide +kernel
theorem dL_law_210 : decode cL_law 210 = .ok (.iaload, 1) := by decide +kernel
theorem dL_law_211 : decode cL_law 211 = .ok (.invokevirtual 17, 3) := by decide +kernel
theorem dL_law_214 : decode cL_law 214 = .ok (.if_icmp .eq 1229, 3) := by decide +kernel
theorem dL_law_217 : decode cL_law 217 = .ok (.iconst 0, 1) := by decide +kernel
theorem dL_law_218 : decode cL_law 218 = .ok (.ireturn, 1) := by decide +kernel
theorem dL_law_219 : decode cL_law 219 = .ok (.aload_n 1, 1) := by decide +kernel
theorem dL_law_220 : decode cL_law 220 = .ok (.aload_n 0, 1) := by decide +kernel
theorem dL_law_221 : decode cL_law 221 = .ok (.iload_n 3, 1) := by decide +kernel
theorem dL_law_222 : decode cL_law 222 = .ok (.iconst 1, 1) := by decide +kernel
theorem dL_law_223 : decode cL_law 223 = .ok (.iadd, 1) := by decide +kernel
theorem dL_law_224 : decode cL_law 224 = .ok (.iaload, 1) := by decide +kernel
theorem dL_law_225 : decode cL_law 225 = .ok (.aload_n 0, 1) := by decide +kernel
theorem dL_law_226 : decode cL_law 226 = .ok (.iload_n 3, 1) := by decide +kernel
theorem dL_law_227 : decode cL_law 227 = .ok (.iconst 2, 1) := by decide +kernel
theorem dL_law_228 : decode cL_law 228 = .ok (.iadd, 1) := by decide +kernel
theorem dL_law_229 : decode cL_law 229 = .ok (.iaload, 1) := by decide +kernel
theorem dL_law_230 : decode cL_law 230 = .ok (.aload_n 0, 1) := by decide +kernel
theorem dL_law_231 : decode cL_law 231 = .ok (.iload_n 3, 1) := by decide +kernel
theorem dL_law_232 : decode cL_law 232 = .ok (.iconst 3, 1) := by decide +kernel
theorem dL_law_233 : decode cL_law 233 = .ok (.iadd, 1) := by decide +kernel
theorem dL_law_234 : decode cL_law 234 = .ok (.iaload, 1) := by decide +kernel
theorem dL_law_235 : decode cL_law 235 = .ok (.aload_n 0, 1) := by decide +kernel
theorem dL_law_236 : decode cL_law 236 = .ok (.iload_n 3, 1) := by decide +kernel
theorem dL_law_237 : decode cL_law 237 = .ok (.iconst 4, 1) := by decide +kernel
theorem dL_law_238 : decode cL_law 238 = .ok (.iadd, 1) := by decide +kernel
theorem dL_law_239 : decode cL_law 239 = .ok (.iaload, 1) := by decide +kernel
theorem dL_law_240 : decode cL_law 240 = .ok (.invokevirtual 18, 3) := by decide +kernel
theorem dL_law_243 : decode cL_law 243 = .ok (.aload_n 2, 1) := by decide +kernel
theorem dL_law_244 : decode cL_law 244 = .ok (.aload_n 0, 1) := by decide +kernel
theorem dL_law_245 : decode cL_law 245 = .ok (.iload_n 3, 1) := by decide +kernel
theorem dL_law_246 : decode cL_law 246 = .ok (.iconst 1, 1) := by decide +kernel
theorem dL_law_247 : decode cL_law 247 = .ok (.iadd, 1) := by decide +kernel
theorem dL_law_248 : decode cL_law 248 = .ok (.iaload, 1) := by decide +kernel
theorem dL_law_249 : decode cL_law 249 = .ok (.aload_n 0, 1) := by decide +kernel
theorem dL_law_250 : decode cL_law 250 = .ok (.iload_n 3, 1) := by decide +kernel
theorem dL_law_251 : decode cL_law 251 = .ok (.iconst 2, 1) := by decide +kernel
theorem dL_law_252 : decode cL_law 252 = .ok (.iadd, 1) := by decide +kernel
theorem dL_law_253 : decode cL_law 253 = .ok (.iaload, 1) := by decide +kernel
theorem dL_law_254 : decode cL_law 254 = .ok (.aload_n 0, 1) := by decide +kernel
theorem dL_law_255 : decode cL_law 255 = .ok (.iload_n 3, 1) := by decide +kernel
theorem dL_law_256 : decode cL_law 256 = .ok (.iconst 3, 1) := by decide +kernel
theorem dL_law_257 : decode cL_law 257 = .ok (.iadd, 1) := by decide +kernel
theorem dL_law_258 : decode cL_law 258 = .ok (.iaload, 1) := by decide +kernel
theorem dL_law_259 : decode cL_law 259 = .ok (.aload_n 0, 1) := by decide +kernel
theorem dL_law_260 : decode cL_law 260 = .ok (.iload_n 3, 1) := by decide +kernel
theorem dL_law_261 : decode cL_law 261 = .ok (.iconst 4, 1) := by decide +kernel
theorem dL_law_262 : decode cL_law 262 = .ok (.iadd, 1) := by decide +kernel
theorem dL_law_263 : decode cL_law 263 = .ok (.iaload, 1) := by decide +kernel
theorem dL_law_264 : decode cL_law 264 = .ok (.invokevirtual 22, 3) := by decide +kernel
theorem dL_law_267 : decode cL_law 267 = .ok (.if_icmp .eq 1176, 3) := by decide +kernel
theorem dL_law_270 : decode cL_law 270 = .ok (.iconst 0, 1) := by decide +kernel
theorem dL_law_271 : decode cL_law 271 = .ok (.ireturn, 1) := by decide +kernel
theorem dL_law_272 : decode cL_law 272 = .ok (.aload_n 1, 1) := by decide +kernel
theorem dL_law_273 : decode cL_law 273 = .ok (.aload_n 0, 1) := by decide +kernel
theorem dL_law_274 : decode cL_law 274 = .ok (.iload_n 3, 1) := by decide +kernel
theorem dL_law_275 : decode cL_law 275 = .ok (.iconst 1, 1) := by decide +kernel
theorem dL_law_276 : decode cL_law 276 = .ok (.iadd, 1) := by decide +kernel
theorem dL_law_277 : decode cL_law 277 = .ok (.iaload, 1) := by decide +kernel
theorem dL_law_278 : decode cL_law 278 = .ok (.aload_n 0, 1) := by decide +kernel
theorem dL_law_279 : decode cL_law 279 = .ok (.iload_n 3, 1) := by decide +kernel
theorem dL_law_280 : decode cL_law 280 = .ok (.iconst 2, 1) := by decide +kernel
theorem dL_law_281 : decode cL_law 281 = .ok (.iadd, 1) := by decide +kernel
theorem dL_law_282 : decode cL_law 282 = .ok (.iaload, 1) := by decide +kernel
theorem dL_law_283 : decode cL_law 283 = .ok (.aload_n 0, 1) := by decide +kernel
theorem dL_law_284 : decode cL_law 284 = .ok (.iload_n 3, 1) := by decide +kernel
theorem dL_law_285 : decode cL_law 285 = .ok (.iconst 3, 1) := by decide +kernel
theorem dL_law_286 : decode cL_law 286 = .ok (.iadd, 1) := by decide +kernel
theorem dL_law_287 : decode cL_law 287 = .ok (.iaload, 1) := by decide +kernel
theorem dL_law_288 : decode cL_law 288 = .ok (.aload_n 0, 1) := by decide +kernel
theorem dL_law_289 : decode cL_law 289 = .ok (.iload_n 3, 1) := by decide +kernel
theorem dL_law_290 : decode cL_law 290 = .ok (.iconst 4, 1) := by decide +kernel
theorem dL_law_291 : decode cL_law 291 = .ok (.iadd, 1) := by decide +kernel
theorem dL_law_292 : decode cL_law 292 = .ok (.iaload, 1) := by decide +kernel
theorem dL_law_293 : decode cL_law 293 = .ok (.invokevirtual 23, 3) := by decide +kernel
theorem dL_law_296 : decode cL_law 296 = .ok (.aload_n 2, 1) := by decide +kernel
theorem dL_law_297 : decode cL_law 297 = .ok (.aload_n 0, 1) := by decide +kernel
theorem dL_law_298 : decode cL_law 298 = .ok (.iload_n 3, 1) := by decide +kernel
theorem dL_law_299 : decode cL_law 299 = .ok (.iconst 1, 1) := by decide +kernel
theorem dL_law_300 : decode cL_law 300 = .ok (.iadd, 1) := by decide +kernel
theorem dL_law_301 : decode cL_law 301 = .ok (.iaload, 1) := by decide +kernel
theorem dL_law_302 : decode cL_law 302 = .ok (.aload_n 0, 1) := by decide +kernel
theorem dL_law_303 : decode cL_law 303 = .ok (.iload_n 3, 1) := by decide +kernel
theorem dL_law_304 : decode cL_law 304 = .ok (.iconst 2, 1) := by decide +kernel
theorem dL_law_305 : decode cL_law 305 = .ok (.iadd, 1) := by decide +kernel
theorem dL_law_306 : decode cL_law 306 = .ok (.iaload, 1) := by decide +kernel
theorem dL_law_307 : decode cL_law 307 = .ok (.aload_n 0, 1) := by decide +kernel
theorem dL_law_308 : decode cL_law 308 = .ok (.iload_n 3, 1) := by decide +kernel
theorem dL_law_309 : decode cL_law 309 = .ok (.iconst 3, 1) := by decide +kernel
theorem dL_law_310 : decode cL_law 310 = .ok (.iadd, 1) := by decide +kernel
theorem dL_law_311 : decode cL_law 311 = .ok (.iaload, 1) := by decide +kernel
theorem dL_law_312 : decode cL_law 312 = .ok (.aload_n 0, 1) := by decide +kernel
theorem dL_law_313 : decode cL_law 313 = .ok (.iload_n 3, 1) := by decide +kernel
theorem dL_law_314 : decode cL_law 314 = .ok (.iconst 4, 1) := by decide +kernel
theorem dL_law_315 : decode cL_law 315 = .ok (.iadd, 1) := by decide +kernel
theorem dL_law_316 : decode cL_law 316 = .ok (.iaload, 1) := by decide +kernel
theorem dL_law_317 : decode cL_law 317 = .ok (.invokevirtual 26, 3) := by decide +kernel
theorem dL_law_320 : decode cL_law 320 = .ok (.if_icmp .eq 1123, 3) := by decide +kernel
theorem dL_law_323 : decode cL_law 323 = .ok (.iconst 0, 1) := by decide +kernel
theorem dL_law_324 : decode cL_law 324 = .ok (.ireturn, 1) := by decide +kernel
theorem dL_law_325 : decode cL_law 325 = .ok (.aload_n 1, 1) := by decide +kernel
theorem dL_law_326 : decode cL_law 326 = .ok (.aload_n 0, 1) := by decide +kernel
theorem dL_law_327 : decode cL_law 327 = .ok (.iload_n 3, 1) := by decide +kernel
theorem dL_law_328 : decode cL_law 328 = .ok (.iconst 1, 1) := by decide +kernel
theorem dL_law_329 : decode cL_law 329 = .ok (.iadd, 1) := by decide +kernel
theorem dL_law_330 : decode cL_law 330 = .ok (.iaload, 1) := by decide +kernel
theorem dL_law_331 : decode cL_law 331 = .ok (.aload_n 0, 1) := by decide +kernel
theorem dL_law_332 : decode cL_law 332 = .ok (.iload_n 3, 1) := by decide +kernel
theorem dL_law_333 : decode cL_law 333 = .ok (.iconst 2, 1) := by decide +kernel
theorem dL_law_334 : decode cL_law 334 = .ok (.iadd, 1) := by decide +kernel
theorem dL_law_335 : decode cL_law 335 = .ok (.iaload, 1) := by decide +kernel
theorem dL_law_336 : decode cL_law 336 = .ok (.aload_n 0, 1) := by decide +kernel
theorem dL_law_337 : decode cL_law 337 = .ok (.iload_n 3, 1) := by decide +kernel
theorem dL_law_338 : decode cL_law 338 = .ok (.iconst 3, 1) := by decide +kernel
theorem dL_law_339 : decode cL_law 339 = .ok (.iadd, 1) := by decide +kernel
theorem dL_law_340 : decode cL_law 340 = .ok (.iaload, 1) := by decide +kernel
theorem dL_law_341 : decode cL_law 341 = .ok (.invokevirtual 27, 3) := by decide +kernel
theorem dL_law_344 : decode cL_law 344 = .ok (.aload_n 2, 1) := by decide +kernel
theorem dL_law_345 : decode cL_law 345 = .ok (.aload_n 0, 1) := by decide +kernel
theorem dL_law_346 : decode cL_law 346 = .ok (.iload_n 3, 1) := by decide +kernel
theorem dL_law_347 : decode cL_law 347 = .ok (.iconst 1, 1) := by decide +kernel
theorem dL_law_348 : decode cL_law 348 = .ok (.iadd, 1) := by decide +kernel
theorem dL_law_349 : decode cL_law 349 = .ok (.iaload, 1) := by decide +kernel
theorem dL_law_350 : decode cL_law 350 = .ok (.aload_n 0, 1) := by decide +kernel
theorem dL_law_351 : decode cL_law 351 = .ok (.iload_n 3, 1) := by decide +kernel
theorem dL_law_352 : decode cL_law 352 = .ok (.iconst 2, 1) := by decide +kernel
theorem dL_law_353 : decode cL_law 353 = .ok (.iadd, 1) := by decide +kernel
theorem dL_law_354 : decode cL_law 354 = .ok (.iaload, 1) := by decide +kernel
theorem dL_law_355 : decode cL_law 355 = .ok (.aload_n 0, 1) := by decide +kernel
theorem dL_law_356 : decode cL_law 356 = .ok (.iload_n 3, 1) := by decide +kernel
theorem dL_law_357 : decode cL_law 357 = .ok (.iconst 3, 1) := by decide +kernel
theorem dL_law_358 : decode cL_law 358 = .ok (.iadd, 1) := by decide +kernel
theorem dL_law_359 : decode cL_law 359 = .ok (.iaload, 1) := by decide +kernel
theorem dL_law_360 : decode cL_law 360 = .ok (.invokevirtual 30, 3) := by decide +kernel
theorem dL_law_363 : decode cL_law 363 = .ok (.if_icmp .eq 1080, 3) := by decide +kernel
theorem dL_law_366 : decode cL_law 366 = .ok (.iconst 0, 1) := by decide +kernel
theorem dL_law_367 : decode cL_law 367 = .ok (.ireturn, 1) := by decide +kernel
theorem dL_law_368 : decode cL_law 368 = .ok (.aload_n 1, 1) := by decide +kernel
theorem dL_law_369 : decode cL_law 369 = .ok (.aload_n 0, 1) := by decide +kernel
theorem dL_law_370 : decode cL_law 370 = .ok (.iload_n 3, 1) := by decide +kernel
theorem dL_law_371 : decode cL_law 371 = .ok (.iconst 1, 1) := by decide +kernel
theorem dL_law_372 : decode cL_law 372 = .ok (.iadd, 1) := by decide +kernel
theorem dL_law_373 : decode cL_law 373 = .ok (.iaload, 1) := by decide +kernel
theorem dL_law_374 : decode cL_law 374 = .ok (.invokevirtual 31, 3) := by decide +kernel
theorem dL_law_377 : decode cL_law 377 = .ok (.aload_n 2, 1) := by decide +kernel
theorem dL_law_378 : decode cL_law 378 = .ok (.aload_n 0, 1) := by decide +kernel
theorem dL_law_379 : decode cL_law 379 = .ok (.iload_n 3, 1) := by decide +kernel
theorem dL_law_380 : decode cL_law 380 = .ok (.iconst 1, 1) := by decide +kernel
theorem dL_law_381 : decode cL_law 381 = .ok (.iadd, 1) := by decide +kernel
theorem dL_law_382 : decode cL_law 382 = .ok (.iaload, 1) := by decide +kernel
theorem dL_law_383 : decode cL_law 383 = .ok (.invokevirtual 35, 3) := by decide +kernel
theorem dL_law_386 : decode cL_law 386 = .ok (.if_icmp .eq 1057, 3) := by decide +kernel
theorem dL_law_389 : decode cL_law 389 = .ok (.iconst 0, 1) := by decide +kernel
theorem dL_law_390 : decode cL_law 390 = .ok (.ireturn, 1) := by decide +kernel
theorem dL_law_391 : decode cL_law 391 = .ok (.aload_n 1, 1) := by decide +kernel
theorem dL_law_392 : decode cL_law 392 = .ok (.aload_n 0, 1) := by decide +kernel
theorem dL_law_393 : decode cL_law 393 = .ok (.iload_n 3, 1) := by decide +kernel
theorem dL_law_394 : decode cL_law 394 = .ok (.iconst 1, 1) := by decide +kernel
theorem dL_law_395 : decode cL_law 395 = .ok (.iadd, 1) := by decide +kernel
theorem dL_law_396 : decode cL_law 396 = .ok (.iaload, 1) := by decide +kernel
theorem dL_law_397 : decode cL_law 397 = .ok (.aload_n 0, 1) := by decide +kernel
theorem dL_law_398 : decode cL_law 398 = .ok (.iload_n 3, 1) := by decide +kernel
theorem dL_law_399 : decode cL_law 399 = .ok (.iconst 2, 1) := by decide +kernel
theorem dL_law_400 : decode cL_law 400 = .ok (.iadd, 1) := by decide +kernel
theorem dL_law_401 : decode cL_law 401 = .ok (.iaload, 1) := by decide +kernel
theorem dL_law_402 : decode cL_law 402 = .ok (.invokevirtual 36, 3) := by decide +kernel
theorem dL_law_405 : decode cL_law 405 = .ok (.aload_n 2, 1) := by decide +kernel
theorem dL_law_406 : decode cL_law 406 = .ok (.aload_n 0, 1) := by decide +kernel
theorem dL_law_407 : decode cL_law 407 = .ok (.iload_n 3, 1) := by decide +kernel
theorem dL_law_408 : decode cL_law 408 = .ok (.iconst 1, 1) := by decide +kernel
theorem dL_law_409 : decode cL_law 409 = .ok (.iadd, 1) := by decide +kernel
theorem dL_law_410 : decode cL_law 410 = .ok (.iaload, 1) := by decide +kernel
theorem dL_law_411 : decode cL_law 411 = .ok (.aload_n 0, 1) := by decide +kernel
theorem dL_law_412 : decode cL_law 412 = .ok (.iload_n 3, 1) := by decide +kernel
theorem dL_law_413 : decode cL_law 413 = .ok (.iconst 2, 1) := by decide +kernel
theorem dL_law_414 : decode cL_law 414 = .ok (.iadd, 1) := by decide +kernel
theorem dL_law_415 : decode cL_law 415 = .ok (.iaload, 1) := by decide +kernel
theorem dL_law_416 : decode cL_law 416 = .ok (.invokevirtual 40, 3) := by decide +kernel
theorem dL_law_419 : decode cL_law 419 = .ok (.if_icmp .eq 1024, 3) := by decide +kernel
theorem dL_law_422 : decode cL_law 422 = .ok (.iconst 0, 1) := by decide +kernel
theorem dL_law_423 : decode cL_law 423 = .ok (.ireturn, 1) := by decide +kernel
theorem dL_law_424 : decode cL_law 424 = .ok (.aload_n 1, 1) := by decide +kernel
theorem dL_law_425 : decode cL_law 425 = .ok (.aload_n 0, 1) := by decide +kernel
theorem dL_law_426 : decode cL_law 426 = .ok (.iload_n 3, 1) := by decide +kernel
theorem dL_law_427 : decode cL_law 427 = .ok (.iconst 1, 1) := by decide +kernel
theorem dL_law_428 : decode cL_law 428 = .ok (.iadd, 1) := by decide +kernel
theorem dL_law_429 : decode cL_law 429 = .ok (.iaload, 1) := by decide +kernel
theorem dL_law_430 : decode cL_law 430 = .ok (.invokevirtual 41, 3) := by decide +kernel
theorem dL_law_433 : decode cL_law 433 = .ok (.aload_n 2, 1) := by decide +kernel
theorem dL_law_434 : decode cL_law 434 = .ok (.aload_n 0, 1) := by decide +kernel
theorem dL_law_435 : decode cL_law 435 = .ok (.iload_n 3, 1) := by decide +kernel
theorem dL_law_436 : decode cL_law 436 = .ok (.iconst 1, 1) := by decide +kernel
theorem dL_law_437 : decode cL_law 437 = .ok (.iadd, 1) := by decide +kernel
theorem dL_law_438 : decode cL_law 438 = .ok (.iaload, 1) := by decide +kernel
theorem dL_law_439 : decode cL_law 439 = .ok (.invokevirtual 44, 3) := by decide +kernel
theorem dL_law_442 : decode cL_law 442 = .ok (.if_icmp .eq 1001, 3) := by decide +kernel
theorem dL_law_445 : decode cL_law 445 = .ok (.iconst 0, 1) := by decide +kernel
theorem dL_law_446 : decode cL_law 446 = .ok (.ireturn, 1) := by decide +kernel
theorem dL_law_447 : decode cL_law 447 = .ok (.aload_n 1, 1) := by decide +kernel
theorem dL_law_448 : decode cL_law 448 = .ok (.aload_n 0, 1) := by decide +kernel
theorem dL_law_449 : decode cL_law 449 = .ok (.iload_n 3, 1) := by decide +kernel
theorem dL_law_450 : decode cL_law 450 = .ok (.iconst 1, 1) := by decide +kernel
theorem dL_law_451 : decode cL_law 451 = .ok (.iadd, 1) := by decide +kernel
theorem dL_law_452 : decode cL_law 452 = .ok (.iaload, 1) := by decide +kernel
theorem dL_law_453 : decode cL_law 453 = .ok (.aload_n 0, 1) := by decide +kernel
theorem dL_law_454 : decode cL_law 454 = .ok (.iload_n 3, 1) := by decide +kernel
theorem dL_law_455 : decode cL_law 455 = .ok (.iconst 2, 1) := by decide +kernel
theorem dL_law_456 : decode cL_law 456 = .ok (.iadd, 1) := by decide +kernel
theorem dL_law_457 : decode cL_law 457 = .ok (.iaload, 1) := by decide +kernel
theorem dL_law_458 : decode cL_law 458 = .ok (.aload_n 0, 1) := by decide +kernel
theorem dL_law_459 : decode cL_law 459 = .ok (.iload_n 3, 1) := by decide +kernel
theorem dL_law_460 : decode cL_law 460 = .ok (.iconst 3, 1) := by decide +kernel
theorem dL_law_461 : decode cL_law 461 = .ok (.iadd, 1) := by decide +kernel
theorem dL_law_462 : decode cL_law 462 = .ok (.iaload, 1) := by decide +kernel
theorem dL_law_463 : decode cL_law 463 = .ok (.aload_n 0, 1) := by decide +kernel
theorem dL_law_464 : decode cL_law 464 = .ok (.iload_n 3, 1) := by decide +kernel
theorem dL_law_465 : decode cL_law 465 = .ok (.iconst 4, 1) := by decide +kernel
theorem dL_law_466 : decode cL_law 466 = .ok (.iadd, 1) := by decide +kernel
theorem dL_law_467 : decode cL_law 467 = .ok (.iaload, 1) := by decide +kernel
theorem dL_law_468 : decode cL_law 468 = .ok (.invokevirtual 45, 3) := by decide +kernel
theorem dL_law_471 : decode cL_law 471 = .ok (.aload_n 2, 1) := by decide +kernel
theorem dL_law_472 : decode cL_law 472 = .ok (.aload_n 0, 1) := by decide +kernel
theorem dL_law_473 : decode cL_law 473 = .ok (.iload_n 3, 1) := by decide +kernel
theorem dL_law_474 : decode cL_law 474 = .ok (.iconst 1, 1) := by decide +kernel
theorem dL_law_475 : decode cL_law 475 = .ok (.iadd, 1) := by decide +kernel
theorem dL_law_476 : decode cL_law 476 = .ok (.iaload, 1) := by decide +kernel
theorem dL_law_477 : decode cL_law 477 = .ok (.aload_n 0, 1) := by decide +kernel
theorem dL_law_478 : decode cL_law 478 = .ok (.iload_n 3, 1) := by decide +kernel
theorem dL_law_479 : decode cL_law 479 = .ok (.iconst 2, 1) := by decide +kernel
theorem dL_law_480 : decode cL_law 480 = .ok (.iadd, 1) := by decide +kernel
theorem dL_law_481 : decode cL_law 481 = .ok (.iaload, 1) := by decide +kernel
theorem dL_law_482 : decode cL_law 482 = .ok (.aload_n 0, 1) := by decide +kernel
theorem dL_law_483 : decode cL_law 483 = .ok (.iload_n 3, 1) := by decide +kernel
theorem dL_law_484 : decode cL_law 484 = .ok (.iconst 3, 1) := by decide +kernel
theorem dL_law_485 : decode cL_law 485 = .ok (.iadd, 1) := by decide +kernel
theorem dL_law_486 : decode cL_law 486 = .ok (.iaload, 1) := by decide +kernel
theorem dL_law_487 : decode cL_law 487 = .ok (.aload_n 0, 1) := by decide +kernel
theorem dL_law_488 : decode cL_law 488 = .ok (.iload_n 3, 1) := by decide +kernel
theorem dL_law_489 : decode cL_law 489 = .ok (.iconst 4, 1) := by decide +kernel
theorem dL_law_490 : decode cL_law 490 = .ok (.iadd, 1) := by decide +kernel
theorem dL_law_491 : decode cL_law 491 = .ok (.iaload, 1) := by decide +kernel
theorem dL_law_492 : decode cL_law 492 = .ok (.invokevirtual 48, 3) := by decide +kernel
theorem dL_law_495 : decode cL_law 495 = .ok (.if_icmp .eq 948, 3) := by decide +kernel
theorem dL_law_498 : decode cL_law 498 = .ok (.iconst 0, 1) := by decide +kernel
theorem dL_law_499 : decode cL_law 499 = .ok (.ireturn, 1) := by decide +kernel
theorem dL_law_500 : decode cL_law 500 = .ok (.aload_n 1, 1) := by decide +kernel
theorem dL_law_501 : decode cL_law 501 = .ok (.aload_n 0, 1) := by decide +kernel
theorem dL_law_502 : decode cL_law 502 = .ok (.iload_n 3, 1) := by decide +kernel
theorem dL_law_503 : decode cL_law 503 = .ok (.iconst 1, 1) := by decide +kernel
theorem dL_law_504 : decode cL_law 504 = .ok (.iadd, 1) := by decide +kernel
theorem dL_law_505 : decode cL_law 505 = .ok (.iaload, 1) := by decide +kernel
theorem dL_law_506 : decode cL_law 506 = .ok (.aload_n 0, 1) := by decide +kernel
theorem dL_law_507 : decode cL_law 507 = .ok (.iload_n 3, 1) := by decide +kernel
theorem dL_law_508 : decode cL_law 508 = .ok (.iconst 2, 1) := by decide +kernel
theorem dL_law_509 : decode cL_law 509 = .ok (.iadd, 1) := by decide +kernel
theorem dL_law_510 : decode cL_law 510 = .ok (.iaload, 1) := by decide +kernel
theorem dL_law_511 : decode cL_law 511 = .ok (.aload_n 0, 1) := by decide +kernel
theorem dL_law_512 : decode cL_law 512 = .ok (.iload_n 3, 1) := by decide +kernel
theorem dL_law_513 : decode cL_law 513 = .ok (.iconst 3, 1) := by decide +kernel
theorem dL_law_514 : decode cL_law 514 = .ok (.iadd, 1) := by decide +kernel
theorem dL_law_515 : decode cL_law 515 = .ok (.iaload, 1) := by decide +kernel
theorem dL_law_516 : decode cL_law 516 = .ok (.aload_n 0, 1) := by decide +kernel
theorem dL_law_517 : decode cL_law 517 = .ok (.iload_n 3, 1) := by decide +kernel
theorem dL_law_518 : decode cL_law 518 = .ok (.iconst 4, 1) := by decide +kernel
theorem dL_law_519 : decode cL_law 519 = .ok (.iadd, 1) := by decide +kernel
theorem dL_law_520 : decode cL_law 520 = .ok (.iaload, 1) := by decide +kernel
theorem dL_law_521 : decode cL_law 521 = .ok (.invokevirtual 49, 3) := by decide +kernel
theorem dL_law_524 : decode cL_law 524 = .ok (.aload_n 2, 1) := by decide +kernel
theorem dL_law_525 : decode cL_law 525 = .ok (.aload_n 0, 1) := by decide +kernel
theorem dL_law_526 : decode cL_law 526 = .ok (.iload_n 3, 1) := by decide +kernel
theorem dL_law_527 : decode cL_law 527 = .ok (.iconst 1, 1) := by decide +kernel
theorem dL_law_528 : decode cL_law 528 = .ok (.iadd, 1) := by decide +kernel
theorem dL_law_529 : decode cL_law 529 = .ok (.iaload, 1) := by decide +kernel
theorem dL_law_530 : decode cL_law 530 = .ok (.aload_n 0, 1) := by decide +kernel
theorem dL_law_531 : decode cL_law 531 = .ok (.iload_n 3, 1) := by decide +kernel
theorem dL_law_532 : decode cL_law 532 = .ok (.iconst 2, 1) := by decide +kernel
theorem dL_law_533 : decode cL_law 533 = .ok (.iadd, 1) := by decide +kernel
theorem dL_law_534 : decode cL_law 534 = .ok (.iaload, 1) := by decide +kernel
theorem dL_law_535 : decode cL_law 535 = .ok (.aload_n 0, 1) := by decide +kernel
theorem dL_law_536 : decode cL_law 536 = .ok (.iload_n 3, 1) := by decide +kernel
theorem dL_law_537 : decode cL_law 537 = .ok (.iconst 3, 1) := by decide +kernel
theorem dL_law_538 : decode cL_law 538 = .ok (.iadd, 1) := by decide +kernel
theorem dL_law_539 : decode cL_law 539 = .ok (.iaload, 1) := by decide +kernel
theorem dL_law_540 : decode cL_law 540 = .ok (.aload_n 0, 1) := by decide +kernel
theorem dL_law_541 : decode cL_law 541 = .ok (.iload_n 3, 1) := by decide +kernel
theorem dL_law_542 : decode cL_law 542 = .ok (.iconst 4, 1) := by decide +kernel
theorem dL_law_543 : decode cL_law 543 = .ok (.iadd, 1) := by decide +kernel
theorem dL_law_544 : decode cL_law 544 = .ok (.iaload, 1) := by decide +kernel
theorem dL_law_545 : decode cL_law 545 = .ok (.invokevirtual 52, 3) := by decide +kernel
theorem dL_law_548 : decode cL_law 548 = .ok (.if_icmp .eq 895, 3) := by decide +kernel
theorem dL_law_551 : decode cL_law 551 = .ok (.iconst 0, 1) := by decide +kernel
theorem dL_law_552 : decode cL_law 552 = .ok (.ireturn, 1) := by decide +kernel
theorem dL_law_553 : decode cL_law 553 = .ok (.aload_n 1, 1) := by decide +kernel
theorem dL_law_554 : decode cL_law 554 = .ok (.aload_n 0, 1) := by decide +kernel
theorem dL_law_555 : decode cL_law 555 = .ok (.iload_n 3, 1) := by decide +kernel
theorem dL_law_556 : decode cL_law 556 = .ok (.iconst 1, 1) := by decide +kernel
theorem dL_law_557 : decode cL_law 557 = .ok (.iadd, 1) := by decide +kernel
theorem dL_law_558 : decode cL_law 558 = .ok (.iaload, 1) := by decide +kernel
theorem dL_law_559 : decode cL_law 559 = .ok (.aload_n 0, 1) := by decide +kernel
theorem dL_law_560 : decode cL_law 560 = .ok (.iload_n 3, 1) := by decide +kernel
theorem dL_law_561 : decode cL_law 561 = .ok (.iconst 2, 1) := by decide +kernel
theorem dL_law_562 : decode cL_law 562 = .ok (.iadd, 1) := by decide +kernel
theorem dL_law_563 : decode cL_law 563 = .ok (.iaload, 1) := by decide +kernel
theorem dL_law_564 : decode cL_law 564 = .ok (.aload_n 0, 1) := by decide +kernel
theorem dL_law_565 : decode cL_law 565 = .ok (.iload_n 3, 1) := by decide +kernel
theorem dL_law_566 : decode cL_law 566 = .ok (.iconst 3, 1) := by decide +kernel
theorem dL_law_567 : decode cL_law 567 = .ok (.iadd, 1) := by decide +kernel
theorem dL_law_568 : decode cL_law 568 = .ok (.iaload, 1) := by decide +kernel
theorem dL_law_569 : decode cL_law 569 = .ok (.aload_n 0, 1) := by decide +kernel
theorem dL_law_570 : decode cL_law 570 = .ok (.iload_n 3, 1) := by decide +kernel
theorem dL_law_571 : decode cL_law 571 = .ok (.iconst 4, 1) := by decide +kernel
theorem dL_law_572 : decode cL_law 572 = .ok (.iadd, 1) := by decide +kernel
theorem dL_law_573 : decode cL_law 573 = .ok (.iaload, 1) := by decide +kernel
theorem dL_law_574 : decode cL_law 574 = .ok (.invokevirtual 53, 3) := by decide +kernel
theorem dL_law_577 : decode cL_law 577 = .ok (.aload_n 2, 1) := by decide +kernel
theorem dL_law_578 : decode cL_law 578 = .ok (.aload_n 0, 1) := by decide +kernel
theorem dL_law_579 : decode cL_law 579 = .ok (.iload_n 3, 1) := by decide +kernel
theorem dL_law_580 : decode cL_law 580 = .ok (.iconst 1, 1) := by decide +kernel
theorem dL_law_581 : decode cL_law 581 = .ok (.iadd, 1) := by decide +kernel
theorem dL_law_582 : decode cL_law 582 = .ok (.iaload, 1) := by decide +kernel
theorem dL_law_583 : decode cL_law 583 = .ok (.aload_n 0, 1) := by decide +kernel
theorem dL_law_584 : decode cL_law 584 = .ok (.iload_n 3, 1) := by decide +kernel
theorem dL_law_585 : decode cL_law 585 = .ok (.iconst 2, 1) := by decide +kernel
theorem dL_law_586 : decode cL_law 586 = .ok (.iadd, 1) := by decide +kernel
theorem dL_law_587 : decode cL_law 587 = .ok (.iaload, 1) := by decide +kernel
theorem dL_law_588 : decode cL_law 588 = .ok (.aload_n 0, 1) := by decide +kernel
theorem dL_law_589 : decode cL_law 589 = .ok (.iload_n 3, 1) := by decide +kernel
theorem dL_law_590 : decode cL_law 590 = .ok (.iconst 3, 1) := by decide +kernel
theorem dL_law_591 : decode cL_law 591 = .ok (.iadd, 1) := by decide +kernel
theorem dL_law_592 : decode cL_law 592 = .ok (.iaload, 1) := by decide +kernel
theorem dL_law_593 : decode cL_law 593 = .ok (.aload_n 0, 1) := by decide +kernel
theorem dL_law_594 : decode cL_law 594 = .ok (.iload_n 3, 1) := by decide +kernel
theorem dL_law_595 : decode cL_law 595 = .ok (.iconst 4, 1) := by decide +kernel
theorem dL_law_596 : decode cL_law 596 = .ok (.iadd, 1) := by decide +kernel
theorem dL_law_597 : decode cL_law 597 = .ok (.iaload, 1) := by decide +kernel
theorem dL_law_598 : decode cL_law 598 = .ok (.invokevirtual 57, 3) := by decide +kernel
theorem dL_law_601 : decode cL_law 601 = .ok (.lcmp, 1) := by decide +kernel
theorem dL_law_602 : decode cL_law 602 = .ok (.ifCond .eq 841, 3) := by decide +kernel
theorem dL_law_605 : decode cL_law 605 = .ok (.iconst 0, 1) := by decide +kernel
theorem dL_law_606 : decode cL_law 606 = .ok (.ireturn, 1) := by decide +kernel
theorem dL_law_607 : decode cL_law 607 = .ok (.aload_n 1, 1) := by decide +kernel
theorem dL_law_608 : decode cL_law 608 = .ok (.aload_n 0, 1) := by decide +kernel
theorem dL_law_609 : decode cL_law 609 = .ok (.iload_n 3, 1) := by decide +kernel
theorem dL_law_610 : decode cL_law 610 = .ok (.iconst 1, 1) := by decide +kernel
theorem dL_law_611 : decode cL_law 611 = .ok (.iadd, 1) := by decide +kernel
theorem dL_law_612 : decode cL_law 612 = .ok (.iaload, 1) := by decide +kernel
theorem dL_law_613 : decode cL_law 613 = .ok (.aload_n 0, 1) := by decide +kernel
theorem dL_law_614 : decode cL_law 614 = .ok (.iload_n 3, 1) := by decide +kernel
theorem dL_law_615 : decode cL_law 615 = .ok (.iconst 2, 1) := by decide +kernel
theorem dL_law_616 : decode cL_law 616 = .ok (.iadd, 1) := by decide +kernel
theorem dL_law_617 : decode cL_law 617 = .ok (.iaload, 1) := by decide +kernel
theorem dL_law_618 : decode cL_law 618 = .ok (.aload_n 0, 1) := by decide +kernel
theorem dL_law_619 : decode cL_law 619 = .ok (.iload_n 3, 1) := by decide +kernel
theorem dL_law_620 : decode cL_law 620 = .ok (.iconst 3, 1) := by decide +kernel
theorem dL_law_621 : decode cL_law 621 = .ok (.iadd, 1) := by decide +kernel
theorem dL_law_622 : decode cL_law 622 = .ok (.iaload, 1) := by decide +kernel
theorem dL_law_623 : decode cL_law 623 = .ok (.aload_n 0, 1) := by decide +kernel
theorem dL_law_624 : decode cL_law 624 = .ok (.iload_n 3, 1) := by decide +kernel
theorem dL_law_625 : decode cL_law 625 = .ok (.iconst 4, 1) := by decide +kernel
theorem dL_law_626 : decode cL_law 626 = .ok (.iadd, 1) := by decide +kernel
theorem dL_law_627 : decode cL_law 627 = .ok (.iaload, 1) := by decide +kernel
theorem dL_law_628 : decode cL_law 628 = .ok (.invokevirtual 58, 3) := by decide +kernel
theorem dL_law_631 : decode cL_law 631 = .ok (.aload_n 2, 1) := by decide +kernel
theorem dL_law_632 : decode cL_law 632 = .ok (.aload_n 0, 1) := by decide +kernel
theorem dL_law_633 : decode cL_law 633 = .ok (.iload_n 3, 1) := by decide +kernel
theorem dL_law_634 : decode cL_law 634 = .ok (.iconst 1, 1) := by decide +kernel
theorem dL_law_635 : decode cL_law 635 = .ok (.iadd, 1) := by decide +kernel
theorem dL_law_636 : decode cL_law 636 = .ok (.iaload, 1) := by decide +kernel
theorem dL_law_637 : decode cL_law 637 = .ok (.aload_n 0, 1) := by decide +kernel
theorem dL_law_638 : decode cL_law 638 = .ok (.iload_n 3, 1) := by decide +kernel
theorem dL_law_639 : decode cL_law 639 = .ok (.iconst 2, 1) := by decide +kernel
theorem dL_law_640 : decode cL_law 640 = .ok (.iadd, 1) := by decide +kernel
theorem dL_law_641 : decode cL_law 641 = .ok (.iaload, 1) := by decide +kernel
theorem dL_law_642 : decode cL_law 642 = .ok (.aload_n 0, 1) := by decide +kernel
theorem dL_law_643 : decode cL_law 643 = .ok (.iload_n 3, 1) := by decide +kernel
theorem dL_law_644 : decode cL_law 644 = .ok (.iconst 3, 1) := by decide +kernel
theorem dL_law_645 : decode cL_law 645 = .ok (.iadd, 1) := by decide +kernel
theorem dL_law_646 : decode cL_law 646 = .ok (.iaload, 1) := by decide +kernel
theorem dL_law_647 : decode cL_law 647 = .ok (.aload_n 0, 1) := by decide +kernel
theorem dL_law_648 : decode cL_law 648 = .ok (.iload_n 3, 1) := by decide +kernel
theorem dL_law_649 : decode cL_law 649 = .ok (.iconst 4, 1) := by decide +kernel
theorem dL_law_650 : decode cL_law 650 = .ok (.iadd, 1) := by decide +kernel
theorem dL_law_651 : decode cL_law 651 = .ok (.iaload, 1) := by decide +kernel
theorem dL_law_652 : decode cL_law 652 = .ok (.invokevirtual 61, 3) := by decide +kernel
theorem dL_law_655 : decode cL_law 655 = .ok (.if_icmp .eq 788, 3) := by decide +kernel
theorem dL_law_658 : decode cL_law 658 = .ok (.iconst 0, 1) := by decide +kernel
theorem dL_law_659 : decode cL_law 659 = .ok (.ireturn, 1) := by decide +kernel
theorem dL_law_660 : decode cL_law 660 = .ok (.aload_n 1, 1) := by decide +kernel
theorem dL_law_661 : decode cL_law 661 = .ok (.aload_n 0, 1) := by decide +kernel
theorem dL_law_662 : decode cL_law 662 = .ok (.iload_n 3, 1) := by decide +kernel
theorem dL_law_663 : decode cL_law 663 = .ok (.iconst 1, 1) := by decide +kernel
theorem dL_law_664 : decode cL_law 664 = .ok (.iadd, 1) := by decide +kernel
theorem dL_law_665 : decode cL_law 665 = .ok (.iaload, 1) := by decide +kernel
theorem dL_law_666 : decode cL_law 666 = .ok (.aload_n 0, 1) := by decide +kernel
theorem dL_law_667 : decode cL_law 667 = .ok (.iload_n 3, 1) := by decide +kernel
theorem dL_law_668 : decode cL_law 668 = .ok (.iconst 2, 1) := by decide +kernel
theorem dL_law_669 : decode cL_law 669 = .ok (.iadd, 1) := by decide +kernel
theorem dL_law_670 : decode cL_law 670 = .ok (.iaload, 1) := by decide +kernel
theorem dL_law_671 : decode cL_law 671 = .ok (.aload_n 0, 1) := by decide +kernel
theorem dL_law_672 : decode cL_law 672 = .ok (.iload_n 3, 1) := by decide +kernel
theorem dL_law_673 : decode cL_law 673 = .ok (.iconst 3, 1) := by decide +kernel
theorem dL_law_674 : decode cL_law 674 = .ok (.iadd, 1) := by decide +kernel
theorem dL_law_675 : decode cL_law 675 = .ok (.iaload, 1) := by decide +kernel
theorem dL_law_676 : decode cL_law 676 = .ok (.aload_n 0, 1) := by decide +kernel
theorem dL_law_677 : decode cL_law 677 = .ok (.iload_n 3, 1) := by decide +kernel
theorem dL_law_678 : decode cL_law 678 = .ok (.iconst 4, 1) := by decide +kernel
theorem dL_law_679 : decode cL_law 679 = .ok (.iadd, 1) := by decide +kernel
theorem dL_law_680 : decode cL_law 680 = .ok (.iaload, 1) := by decide +kernel
theorem dL_law_681 : decode cL_law 681 = .ok (.aload_n 0, 1) := by decide +kernel
theorem dL_law_682 : decode cL_law 682 = .ok (.iload_n 3, 1) := by decide +kernel
theorem dL_law_683 : decode cL_law 683 = .ok (.iconst 5, 1) := by decide +kernel
theorem dL_law_684 : decode cL_law 684 = .ok (.iadd, 1) := by decide +kernel
theorem dL_law_685 : decode cL_law 685 = .ok (.iaload, 1) := by decide +kernel
theorem dL_law_686 : decode cL_law 686 = .ok (.invokevirtual 62, 3) := by decide +kernel
theorem dL_law_689 : decode cL_law 689 = .ok (.aload_n 2, 1) := by decide +kernel
theorem dL_law_690 : decode cL_law 690 = .ok (.aload_n 0, 1) := by decide +kernel
theorem dL_law_691 : decode cL_law 691 = .ok (.iload_n 3, 1) := by decide +kernel
theorem dL_law_692 : decode cL_law 692 = .ok (.iconst 1, 1) := by decide +kernel
theorem dL_law_693 : decode cL_law 693 = .ok (.iadd, 1) := by decide +kernel
theorem dL_law_694 : decode cL_law 694 = .ok (.iaload, 1) := by decide +kernel
theorem dL_law_695 : decode cL_law 695 = .ok (.aload_n 0, 1) := by decide +kernel
theorem dL_law_696 : decode cL_law 696 = .ok (.iload_n 3, 1) := by decide +kernel
theorem dL_law_697 : decode cL_law 697 = .ok (.iconst 2, 1) := by decide +kernel
theorem dL_law_698 : decode cL_law 698 = .ok (.iadd, 1) := by decide +kernel
theorem dL_law_699 : decode cL_law 699 = .ok (.iaload, 1) := by decide +kernel
theorem dL_law_700 : decode cL_law 700 = .ok (.aload_n 0, 1) := by decide +kernel
theorem dL_law_701 : decode cL_law 701 = .ok (.iload_n 3, 1) := by decide +kernel
theorem dL_law_702 : decode cL_law 702 = .ok (.iconst 3, 1) := by decide +kernel
theorem dL_law_703 : decode cL_law 703 = .ok (.iadd, 1) := by decide +kernel
theorem dL_law_704 : decode cL_law 704 = .ok (.iaload, 1) := by decide +kernel
theorem dL_law_705 : decode cL_law 705 = .ok (.aload_n 0, 1) := by decide +kernel
theorem dL_law_706 : decode cL_law 706 = .ok (.iload_n 3, 1) := by decide +kernel
theorem dL_law_707 : decode cL_law 707 = .ok (.iconst 4, 1) := by decide +kernel
theorem dL_law_708 : decode cL_law 708 = .ok (.iadd, 1) := by decide +kernel
theorem dL_law_709 : decode cL_law 709 = .ok (.iaload, 1) := by decide +kernel
theorem dL_law_710 : decode cL_law 710 = .ok (.aload_n 0, 1) := by decide +kernel
theorem dL_law_711 : decode cL_law 711 = .ok (.iload_n 3, 1) := by decide +kernel
theorem dL_law_712 : decode cL_law 712 = .ok (.iconst 5, 1) := by decide +kernel
theorem dL_law_713 : decode cL_law 713 = .ok (.iadd, 1) := by decide +kernel
theorem dL_law_714 : decode cL_law 714 = .ok (.iaload, 1) := by decide +kernel
theorem dL_law_715 : decode cL_law 715 = .ok (.invokevirtual 66, 3) := by decide +kernel
theorem dL_law_718 : decode cL_law 718 = .ok (.if_icmp .eq 725, 3) := by decide +kernel
theorem dL_law_721 : decode cL_law 721 = .ok (.iconst 0, 1) := by decide +kernel
theorem dL_law_722 : decode cL_law 722 = .ok (.ireturn, 1) := by decide +kernel
theorem dL_law_723 : decode cL_law 723 = .ok (.aload_n 1, 1) := by decide +kernel
theorem dL_law_724 : decode cL_law 724 = .ok (.aload_n 0, 1) := by decide +kernel
theorem dL_law_725 : decode cL_law 725 = .ok (.iload_n 3, 1) := by decide +kernel
theorem dL_law_726 : decode cL_law 726 = .ok (.iconst 1, 1) := by decide +kernel
theorem dL_law_727 : decode cL_law 727 = .ok (.iadd, 1) := by decide +kernel
theorem dL_law_728 : decode cL_law 728 = .ok (.iaload, 1) := by decide +kernel
theorem dL_law_729 : decode cL_law 729 = .ok (.aload_n 0, 1) := by decide +kernel
theorem dL_law_730 : decode cL_law 730 = .ok (.iload_n 3, 1) := by decide +kernel
theorem dL_law_731 : decode cL_law 731 = .ok (.iconst 2, 1) := by decide +kernel
theorem dL_law_732 : decode cL_law 732 = .ok (.iadd, 1) := by decide +kernel
theorem dL_law_733 : decode cL_law 733 = .ok (.iaload, 1) := by decide +kernel
theorem dL_law_734 : decode cL_law 734 = .ok (.ifCond .eq 7, 3) := by decide +kernel
theorem dL_law_737 : decode cL_law 737 = .ok (.iconst 1, 1) := by decide +kernel
theorem dL_law_738 : decode cL_law 738 = .ok (.goto 4, 3) := by decide +kernel
theorem dL_law_741 : decode cL_law 741 = .ok (.iconst 0, 1) := by decide +kernel
theorem dL_law_742 : decode cL_law 742 = .ok (.invokevirtual 67, 3) := by decide +kernel
theorem dL_law_745 : decode cL_law 745 = .ok (.aload_n 2, 1) := by decide +kernel
theorem dL_law_746 : decode cL_law 746 = .ok (.aload_n 0, 1) := by decide +kernel
theorem dL_law_747 : decode cL_law 747 = .ok (.iload_n 3, 1) := by decide +kernel
theorem dL_law_748 : decode cL_law 748 = .ok (.iconst 1, 1) := by decide +kernel
theorem dL_law_749 : decode cL_law 749 = .ok (.iadd, 1) := by decide +kernel
theorem dL_law_750 : decode cL_law 750 = .ok (.iaload, 1) := by decide +kernel
theorem dL_law_751 : decode cL_law 751 = .ok (.aload_n 0, 1) := by decide +kernel
theorem dL_law_752 : decode cL_law 752 = .ok (.iload_n 3, 1) := by decide +kernel
theorem dL_law_753 : decode cL_law 753 = .ok (.iconst 2, 1) := by decide +kernel
theorem dL_law_754 : decode cL_law 754 = .ok (.iadd, 1) := by decide +kernel
theorem dL_law_755 : decode cL_law 755 = .ok (.iaload, 1) := by decide +kernel
theorem dL_law_756 : decode cL_law 756 = .ok (.ifCond .eq 7, 3) := by decide +kernel
theorem dL_law_759 : decode cL_law 759 = .ok (.iconst 1, 1) := by decide +kernel
theorem dL_law_760 : decode cL_law 760 = .ok (.goto 4, 3) := by decide +kernel
theorem dL_law_763 : decode cL_law 763 = .ok (.iconst 0, 1) := by decide +kernel
theorem dL_law_764 : decode cL_law 764 = .ok (.invokevirtual 71, 3) := by decide +kernel
theorem dL_law_767 : decode cL_law 767 = .ok (.if_icmp .eq 676, 3) := by decide +kernel
theorem dL_law_770 : decode cL_law 770 = .ok (.iconst 0, 1) := by decide +kernel
theorem dL_law_771 : decode cL_law 771 = .ok (.ireturn, 1) := by decide +kernel
theorem dL_law_772 : decode cL_law 772 = .ok (.aload_n 1, 1) := by decide +kernel
theorem dL_law_773 : decode cL_law 773 = .ok (.aload_n 0, 1) := by decide +kernel
theorem dL_law_774 : decode cL_law 774 = .ok (.iload_n 3, 1) := by decide +kernel
theorem dL_law_775 : decode cL_law 775 = .ok (.iconst 1, 1) := by decide +kernel
theorem dL_law_776 : decode cL_law 776 = .ok (.iadd, 1) := by decide +kernel
theorem dL_law_777 : decode cL_law 777 = .ok (.iaload, 1) := by decide +kernel
theorem dL_law_778 : decode cL_law 778 = .ok (.invokevirtual 72, 3) := by decide +kernel
theorem dL_law_781 : decode cL_law 781 = .ok (.aload_n 2, 1) := by decide +kernel
theorem dL_law_782 : decode cL_law 782 = .ok (.aload_n 0, 1) := by decide +kernel
theorem dL_law_783 : decode cL_law 783 = .ok (.iload_n 3, 1) := by decide +kernel
theorem dL_law_784 : decode cL_law 784 = .ok (.iconst 1, 1) := by decide +kernel
theorem dL_law_785 : decode cL_law 785 = .ok (.iadd, 1) := by decide +kernel
theorem dL_law_786 : decode cL_law 786 = .ok (.iaload, 1) := by decide +kernel
theorem dL_law_787 : decode cL_law 787 = .ok (.invokevirtual 75, 3) := by decide +kernel
theorem dL_law_790 : decode cL_law 790 = .ok (.if_icmp .eq 653, 3) := by decide +kernel
theorem dL_law_793 : decode cL_law 793 = .ok (.iconst 0, 1) := by decide +kernel
theorem dL_law_794 : decode cL_law 794 = .ok (.ireturn, 1) := by decide +kernel
theorem dL_law_795 : decode cL_law 795 = .ok (.aload_n 1, 1) := by decide +kernel
theorem dL_law_796 : decode cL_law 796 = .ok (.aload_n 0, 1) := by decide +kernel
theorem dL_law_797 : decode cL_law 797 = .ok (.iload_n 3, 1) := by decide +kernel
theorem dL_law_798 : decode cL_law 798 = .ok (.iconst 1, 1) := by decide +kernel
theorem dL_law_799 : decode cL_law 799 = .ok (.iadd, 1) := by decide +kernel
theorem dL_law_800 : decode cL_law 800 = .ok (.iaload, 1) := by decide +kernel
theorem dL_law_801 : decode cL_law 801 = .ok (.invokevirtual 76, 3) := by decide +kernel
theorem dL_law_804 : decode cL_law 804 = .ok (.aload_n 2, 1) := by decide +kernel
theorem dL_law_805 : decode cL_law 805 = .ok (.aload_n 0, 1) := by decide +kernel
theorem dL_law_806 : decode cL_law 806 = .ok (.iload_n 3, 1) := by decide +kernel
theorem dL_law_807 : decode cL_law 807 = .ok (.iconst 1, 1) := by decide +kernel
theorem dL_law_808 : decode cL_law 808 = .ok (.iadd, 1) := by decide +kernel
theorem dL_law_809 : decode cL_law 809 = .ok (.iaload, 1) := by decide +kernel
theorem dL_law_810 : decode cL_law 810 = .ok (.invokevirtual 79, 3) := by decide +kernel
theorem dL_law_813 : decode cL_law 813 = .ok (.if_icmp .eq 630, 3) := by decide +kernel
theorem dL_law_816 : decode cL_law 816 = .ok (.iconst 0, 1) := by decide +kernel
theorem dL_law_817 : decode cL_law 817 = .ok (.ireturn, 1) := by decide +kernel
theorem dL_law_818 : decode cL_law 818 = .ok (.aload_n 1, 1) := by decide +kernel
theorem dL_law_819 : decode cL_law 819 = .ok (.aload_n 0, 1) := by decide +kernel
theorem dL_law_820 : decode cL_law 820 = .ok (.iload_n 3, 1) := by decide +kernel
theorem dL_law_821 : decode cL_law 821 = .ok (.iconst 1, 1) := by decide +kernel
theorem dL_law_822 : decode cL_law 822 = .ok (.iadd, 1) := by decide +kernel
theorem dL_law_823 : decode cL_law 823 = .ok (.iaload, 1) := by decide +kernel
theorem dL_law_824 : decode cL_law 824 = .ok (.aload_n 0, 1) := by decide +kernel
theorem dL_law_825 : decode cL_law 825 = .ok (.iload_n 3, 1) := by decide +kernel
theorem dL_law_826 : decode cL_law 826 = .ok (.iconst 2, 1) := by decide +kernel
theorem dL_law_827 : decode cL_law 827 = .ok (.iadd, 1) := by decide +kernel
theorem dL_law_828 : decode cL_law 828 = .ok (.iaload, 1) := by decide +kernel
theorem dL_law_829 : decode cL_law 829 = .ok (.aload_n 0, 1) := by decide +kernel
theorem dL_law_830 : decode cL_law 830 = .ok (.iload_n 3, 1) := by decide +kernel
theorem dL_law_831 : decode cL_law 831 = .ok (.iconst 3, 1) := by decide +kernel
theorem dL_law_832 : decode cL_law 832 = .ok (.iadd, 1) := by decide +kernel
theorem dL_law_833 : decode cL_law 833 = .ok (.iaload, 1) := by decide +kernel
theorem dL_law_834 : decode cL_law 834 = .ok (.invokevirtual 80, 3) := by decide +kernel
theorem dL_law_837 : decode cL_law 837 = .ok (.aload_n 2, 1) := by decide +kernel
theorem dL_law_838 : decode cL_law 838 = .ok (.aload_n 0, 1) := by decide +kernel
theorem dL_law_839 : decode cL_law 839 = .ok (.iload_n 3, 1) := by decide +kernel
theorem dL_law_840 : decode cL_law 840 = .ok (.iconst 1, 1) := by decide +kernel
theorem dL_law_841 : decode cL_law 841 = .ok (.iadd, 1) := by decide +kernel
theorem dL_law_842 : decode cL_law 842 = .ok (.iaload, 1) := by decide +kernel
theorem dL_law_843 : decode cL_law 843 = .ok (.aload_n 0, 1) := by decide +kernel
theorem dL_law_844 : decode cL_law 844 = .ok (.iload_n 3, 1) := by decide +kernel
theorem dL_law_845 : decode cL_law 845 = .ok (.iconst 2, 1) := by decide +kernel
theorem dL_law_846 : decode cL_law 846 = .ok (.iadd, 1) := by decide +kernel
theorem dL_law_847 : decode cL_law 847 = .ok (.iaload, 1) := by decide +kernel
theorem dL_law_848 : decode cL_law 848 = .ok (.aload_n 0, 1) := by decide +kernel
theorem dL_law_849 : decode cL_law 849 = .ok (.iload_n 3, 1) := by decide +kernel
theorem dL_law_850 : decode cL_law 850 = .ok (.iconst 3, 1) := by decide +kernel
theorem dL_law_851 : decode cL_law 851 = .ok (.iadd, 1) := by decide +kernel
theorem dL_law_852 : decode cL_law 852 = .ok (.iaload, 1) := by decide +kernel
theorem dL_law_853 : decode cL_law 853 = .ok (.invokevirtual 83, 3) := by decide +kernel
theorem dL_law_856 : decode cL_law 856 = .ok (.if_icmp .eq 587, 3) := by decide +kernel
theorem dL_law_859 : decode cL_law 859 = .ok (.iconst 0, 1) := by decide +kernel
theorem dL_law_860 : decode cL_law 860 = .ok (.ireturn, 1) := by decide +kernel
theorem dL_law_861 : decode cL_law 861 = .ok (.aload_n 1, 1) := by decide +kernel
theorem dL_law_862 : decode cL_law 862 = .ok (.aload_n 0, 1) := by decide +kernel
theorem dL_law_863 : decode cL_law 863 = .ok (.iload_n 3, 1) := by decide +kernel
theorem dL_law_864 : decode cL_law 864 = .ok (.iconst 1, 1) := by decide +kernel
theorem dL_law_865 : decode cL_law 865 = .ok (.iadd, 1) := by decide +kernel
theorem dL_law_866 : decode cL_law 866 = .ok (.iaload, 1) := by decide +kernel
theorem dL_law_867 : decode cL_law 867 = .ok (.aload_n 0, 1) := by decide +kernel
theorem dL_law_868 : decode cL_law 868 = .ok (.iload_n 3, 1) := by decide +kernel
theorem dL_law_869 : decode cL_law 869 = .ok (.iconst 2, 1) := by decide +kernel
theorem dL_law_870 : decode cL_law 870 = .ok (.iadd, 1) := by decide +kernel
theorem dL_law_871 : decode cL_law 871 = .ok (.iaload, 1) := by decide +kernel
theorem dL_law_872 : decode cL_law 872 = .ok (.aload_n 0, 1) := by decide +kernel
theorem dL_law_873 : decode cL_law 873 = .ok (.iload_n 3, 1) := by decide +kernel
theorem dL_law_874 : decode cL_law 874 = .ok (.iconst 3, 1) := by decide +kernel
theorem dL_law_875 : decode cL_law 875 = .ok (.iadd, 1) := by decide +kernel
theorem dL_law_876 : decode cL_law 876 = .ok (.iaload, 1) := by decide +kernel
theorem dL_law_877 : decode cL_law 877 = .ok (.invokevirtual 84, 3) := by decide +kernel
theorem dL_law_880 : decode cL_law 880 = .ok (.aload_n 2, 1) := by decide +kernel
theorem dL_law_881 : decode cL_law 881 = .ok (.aload_n 0, 1) := by decide +kernel
theorem dL_law_882 : decode cL_law 882 = .ok (.iload_n 3, 1) := by decide +kernel
theorem dL_law_883 : decode cL_law 883 = .ok (.iconst 1, 1) := by decide +kernel
theorem dL_law_884 : decode cL_law 884 = .ok (.iadd, 1) := by decide +kernel
theorem dL_law_885 : decode cL_law 885 = .ok (.iaload, 1) := by decide +kernel
theorem dL_law_886 : decode cL_law 886 = .ok (.aload_n 0, 1) := by decide +kernel
theorem dL_law_887 : decode cL_law 887 = .ok (.iload_n 3, 1) := by decide +kernel
theorem dL_law_888 : decode cL_law 888 = .ok (.iconst 2, 1) := by decide +kernel
theorem dL_law_889 : decode cL_law 889 = .ok (.iadd, 1) := by decide +kernel
theorem dL_law_890 : decode cL_law 890 = .ok (.iaload, 1) := by decide +kernel
theorem dL_law_891 : decode cL_law 891 = .ok (.aload_n 0, 1) := by decide +kernel
theorem dL_law_892 : decode cL_law 892 = .ok (.iload_n 3, 1) := by decide +kernel
theorem dL_law_893 : decode cL_law 893 = .ok (.iconst 3, 1) := by decide +kernel
theorem dL_law_894 : decode cL_law 894 = .ok (.iadd, 1) := by decide +kernel
theorem dL_law_895 : decode cL_law 895 = .ok (.iaload, 1) := by decide +kernel
theorem dL_law_896 : decode cL_law 896 = .ok (.invokevirtual 87, 3) := by decide +kernel
theorem dL_law_899 : decode cL_law 899 = .ok (.if_icmp .eq 544, 3) := by decide +kernel
theorem dL_law_902 : decode cL_law 902 = .ok (.iconst 0, 1) := by decide +kernel
theorem dL_law_903 : decode cL_law 903 = .ok (.ireturn, 1) := by decide +kernel
theorem dL_law_904 : decode cL_law 904 = .ok (.aload_n 1, 1) := by decide +kernel
theorem dL_law_905 : decode cL_law 905 = .ok (.aload_n 0, 1) := by decide +kernel
theorem dL_law_906 : decode cL_law 906 = .ok (.iload_n 3, 1) := by decide +kernel
theorem dL_law_907 : decode cL_law 907 = .ok (.iconst 1, 1) := by decide +kernel
theorem dL_law_908 : decode cL_law 908 = .ok (.iadd, 1) := by decide +kernel
theorem dL_law_909 : decode cL_law 909 = .ok (.iaload, 1) := by decide +kernel
theorem dL_law_910 : decode cL_law 910 = .ok (.aload_n 0, 1) := by decide +kernel
theorem dL_law_911 : decode cL_law 911 = .ok (.iload_n 3, 1) := by decide +kernel
theorem dL_law_912 : decode cL_law 912 = .ok (.iconst 2, 1) := by decide +kernel
theorem dL_law_913 : decode cL_law 913 = .ok (.iadd, 1) := by decide +kernel
theorem dL_law_914 : decode cL_law 914 = .ok (.iaload, 1) := by decide +kernel
theorem dL_law_915 : decode cL_law 915 = .ok (.aload_n 0, 1) := by decide +kernel
theorem dL_law_916 : decode cL_law 916 = .ok (.iload_n 3, 1) := by decide +kernel
theorem dL_law_917 : decode cL_law 917 = .ok (.iconst 3, 1) := by decide +kernel
theorem dL_law_918 : decode cL_law 918 = .ok (.iadd, 1) := by decide +kernel
theorem dL_law_919 : decode cL_law 919 = .ok (.iaload, 1) := by decide +kernel
theorem dL_law_920 : decode cL_law 920 = .ok (.invokevirtual 88, 3) := by decide +kernel
theorem dL_law_923 : decode cL_law 923 = .ok (.aload_n 2, 1) := by decide +kernel
theorem dL_law_924 : decode cL_law 924 = .ok (.aload_n 0, 1) := by decide +kernel
theorem dL_law_925 : decode cL_law 925 = .ok (.iload_n 3, 1) := by decide +kernel
theorem dL_law_926 : decode cL_law 926 = .ok (.iconst 1, 1) := by decide +kernel
theorem dL_law_927 : decode cL_law 927 = .ok (.iadd, 1) := by decide +kernel
theorem dL_law_928 : decode cL_law 928 = .ok (.iaload, 1) := by decide +kernel
theorem dL_law_929 : decode cL_law 929 = .ok (.aload_n 0, 1) := by decide +kernel
theorem dL_law_930 : decode cL_law 930 = .ok (.iload_n 3, 1) := by decide +kernel
theorem dL_law_931 : decode cL_law 931 = .ok (.iconst 2, 1) := by decide +kernel
theorem dL_law_932 : decode cL_law 932 = .ok (.iadd, 1) := by decide +kernel
theorem dL_law_933 : decode cL_law 933 = .ok (.iaload, 1) := by decide +kernel
theorem dL_law_934 : decode cL_law 934 = .ok (.aload_n 0, 1) := by decide +kernel
theorem dL_law_935 : decode cL_law 935 = .ok (.iload_n 3, 1) := by decide +kernel
theorem dL_law_936 : decode cL_law 936 = .ok (.iconst 3, 1) := by decide +kernel
theorem dL_law_937 : decode cL_law 937 = .ok (.iadd, 1) := by decide +kernel
theorem dL_law_938 : decode cL_law 938 = .ok (.iaload, 1) := by decide +kernel
theorem dL_law_939 : decode cL_law 939 = .ok (.invokevirtual 92, 3) := by decide +kernel
theorem dL_law_942 : decode cL_law 942 = .ok (.lcmp, 1) := by decide +kernel
theorem dL_law_943 : decode cL_law 943 = .ok (.ifCond .eq 500, 3) := by decide +kernel
theorem dL_law_946 : decode cL_law 946 = .ok (.iconst 0, 1) := by decide +kernel
theorem dL_law_947 : decode cL_law 947 = .ok (.ireturn, 1) := by decide +kernel
theorem dL_law_948 : decode cL_law 948 = .ok (.aload_n 1, 1) := by decide +kernel
theorem dL_law_949 : decode cL_law 949 = .ok (.aload_n 0, 1) := by decide +kernel
theorem dL_law_950 : decode cL_law 950 = .ok (.iload_n 3, 1) := by decide +kernel
theorem dL_law_951 : decode cL_law 951 = .ok (.iconst 1, 1) := by decide +kernel
theorem dL_law_952 : decode cL_law 952 = .ok (.iadd, 1) := by decide +kernel
theorem dL_law_953 : decode cL_law 953 = .ok (.iaload, 1) := by decide +kernel
theorem dL_law_954 : decode cL_law 954 = .ok (.aload_n 0, 1) := by decide +kernel
theorem dL_law_955 : decode cL_law 955 = .ok (.iload_n 3, 1) := by decide +kernel
theorem dL_law_956 : decode cL_law 956 = .ok (.iconst 2, 1) := by decide +kernel
theorem dL_law_957 : decode cL_law 957 = .ok (.iadd, 1) := by decide +kernel
theorem dL_law_958 : decode cL_law 958 = .ok (.iaload, 1) := by decide +kernel
theorem dL_law_959 : decode cL_law 959 = .ok (.aload_n 0, 1) := by decide +kernel
theorem dL_law_960 : decode cL_law 960 = .ok (.iload_n 3, 1) := by decide +kernel
theorem dL_law_961 : decode cL_law 961 = .ok (.iconst 3, 1) := by decide +kernel
theorem dL_law_962 : decode cL_law 962 = .ok (.iadd, 1) := by decide +kernel
theorem dL_law_963 : decode cL_law 963 = .ok (.iaload, 1) := by decide +kernel
theorem dL_law_964 : decode cL_law 964 = .ok (.invokevirtual 93, 3) := by decide +kernel
theorem dL_law_967 : decode cL_law 967 = .ok (.aload_n 2, 1) := by decide +kernel
theorem dL_law_968 : decode cL_law 968 = .ok (.aload_n 0, 1) := by decide +kernel
theorem dL_law_969 : decode cL_law 969 = .ok (.iload_n 3, 1) := by decide +kernel
theorem dL_law_970 : decode cL_law 970 = .ok (.iconst 1, 1) := by decide +kernel
theorem dL_law_971 : decode cL_law 971 = .ok (.iadd, 1) := by decide +kernel
theorem dL_law_972 : decode cL_law 972 = .ok (.iaload, 1) := by decide +kernel
theorem dL_law_973 : decode cL_law 973 = .ok (.aload_n 0, 1) := by decide +kernel
theorem dL_law_974 : decode cL_law 974 = .ok (.iload_n 3, 1) := by decide +kernel
theorem dL_law_975 : decode cL_law 975 = .ok (.iconst 2, 1) := by decide +kernel
theorem dL_law_976 : decode cL_law 976 = .ok (.iadd, 1) := by decide +kernel
theorem dL_law_977 : decode cL_law 977 = .ok (.iaload, 1) := by decide +kernel
theorem dL_law_978 : decode cL_law 978 = .ok (.aload_n 0, 1) := by decide +kernel
theorem dL_law_979 : decode cL_law 979 = .ok (.iload_n 3, 1) := by decide +kernel
theorem dL_law_980 : decode cL_law 980 = .ok (.iconst 3, 1) := by decide +kernel
theorem dL_law_981 : decode cL_law 981 = .ok (.iadd, 1) := by decide +kernel
theorem dL_law_982 : decode cL_law 982 = .ok (.iaload, 1) := by decide +kernel
theorem dL_law_983 : decode cL_law 983 = .ok (.invokevirtual 96, 3) := by decide +kernel
theorem dL_law_986 : decode cL_law 986 = .ok (.if_icmp .eq 457, 3) := by decide +kernel
theorem dL_law_989 : decode cL_law 989 = .ok (.iconst 0, 1) := by decide +kernel
theorem dL_law_990 : decode cL_law 990 = .ok (.ireturn, 1) := by decide +kernel
theorem dL_law_991 : decode cL_law 991 = .ok (.aload_n 1, 1) := by decide +kernel
theorem dL_law_992 : decode cL_law 992 = .ok (.aload_n 0, 1) := by decide +kernel
theorem dL_law_993 : decode cL_law 993 = .ok (.iload_n 3, 1) := by decide +kernel
theorem dL_law_994 : decode cL_law 994 = .ok (.iconst 1, 1) := by decide +kernel
theorem dL_law_995 : decode cL_law 995 = .ok (.iadd, 1) := by decide +kernel
theorem dL_law_996 : decode cL_law 996 = .ok (.iaload, 1) := by decide +kernel
theorem dL_law_997 : decode cL_law 997 = .ok (.aload_n 0, 1) := by decide +kernel
theorem dL_law_998 : decode cL_law 998 = .ok (.iload_n 3, 1) := by decide +kernel
theorem dL_law_999 : decode cL_law 999 = .ok (.iconst 2, 1) := by decide +kernel
theorem dL_law_1000 : decode cL_law 1000 = .ok (.iadd, 1) := by decide +kernel
theorem dL_law_1001 : decode cL_law 1001 = .ok (.iaload, 1) := by decide +kernel
theorem dL_law_1002 : decode cL_law 1002 = .ok (.aload_n 0, 1) := by decide +kernel
theorem dL_law_1003 : decode cL_law 1003 = .ok (.iload_n 3, 1) := by decide +kernel
theorem dL_law_1004 : decode cL_law 1004 = .ok (.iconst 3, 1) := by decide +kernel
theorem dL_law_1005 : decode cL_law 1005 = .ok (.iadd, 1) := by decide +kernel
theorem dL_law_1006 : decode cL_law 1006 = .ok (.iaload, 1) := by decide +kernel
theorem dL_law_1007 : decode cL_law 1007 = .ok (.invokevirtual 97, 3) := by decide +kernel
theorem dL_law_1010 : decode cL_law 1010 = .ok (.aload_n 2, 1) := by decide +kernel
theorem dL_law_1011 : decode cL_law 1011 = .ok (.aload_n 0, 1) := by decide +kernel
theorem dL_law_1012 : decode cL_law 1012 = .ok (.iload_n 3, 1) := by decide +kernel
theorem dL_law_1013 : decode cL_law 1013 = .ok (.iconst 1, 1) := by decide +kernel
theorem dL_law_1014 : decode cL_law 1014 = .ok (.iadd, 1) := by decide +kernel
theorem dL_law_1015 : decode cL_law 1015 = .ok (.iaload, 1) := by decide +kernel
theorem dL_law_1016 : decode cL_law 1016 = .ok (.aload_n 0, 1) := by decide +kernel
theorem dL_law_1017 : decode cL_law 1017 = .ok (.iload_n 3, 1) := by decide +kernel
theorem dL_law_1018 : decode cL_law 1018 = .ok (.iconst 2, 1) := by decide +kernel
theorem dL_law_1019 : decode cL_law 1019 = .ok (.iadd, 1) := by decide +kernel
theorem dL_law_1020 : decode cL_law 1020 = .ok (.iaload, 1) := by decide +kernel
theorem dL_law_1021 : decode cL_law 1021 = .ok (.aload_n 0, 1) := by decide +kernel
theorem dL_law_1022 : decode cL_law 1022 = .ok (.iload_n 3, 1) := by decide +kernel
theorem dL_law_1023 : decode cL_law 1023 = .ok (.iconst 3, 1) := by decide +kernel
theorem dL_law_1024 : decode cL_law 1024 = .ok (.iadd, 1) := by decide +kernel
theorem dL_law_1025 : decode cL_law 1025 = .ok (.iaload, 1) := by decide +kernel
theorem dL_law_1026 : decode cL_law 1026 = .ok (.invokevirtual 100, 3) := by decide +kernel
theorem dL_law_1029 : decode cL_law 1029 = .ok (.if_icmp .eq 414, 3) := by decide +kernel
theorem dL_law_1032 : decode cL_law 1032 = .ok (.iconst 0, 1) := by decide +kernel
theorem dL_law_1033 : decode cL_law 1033 = .ok (.ireturn, 1) := by decide +kernel
theorem dL_law_1034 : decode cL_law 1034 = .ok (.aload_n 1, 1) := by decide +kernel
theorem dL_law_1035 : decode cL_law 1035 = .ok (.aload_n 0, 1) := by decide +kernel
theorem dL_law_1036 : decode cL_law 1036 = .ok (.iload_n 3, 1) := by decide +kernel
theorem dL_law_1037 : decode cL_law 1037 = .ok (.iconst 1, 1) := by decide +kernel
theorem dL_law_1038 : decode cL_law 1038 = .ok (.iadd, 1) := by decide +kernel
theorem dL_law_1039 : decode cL_law 1039 = .ok (.iaload, 1) := by decide +kernel
theorem dL_law_1040 : decode cL_law 1040 = .ok (.aload_n 0, 1) := by decide +kernel
theorem dL_law_1041 : decode cL_law 1041 = .ok (.iload_n 3, 1) := by decide +kernel
theorem dL_law_1042 : decode cL_law 1042 = .ok (.iconst 2, 1) := by decide +kernel
theorem dL_law_1043 : decode cL_law 1043 = .ok (.iadd, 1) := by decide +kernel
theorem dL_law_1044 : decode cL_law 1044 = .ok (.iaload, 1) := by decide +kernel
theorem dL_law_1045 : decode cL_law 1045 = .ok (.aload_n 0, 1) := by decide +kernel
theorem dL_law_1046 : decode cL_law 1046 = .ok (.iload_n 3, 1) := by decide +kernel
theorem dL_law_1047 : decode cL_law 1047 = .ok (.iconst 3, 1) := by decide +kernel
theorem dL_law_1048 : decode cL_law 1048 = .ok (.iadd, 1) := by decide +kernel
theorem dL_law_1049 : decode cL_law 1049 = .ok (.iaload, 1) := by decide +kernel
theorem dL_law_1050 : decode cL_law 1050 = .ok (.aload_n 0, 1) := by decide +kernel
theorem dL_law_1051 : decode cL_law 1051 = .ok (.iload_n 3, 1) := by decide +kernel
theorem dL_law_1052 : decode cL_law 1052 = .ok (.iconst 4, 1) := by decide +kernel
theorem dL_law_1053 : decode cL_law 1053 = .ok (.iadd, 1) := by decide +kernel
theorem dL_law_1054 : decode cL_law 1054 = .ok (.iaload, 1) := by decide +kernel
theorem dL_law_1055 : decode cL_law 1055 = .ok (.invokevirtual 101, 3) := by decide +kernel
theorem dL_law_1058 : decode cL_law 1058 = .ok (.aload_n 2, 1) := by decide +kernel
theorem dL_law_1059 : decode cL_law 1059 = .ok (.aload_n 0, 1) := by decide +kernel
theorem dL_law_1060 : decode cL_law 1060 = .ok (.iload_n 3, 1) := by decide +kernel
theorem dL_law_1061 : decode cL_law 1061 = .ok (.iconst 1, 1) := by decide +kernel
theorem dL_law_1062 : decode cL_law 1062 = .ok (.iadd, 1) := by decide +kernel
theorem dL_law_1063 : decode cL_law 1063 = .ok (.iaload, 1) := by decide +kernel
theorem dL_law_1064 : decode cL_law 1064 = .ok (.aload_n 0, 1) := by decide +kernel
theorem dL_law_1065 : decode cL_law 1065 = .ok (.iload_n 3, 1) := by decide +kernel
theorem dL_law_1066 : decode cL_law 1066 = .ok (.iconst 2, 1) := by decide +kernel
theorem dL_law_1067 : decode cL_law 1067 = .ok (.iadd, 1) := by decide +kernel
theorem dL_law_1068 : decode cL_law 1068 = .ok (.iaload, 1) := by decide +kernel
theorem dL_law_1069 : decode cL_law 1069 = .ok (.aload_n 0, 1) := by decide +kernel
theorem dL_law_1070 : decode cL_law 1070 = .ok (.iload_n 3, 1) := by decide +kernel
theorem dL_law_1071 : decode cL_law 1071 = .ok (.iconst 3, 1) := by decide +kernel
theorem dL_law_1072 : decode cL_law 1072 = .ok (.iadd, 1) := by decide +kernel
theorem dL_law_1073 : decode cL_law 1073 = .ok (.iaload, 1) := by decide +kernel
theorem dL_law_1074 : decode cL_law 1074 = .ok (.aload_n 0, 1) := by decide +kernel
theorem dL_law_1075 : decode cL_law 1075 = .ok (.iload_n 3, 1) := by decide +kernel
theorem dL_law_1076 : decode cL_law 1076 = .ok (.iconst 4, 1) := by decide +kernel
theorem dL_law_1077 : decode cL_law 1077 = .ok (.iadd, 1) := by decide +kernel
theorem dL_law_1078 : decode cL_law 1078 = .ok (.iaload, 1) := by decide +kernel
theorem dL_law_1079 : decode cL_law 1079 = .ok (.invokevirtual 104, 3) := by decide +kernel
theorem dL_law_1082 : decode cL_law 1082 = .ok (.if_icmp .eq 361, 3) := by decide +kernel
theorem dL_law_1085 : decode cL_law 1085 = .ok (.iconst 0, 1) := by decide +kernel
theorem dL_law_1086 : decode cL_law 1086 = .ok (.ireturn, 1) := by decide +kernel
theorem dL_law_1087 : decode cL_law 1087 = .ok (.aload_n 1, 1) := by decide +kernel
theorem dL_law_1088 : decode cL_law 1088 = .ok (.aload_n 0, 1) := by decide +kernel
theorem dL_law_1089 : decode cL_law 1089 = .ok (.iload_n 3, 1) := by decide +kernel
theorem dL_law_1090 : decode cL_law 1090 = .ok (.iconst 1, 1) := by decide +kernel
theorem dL_law_1091 : decode cL_law 1091 = .ok (.iadd, 1) := by decide +kernel
theorem dL_law_1092 : decode cL_law 1092 = .ok (.iaload, 1) := by decide +kernel
theorem dL_law_1093 : decode cL_law 1093 = .ok (.aload_n 0, 1) := by decide +kernel
theorem dL_law_1094 : decode cL_law 1094 = .ok (.iload_n 3, 1) := by decide +kernel
theorem dL_law_1095 : decode cL_law 1095 = .ok (.iconst 2, 1) := by decide +kernel
theorem dL_law_1096 : decode cL_law 1096 = .ok (.iadd, 1) := by decide +kernel
theorem dL_law_1097 : decode cL_law 1097 = .ok (.iaload, 1) := by decide +kernel
theorem dL_law_1098 : decode cL_law 1098 = .ok (.invokevirtual 105, 3) := by decide +kernel
theorem dL_law_1101 : decode cL_law 1101 = .ok (.aload_n 2, 1) := by decide +kernel
theorem dL_law_1102 : decode cL_law 1102 = .ok (.aload_n 0, 1) := by decide +kernel
theorem dL_law_1103 : decode cL_law 1103 = .ok (.iload_n 3, 1) := by decide +kernel
theorem dL_law_1104 : decode cL_law 1104 = .ok (.iconst 1, 1) := by decide +kernel
theorem dL_law_1105 : decode cL_law 1105 = .ok (.iadd, 1) := by decide +kernel
theorem dL_law_1106 : decode cL_law 1106 = .ok (.iaload, 1) := by decide +kernel
theorem dL_law_1107 : decode cL_law 1107 = .ok (.aload_n 0, 1) := by decide +kernel
theorem dL_law_1108 : decode cL_law 1108 = .ok (.iload_n 3, 1) := by decide +kernel
theorem dL_law_1109 : decode cL_law 1109 = .ok (.iconst 2, 1) := by decide +kernel
theorem dL_law_1110 : decode cL_law 1110 = .ok (.iadd, 1) := by decide +kernel
theorem dL_law_1111 : decode cL_law 1111 = .ok (.iaload, 1) := by decide +kernel
theorem dL_law_1112 : decode cL_law 1112 = .ok (.invokevirtual 108, 3) := by decide +kernel
theorem dL_law_1115 : decode cL_law 1115 = .ok (.if_icmp .eq 328, 3) := by decide +kernel
theorem dL_law_1118 : decode cL_law 1118 = .ok (.iconst 0, 1) := by decide +kernel
theorem dL_law_1119 : decode cL_law 1119 = .ok (.ireturn, 1) := by decide +kernel
theorem dL_law_1120 : decode cL_law 1120 = .ok (.aload_n 1, 1) := by decide +kernel
theorem dL_law_1121 : decode cL_law 1121 = .ok (.aload_n 0, 1) := by decide +kernel
theorem dL_law_1122 : decode cL_law 1122 = .ok (.iload_n 3, 1) := by decide +kernel
theorem dL_law_1123 : decode cL_law 1123 = .ok (.iconst 1, 1) := by decide +kernel
theorem dL_law_1124 : decode cL_law 1124 = .ok (.iadd, 1) := by decide +kernel
theorem dL_law_1125 : decode cL_law 1125 = .ok (.iaload, 1) := by decide +kernel
theorem dL_law_1126 : decode cL_law 1126 = .ok (.aload_n 0, 1) := by decide +kernel
theorem dL_law_1127 : decode cL_law 1127 = .ok (.iload_n 3, 1) := by decide +kernel
theorem dL_law_1128 : decode cL_law 1128 = .ok (.iconst 2, 1) := by decide +kernel
theorem dL_law_1129 : decode cL_law 1129 = .ok (.iadd, 1) := by decide +kernel
theorem dL_law_1130 : decode cL_law 1130 = .ok (.iaload, 1) := by decide +kernel
theorem dL_law_1131 : decode cL_law 1131 = .ok (.aload_n 0, 1) := by decide +kernel
theorem dL_law_1132 : decode cL_law 1132 = .ok (.iload_n 3, 1) := by decide +kernel
theorem dL_law_1133 : decode cL_law 1133 = .ok (.iconst 3, 1) := by decide +kernel
theorem dL_law_1134 : decode cL_law 1134 = .ok (.iadd, 1) := by decide +kernel
theorem dL_law_1135 : decode cL_law 1135 = .ok (.iaload, 1) := by decide +kernel
theorem dL_law_1136 : decode cL_law 1136 = .ok (.aload_n 0, 1) := by decide +kernel
theorem dL_law_1137 : decode cL_law 1137 = .ok (.iload_n 3, 1) := by decide +kernel
theorem dL_law_1138 : decode cL_law 1138 = .ok (.iconst 4, 1) := by decide +kernel
theorem dL_law_1139 : decode cL_law 1139 = .ok (.iadd, 1) := by decide +kernel
theorem dL_law_1140 : decode cL_law 1140 = .ok (.iaload, 1) := by decide +kernel
theorem dL_law_1141 : decode cL_law 1141 = .ok (.aload_n 0, 1) := by decide +kernel
theorem dL_law_1142 : decode cL_law 1142 = .ok (.iload_n 3, 1) := by decide +kernel
theorem dL_law_1143 : decode cL_law 1143 = .ok (.iconst 5, 1) := by decide +kernel
theorem dL_law_1144 : decode cL_law 1144 = .ok (.iadd, 1) := by decide +kernel
theorem dL_law_1145 : decode cL_law 1145 = .ok (.iaload, 1) := by decide +kernel
theorem dL_law_1146 : decode cL_law 1146 = .ok (.invokevirtual 109, 3) := by decide +kernel
theorem dL_law_1149 : decode cL_law 1149 = .ok (.aload_n 2, 1) := by decide +kernel
theorem dL_law_1150 : decode cL_law 1150 = .ok (.aload_n 0, 1) := by decide +kernel
theorem dL_law_1151 : decode cL_law 1151 = .ok (.iload_n 3, 1) := by decide +kernel
theorem dL_law_1152 : decode cL_law 1152 = .ok (.iconst 1, 1) := by decide +kernel
theorem dL_law_1153 : decode cL_law 1153 = .ok (.iadd, 1) := by decide +kernel
theorem dL_law_1154 : decode cL_law 1154 = .ok (.iaload, 1) := by decide +kernel
theorem dL_law_1155 : decode cL_law 1155 = .ok (.aload_n 0, 1) := by decide +kernel
theorem dL_law_1156 : decode cL_law 1156 = .ok (.iload_n 3, 1) := by decide +kernel
theorem dL_law_1157 : decode cL_law 1157 = .ok (.iconst 2, 1) := by decide +kernel
theorem dL_law_1158 : decode cL_law 1158 = .ok (.iadd, 1) := by decide +kernel
theorem dL_law_1159 : decode cL_law 1159 = .ok (.iaload, 1) := by decide +kernel
theorem dL_law_1160 : decode cL_law 1160 = .ok (.aload_n 0, 1) := by decide +kernel
theorem dL_law_1161 : decode cL_law 1161 = .ok (.iload_n 3, 1) := by decide +kernel
theorem dL_law_1162 : decode cL_law 1162 = .ok (.iconst 3, 1) := by decide +kernel
theorem dL_law_1163 : decode cL_law 1163 = .ok (.iadd, 1) := by decide +kernel
theorem dL_law_1164 : decode cL_law 1164 = .ok (.iaload, 1) := by decide +kernel
theorem dL_law_1165 : decode cL_law 1165 = .ok (.aload_n 0, 1) := by decide +kernel
theorem dL_law_1166 : decode cL_law 1166 = .ok (.iload_n 3, 1) := by decide +kernel
theorem dL_law_1167 : decode cL_law 1167 = .ok (.iconst 4, 1) := by decide +kernel
theorem dL_law_1168 : decode cL_law 1168 = .ok (.iadd, 1) := by decide +kernel
theorem dL_law_1169 : decode cL_law 1169 = .ok (.iaload, 1) := by decide +kernel
theorem dL_law_1170 : decode cL_law 1170 = .ok (.aload_n 0, 1) := by decide +kernel
theorem dL_law_1171 : decode cL_law 1171 = .ok (.iload_n 3, 1) := by decide +kernel
theorem dL_law_1172 : decode cL_law 1172 = .ok (.iconst 5, 1) := by decide +kernel
theorem dL_law_1173 : decode cL_law 1173 = .ok (.iadd, 1) := by decide +kernel
theorem dL_law_1174 : decode cL_law 1174 = .ok (.iaload, 1) := by decide +kernel
theorem dL_law_1175 : decode cL_law 1175 = .ok (.invokevirtual 113, 3) := by decide +kernel
theorem dL_law_1178 : decode cL_law 1178 = .ok (.lcmp, 1) := by decide +kernel
theorem dL_law_1179 : decode cL_law 1179 = .ok (.ifCond .eq 264, 3) := by decide +kernel
theorem dL_law_1182 : decode cL_law 1182 = .ok (.iconst 0, 1) := by decide +kernel
theorem dL_law_1183 : decode cL_law 1183 = .ok (.ireturn, 1) := by decide +kernel
theorem dL_law_1184 : decode cL_law 1184 = .ok (.aload_n 1, 1) := by decide +kernel
theorem dL_law_1185 : decode cL_law 1185 = .ok (.aload_n 0, 1) := by decide +kernel
theorem dL_law_1186 : decode cL_law 1186 = .ok (.iload_n 3, 1) := by decide +kernel
theorem dL_law_1187 : decode cL_law 1187 = .ok (.iconst 1, 1) := by decide +kernel
theorem dL_law_1188 : decode cL_law 1188 = .ok (.iadd, 1) := by decide +kernel
theorem dL_law_1189 : decode cL_law 1189 = .ok (.iaload, 1) := by decide +kernel
theorem dL_law_1190 : decode cL_law 1190 = .ok (.aload_n 0, 1) := by decide +kernel
theorem dL_law_1191 : decode cL_law 1191 = .ok (.iload_n 3, 1) := by decide +kernel
theorem dL_law_1192 : decode cL_law 1192 = .ok (.iconst 2, 1) := by decide +kernel
theorem dL_law_1193 : decode cL_law 1193 = .ok (.iadd, 1) := by decide +kernel
theorem dL_law_1194 : decode cL_law 1194 = .ok (.iaload, 1) := by decide +kernel
theorem dL_law_1195 : decode cL_law 1195 = .ok (.invokevirtual 114, 3) := by decide +kernel
theorem dL_law_1198 : decode cL_law 1198 = .ok (.aload_n 2, 1) := by decide +kernel
theorem dL_law_1199 : decode cL_law 1199 = .ok (.aload_n 0, 1) := by decide +kernel
theorem dL_law_1200 : decode cL_law 1200 = .ok (.iload_n 3, 1) := by decide +kernel
theorem dL_law_1201 : decode cL_law 1201 = .ok (.iconst 1, 1) := by decide +kernel
theorem dL_law_1202 : decode cL_law 1202 = .ok (.iadd, 1) := by decide +kernel
theorem dL_law_1203 : decode cL_law 1203 = .ok (.iaload, 1) := by decide +kernel
theorem dL_law_1204 : decode cL_law 1204 = .ok (.aload_n 0, 1) := by decide +kernel
theorem dL_law_1205 : decode cL_law 1205 = .ok (.iload_n 3, 1) := by decide +kernel
theorem dL_law_1206 : decode cL_law 1206 = .ok (.iconst 2, 1) := by decide +kernel
theorem dL_law_1207 : decode cL_law 1207 = .ok (.iadd, 1) := by decide +kernel
theorem dL_law_1208 : decode cL_law 1208 = .ok (.iaload, 1) := by decide +kernel
theorem dL_law_1209 : decode cL_law 1209 = .ok (.invokevirtual 118, 3) := by decide +kernel
theorem dL_law_1212 : decode cL_law 1212 = .ok (.lcmp, 1) := by decide +kernel
theorem dL_law_1213 : decode cL_law 1213 = .ok (.ifCond .eq 230, 3) := by decide +kernel
theorem dL_law_1216 : decode cL_law 1216 = .ok (.iconst 0, 1) := by decide +kernel
theorem dL_law_1217 : decode cL_law 1217 = .ok (.ireturn, 1) := by decide +kernel
theorem dL_law_1218 : decode cL_law 1218 = .ok (.aload_n 1, 1) := by decide +kernel
theorem dL_law_1219 : decode cL_law 1219 = .ok (.aload_n 0, 1) := by decide +kernel
theorem dL_law_1220 : decode cL_law 1220 = .ok (.iload_n 3, 1) := by decide +kernel
theorem dL_law_1221 : decode cL_law 1221 = .ok (.iconst 1, 1) := by decide +kernel
theorem dL_law_1222 : decode cL_law 1222 = .ok (.iadd, 1) := by decide +kernel
theorem dL_law_1223 : decode cL_law 1223 = .ok (.iaload, 1) := by decide +kernel
theorem dL_law_1224 : decode cL_law 1224 = .ok (.aload_n 0, 1) := by decide +kernel
theorem dL_law_1225 : decode cL_law 1225 = .ok (.iload_n 3, 1) := by decide +kernel
theorem dL_law_1226 : decode cL_law 1226 = .ok (.iconst 2, 1) := by decide +kernel
theorem dL_law_1227 : decode cL_law 1227 = .ok (.iadd, 1) := by decide +kernel
theorem dL_law_1228 : decode cL_law 1228 = .ok (.iaload, 1) := by decide +kernel
theorem dL_law_1229 : decode cL_law 1229 = .ok (.aload_n 0, 1) := by decide +kernel
theorem dL_law_1230 : decode cL_law 1230 = .ok (.iload_n 3, 1) := by decide +kernel
theorem dL_law_1231 : decode cL_law 1231 = .ok (.iconst 3, 1) := by decide +kernel
theorem dL_law_1232 : decode cL_law 1232 = .ok (.iadd, 1) := by decide +kernel
theorem dL_law_1233 : decode cL_law 1233 = .ok (.iaload, 1) := by decide +kernel
theorem dL_law_1234 : decode cL_law 1234 = .ok (.aload_n 0, 1) := by decide +kernel
theorem dL_law_1235 : decode cL_law 1235 = .ok (.iload_n 3, 1) := by decide +kernel
theorem dL_law_1236 : decode cL_law 1236 = .ok (.iconst 4, 1) := by decide +kernel
theorem dL_law_1237 : decode cL_law 1237 = .ok (.iadd, 1) := by decide +kernel
theorem dL_law_1238 : decode cL_law 1238 = .ok (.iaload, 1) := by decide +kernel
theorem dL_law_1239 : decode cL_law 1239 = .ok (.invokevirtual 119, 3) := by decide +kernel
theorem dL_law_1242 : decode cL_law 1242 = .ok (.aload_n 2, 1) := by decide +kernel
theorem dL_law_1243 : decode cL_law 1243 = .ok (.aload_n 0, 1) := by decide +kernel
theorem dL_law_1244 : decode cL_law 1244 = .ok (.iload_n 3, 1) := by decide +kernel
theorem dL_law_1245 : decode cL_law 1245 = .ok (.iconst 1, 1) := by decide +kernel
theorem dL_law_1246 : decode cL_law 1246 = .ok (.iadd, 1) := by decide +kernel
theorem dL_law_1247 : decode cL_law 1247 = .ok (.iaload, 1) := by decide +kernel
theorem dL_law_1248 : decode cL_law 1248 = .ok (.aload_n 0, 1) := by decide +kernel
theorem dL_law_1249 : decode cL_law 1249 = .ok (.iload_n 3, 1) := by decide +kernel
theorem dL_law_1250 : decode cL_law 1250 = .ok (.iconst 2, 1) := by decide +kernel
theorem dL_law_1251 : decode cL_law 1251 = .ok (.iadd, 1) := by decide +kernel
theorem dL_law_1252 : decode cL_law 1252 = .ok (.iaload, 1) := by decide +kernel
theorem dL_law_1253 : decode cL_law 1253 = .ok (.aload_n 0, 1) := by decide +kernel
theorem dL_law_1254 : decode cL_law 1254 = .ok (.iload_n 3, 1) := by decide +kernel
theorem dL_law_1255 : decode cL_law 1255 = .ok (.iconst 3, 1) := by decide +kernel
theorem dL_law_1256 : decode cL_law 1256 = .ok (.iadd, 1) := by decide +kernel
theorem dL_law_1257 : decode cL_law 1257 = .ok (.iaload, 1) := by decide +kernel
theorem dL_law_1258 : decode cL_law 1258 = .ok (.aload_n 0, 1) := by decide +kernel
theorem dL_law_1259 : decode cL_law 1259 = .ok (.iload_n 3, 1) := by decide +kernel
theorem dL_law_1260 : decode cL_law 1260 = .ok (.iconst 4, 1) := by decide +kernel
theorem dL_law_1261 : decode cL_law 1261 = .ok (.iadd, 1) := by decide +kernel
theorem dL_law_1262 : decode cL_law 1262 = .ok (.iaload, 1) := by decide +kernel
theorem dL_law_1263 : decode cL_law 1263 = .ok (.invokevirtual 122, 3) := by decide +kernel
theorem dL_law_1266 : decode cL_law 1266 = .ok (.if_icmp .eq 177, 3) := by decide +kernel
theorem dL_law_1269 : decode cL_law 1269 = .ok (.iconst 0, 1) := by decide +kernel
theorem dL_law_1270 : decode cL_law 1270 = .ok (.ireturn, 1) := by decide +kernel
theorem dL_law_1271 : decode cL_law 1271 = .ok (.aload_n 1, 1) := by decide +kernel
theorem dL_law_1272 : decode cL_law 1272 = .ok (.aload_n 0, 1) := by decide +kernel
theorem dL_law_1273 : decode cL_law 1273 = .ok (.iload_n 3, 1) := by decide +kernel
theorem dL_law_1274 : decode cL_law 1274 = .ok (.iconst 1, 1) := by decide +kernel
theorem dL_law_1275 : decode cL_law 1275 = .ok (.iadd, 1) := by decide +kernel
theorem dL_law_1276 : decode cL_law 1276 = .ok (.iaload, 1) := by decide +kernel
theorem dL_law_1277 : decode cL_law 1277 = .ok (.invokevirtual 123, 3) := by decide +kernel
theorem dL_law_1280 : decode cL_law 1280 = .ok (.aload_n 2, 1) := by decide +kernel
theorem dL_law_1281 : decode cL_law 1281 = .ok (.aload_n 0, 1) := by decide +kernel
theorem dL_law_1282 : decode cL_law 1282 = .ok (.iload_n 3, 1) := by decide +kernel
theorem dL_law_1283 : decode cL_law 1283 = .ok (.iconst 1, 1) := by decide +kernel
theorem dL_law_1284 : decode cL_law 1284 = .ok (.iadd, 1) := by decide +kernel
theorem dL_law_1285 : decode cL_law 1285 = .ok (.iaload, 1) := by decide +kernel
theorem dL_law_1286 : decode cL_law 1286 = .ok (.invokevirtual 126, 3) := by decide +kernel
theorem dL_law_1289 : decode cL_law 1289 = .ok (.if_icmp .eq 154, 3) := by decide +kernel
theorem dL_law_1292 : decode cL_law 1292 = .ok (.iconst 0, 1) := by decide +kernel
theorem dL_law_1293 : decode cL_law 1293 = .ok (.ireturn, 1) := by decide +kernel
theorem dL_law_1294 : decode cL_law 1294 = .ok (.aload_n 1, 1) := by decide +kernel
theorem dL_law_1295 : decode cL_law 1295 = .ok (.aload_n 0, 1) := by decide +kernel
theorem dL_law_1296 : decode cL_law 1296 = .ok (.iload_n 3, 1) := by decide +kernel
theorem dL_law_1297 : decode cL_law 1297 = .ok (.iconst 1, 1) := by decide +kernel
theorem dL_law_1298 : decode cL_law 1298 = .ok (.iadd, 1) := by decide +kernel
theorem dL_law_1299 : decode cL_law 1299 = .ok (.iaload, 1) := by decide +kernel
theorem dL_law_1300 : decode cL_law 1300 = .ok (.invokevirtual 127, 3) := by decide +kernel
theorem dL_law_1303 : decode cL_law 1303 = .ok (.aload_n 2, 1) := by decide +kernel
theorem dL_law_1304 : decode cL_law 1304 = .ok (.aload_n 0, 1) := by decide +kernel
theorem dL_law_1305 : decode cL_law 1305 = .ok (.iload_n 3, 1) := by decide +kernel
theorem dL_law_1306 : decode cL_law 1306 = .ok (.iconst 1, 1) := by decide +kernel
theorem dL_law_1307 : decode cL_law 1307 = .ok (.iadd, 1) := by decide +kernel
theorem dL_law_1308 : decode cL_law 1308 = .ok (.iaload, 1) := by decide +kernel
theorem dL_law_1309 : decode cL_law 1309 = .ok (.invokevirtual 130, 3) := by decide +kernel
theorem dL_law_1312 : decode cL_law 1312 = .ok (.if_icmp .eq 131, 3) := by decide +kernel
theorem dL_law_1315 : decode cL_law 1315 = .ok (.iconst 0, 1) := by decide +kernel
theorem dL_law_1316 : decode cL_law 1316 = .ok (.ireturn, 1) := by decide +kernel
theorem dL_law_1317 : decode cL_law 1317 = .ok (.aload_n 1, 1) := by decide +kernel
theorem dL_law_1318 : decode cL_law 1318 = .ok (.invokevirtual 131, 3) := by decide +kernel
theorem dL_law_1321 : decode cL_law 1321 = .ok (.aload_n 2, 1) := by decide +kernel
theorem dL_law_1322 : decode cL_law 1322 = .ok (.invokevirtual 135, 3) := by decide +kernel
theorem dL_law_1325 : decode cL_law 1325 = .ok (.lcmp, 1) := by decide +kernel
theorem dL_law_1326 : decode cL_law 1326 = .ok (.ifCond .eq 117, 3) := by decide +kernel
theorem dL_law_1329 : decode cL_law 1329 = .ok (.iconst 0, 1) := by decide +kernel
theorem dL_law_1330 : decode cL_law 1330 = .ok (.ireturn, 1) := by decide +kernel
theorem dL_law_1331 : decode cL_law 1331 = .ok (.aload_n 1, 1) := by decide +kernel
theorem dL_law_1332 : decode cL_law 1332 = .ok (.aload_n 0, 1) := by decide +kernel
theorem dL_law_1333 : decode cL_law 1333 = .ok (.iload_n 3, 1) := by decide +kernel
theorem dL_law_1334 : decode cL_law 1334 = .ok (.iconst 1, 1) := by decide +kernel
theorem dL_law_1335 : decode cL_law 1335 = .ok (.iadd, 1) := by decide +kernel
theorem dL_law_1336 : decode cL_law 1336 = .ok (.iaload, 1) := by decide +kernel
theorem dL_law_1337 : decode cL_law 1337 = .ok (.aload_n 0, 1) := by decide +kernel
theorem dL_law_1338 : decode cL_law 1338 = .ok (.iload_n 3, 1) := by decide +kernel
theorem dL_law_1339 : decode cL_law 1339 = .ok (.iconst 2, 1) := by decide +kernel
theorem dL_law_1340 : decode cL_law 1340 = .ok (.iadd, 1) := by decide +kernel
theorem dL_law_1341 : decode cL_law 1341 = .ok (.iaload, 1) := by decide +kernel
theorem dL_law_1342 : decode cL_law 1342 = .ok (.i2l, 1) := by decide +kernel
theorem dL_law_1343 : decode cL_law 1343 = .ok (.bipush 32, 2) := by decide +kernel
theorem dL_law_1345 : decode cL_law 1345 = .ok (.lshl, 1) := by decide +kernel
theorem dL_law_1346 : decode cL_law 1346 = .ok (.aload_n 0, 1) := by decide +kernel
theorem dL_law_1347 : decode cL_law 1347 = .ok (.iload_n 3, 1) := by decide +kernel
theorem dL_law_1348 : decode cL_law 1348 = .ok (.iconst 3, 1) := by decide +kernel
theorem dL_law_1349 : decode cL_law 1349 = .ok (.iadd, 1) := by decide +kernel
theorem dL_law_1350 : decode cL_law 1350 = .ok (.iaload, 1) := by decide +kernel
theorem dL_law_1351 : decode cL_law 1351 = .ok (.i2l, 1) := by decide +kernel
theorem dL_law_1352 : decode cL_law 1352 = .ok (.ldc2_w 136, 3) := by decide +kernel
theorem dL_law_1355 : decode cL_law 1355 = .ok (.land, 1) := by decide +kernel
theorem dL_law_1356 : decode cL_law 1356 = .ok (.lor, 1) := by decide +kernel
theorem dL_law_1357 : decode cL_law 1357 = .ok (.invokevirtual 138, 3) := by decide +kernel
theorem dL_law_1360 : decode cL_law 1360 = .ok (.aload_n 2, 1) := by decide +kernel
theorem dL_law_1361 : decode cL_law 1361 = .ok (.aload_n 0, 1) := by decide +kernel
theorem dL_law_1362 : decode cL_law 1362 = .ok (.iload_n 3, 1) := by decide +kernel
theorem dL_law_1363 : decode cL_law 1363 = .ok (.iconst 1, 1) := by decide +kernel
theorem dL_law_1364 : decode cL_law 1364 = .ok (.iadd, 1) := by decide +kernel
theorem dL_law_1365 : decode cL_law 1365 = .ok (.iaload, 1) := by decide +kernel
theorem dL_law_1366 : decode cL_law 1366 = .ok (.aload_n 0, 1) := by decide +kernel
theorem dL_law_1367 : decode cL_law 1367 = .ok (.iload_n 3, 1) := by decide +kernel
theorem dL_law_1368 : decode cL_law 1368 = .ok (.iconst 2, 1) := by decide +kernel
theorem dL_law_1369 : decode cL_law 1369 = .ok (.iadd, 1) := by decide +kernel
theorem dL_law_1370 : decode cL_law 1370 = .ok (.iaload, 1) := by decide +kernel
theorem dL_law_1371 : decode cL_law 1371 = .ok (.i2l, 1) := by decide +kernel
theorem dL_law_1372 : decode cL_law 1372 = .ok (.bipush 32, 2) := by decide +kernel
theorem dL_law_1374 : decode cL_law 1374 = .ok (.lshl, 1) := by decide +kernel
theorem dL_law_1375 : decode cL_law 1375 = .ok (.aload_n 0, 1) := by decide +kernel
theorem dL_law_1376 : decode cL_law 1376 = .ok (.iload_n 3, 1) := by decide +kernel
theorem dL_law_1377 : decode cL_law 1377 = .ok (.iconst 3, 1) := by decide +kernel
theorem dL_law_1378 : decode cL_law 1378 = .ok (.iadd, 1) := by decide +kernel
theorem dL_law_1379 : decode cL_law 1379 = .ok (.iaload, 1) := by decide +kernel
theorem dL_law_1380 : decode cL_law 1380 = .ok (.i2l, 1) := by decide +kernel
theorem dL_law_1381 : decode cL_law 1381 = .ok (.ldc2_w 136, 3) := by decide +kernel
theorem dL_law_1384 : decode cL_law 1384 = .ok (.land, 1) := by decide +kernel
theorem dL_law_1385 : decode cL_law 1385 = .ok (.lor, 1) := by decide +kernel
theorem dL_law_1386 : decode cL_law 1386 = .ok (.invokevirtual 142, 3) := by decide +kernel
theorem dL_law_1389 : decode cL_law 1389 = .ok (.if_icmp .eq 54, 3) := by decide +kernel
theorem dL_law_1392 : decode cL_law 1392 = .ok (.iconst 0, 1) := by decide +kernel
theorem dL_law_1393 : decode cL_law 1393 = .ok (.ireturn, 1) := by decide +kernel
theorem dL_law_1394 : decode cL_law 1394 = .ok (.aload_n 1, 1) := by decide +kernel
theorem dL_law_1395 : decode cL_law 1395 = .ok (.invokevirtual 143, 3) := by decide +kernel
theorem dL_law_1398 : decode cL_law 1398 = .ok (.aload_n 2, 1) := by decide +kernel
theorem dL_law_1399 : decode cL_law 1399 = .ok (.invokevirtual 147, 3) := by decide +kernel
theorem dL_law_1402 : decode cL_law 1402 = .ok (.if_icmp .eq 41, 3) := by decide +kernel
theorem dL_law_1405 : decode cL_law 1405 = .ok (.iconst 0, 1) := by decide +kernel
theorem dL_law_1406 : decode cL_law 1406 = .ok (.ireturn, 1) := by decide +kernel
theorem dL_law_1407 : decode cL_law 1407 = .ok (.aload_n 1, 1) := by decide +kernel
theorem dL_law_1408 : decode cL_law 1408 = .ok (.invokevirtual 148, 3) := by decide +kernel
theorem dL_law_1411 : decode cL_law 1411 = .ok (.aload_n 2, 1) := by decide +kernel
theorem dL_law_1412 : decode cL_law 1412 = .ok (.invokevirtual 151, 3) := by decide +kernel
theorem dL_law_1415 : decode cL_law 1415 = .ok (.if_icmp .eq 28, 3) := by decide +kernel
theorem dL_law_1418 : decode cL_law 1418 = .ok (.iconst 0, 1) := by decide +kernel
theorem dL_law_1419 : decode cL_law 1419 = .ok (.ireturn, 1) := by decide +kernel
theorem dL_law_1420 : decode cL_law 1420 = .ok (.aload_n 1, 1) := by decide +kernel
theorem dL_law_1421 : decode cL_law 1421 = .ok (.aload_n 0, 1) := by decide +kernel
theorem dL_law_1422 : decode cL_law 1422 = .ok (.iload_n 3, 1) := by decide +kernel
theorem dL_law_1423 : decode cL_law 1423 = .ok (.iconst 1, 1) := by decide +kernel
theorem dL_law_1424 : decode cL_law 1424 = .ok (.iadd, 1) := by decide +kernel
theorem dL_law_1425 : decode cL_law 1425 = .ok (.iaload, 1) := by decide +kernel
theorem dL_law_1426 : decode cL_law 1426 = .ok (.invokevirtual 152, 3) := by decide +kernel
theorem dL_law_1429 : decode cL_law 1429 = .ok (.aload_n 2, 1) := by decide +kernel
theorem dL_law_1430 : decode cL_law 1430 = .ok (.aload_n 0, 1) := by decide +kernel
theorem dL_law_1431 : decode cL_law 1431 = .ok (.iload_n 3, 1) := by decide +kernel
theorem dL_law_1432 : decode cL_law 1432 = .ok (.iconst 1, 1) := by decide +kernel
theorem dL_law_1433 : decode cL_law 1433 = .ok (.iadd, 1) := by decide +kernel
theorem dL_law_1434 : decode cL_law 1434 = .ok (.iaload, 1) := by decide +kernel
theorem dL_law_1435 : decode cL_law 1435 = .ok (.invokevirtual 155, 3) := by decide +kernel
theorem dL_law_1438 : decode cL_law 1438 = .ok (.if_icmp .eq 5, 3) := by decide +kernel
theorem dL_law_1441 : decode cL_law 1441 = .ok (.iconst 0, 1) := by decide +kernel
theorem dL_law_1442 : decode cL_law 1442 = .ok (.ireturn, 1) := by decide +kernel
theorem dL_law_1443 : decode cL_law 1443 = .ok (.iinc 3 6, 3) := by decide +kernel
theorem dL_law_1446 : decode cL_law 1446 = .ok (.goto (-1428), 3) := by decide +kernel
theorem dL_law_1449 : decode cL_law 1449 = .ok (.iconst 1, 1) := by decide +kernel
theorem dL_law_1450 : decode cL_law 1450 = .ok (.ireturn, 1) := by decide +kernel
