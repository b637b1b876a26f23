theorem dX9_readExpression_52 : decode cX9_readExpression 52 = .ok (.bipush 6, 2) := by decide +kernel
theorem dX9_readExpression_54 : decode cX9_readExpression 54 = .ok (.if_icmp .ne 8, 3) := by decide +kernel
theorem dX9_readExpression_57 : decode cX9_readExpression 57 = .ok (.aload_n 0, 1) := by decide +kernel
theorem dX9_readExpression_58 : decode cX9_readExpression 58 = .ok (.iconst 2, 1) := by decide +kernel
theorem dX9_readExpression_59 : decode cX9_readExpression 59 = .ok (.invokevirtual 226, 3) := by decide +kernel
theorem dX9_readExpression_62 : decode cX9_readExpression 62 = .ok (.aload_n 0, 1) := by decide +kernel
theorem dX9_readExpression_63 : decode cX9_readExpression 63 = .ok (.iload_n 1, 1) := by decide +kernel
theorem dX9_readExpression_64 : decode cX9_readExpression 64 = .ok (.invokevirtual 268, 3) := by decide +kernel
theorem dX9_readExpression_67 : decode cX9_readExpression 67 = .ok (.aload_n 0, 1) := by decide +kernel
theorem dX9_readExpression_68 : decode cX9_readExpression 68 = .ok (.ldc_w 271, 3) := by decide +kernel
theorem dX9_readExpression_71 : decode cX9_readExpression 71 = .ok (.invokevirtual 219, 3) := by decide +kernel
theorem dX9_readExpression_74 : decode cX9_readExpression 74 = .ok (.ifCond .eq 21, 3) := by decide +kernel
theorem dX9_readExpression_77 : decode cX9_readExpression 77 = .ok (.aload_n 0, 1) := by decide +kernel
theorem dX9_readExpression_78 : decode cX9_readExpression 78 = .ok (.invokevirtual 230, 3) := by decide +kernel
theorem dX9_readExpression_81 : decode cX9_readExpression 81 = .ok (.aload_n 0, 1) := by decide +kernel
theorem dX9_readExpression_82 : decode cX9_readExpression 82 = .ok (.iload_n 1, 1) := by decide +kernel
theorem dX9_readExpression_83 : decode cX9_readExpression 83 = .ok (.invokevirtual 268, 3) := by decide +kernel
theorem dX9_readExpression_86 : decode cX9_readExpression 86 = .ok (.aload_n 0, 1) := by decide +kernel
theorem dX9_readExpression_87 : decode cX9_readExpression 87 = .ok (.bipush (-27), 2) := by decide +kernel
theorem dX9_readExpression_89 : decode cX9_readExpression 89 = .ok (.invokevirtual 239, 3) := by decide +kernel
theorem dX9_readExpression_92 : decode cX9_readExpression 92 = .ok (.goto (-25), 3) := by decide +kernel
theorem dX9_readExpression_95 : decode cX9_readExpression 95 = .ok (.return_, 1) := by decide +kernel
theorem dX9_readIsle_0 : decode cX9_readIsle 0 = .ok (.aload_n 0, 1) := by decide +kernel
theorem dX9_readIsle_1 : decode cX9_readIsle 1 = .ok (.getfield 51, 3) := by decide +kernel
theorem dX9_readIsle_4 : decode cX9_readIsle 4 = .ok (.bipush 10, 2) := by decide +kernel
theorem dX9_readIsle_6 : decode cX9_readIsle 6 = .ok (.iaload, 1) := by decide +kernel
theorem dX9_readIsle_7 : decode cX9_readIsle 7 = .ok (.bipush 6, 2) := by decide +kernel
theorem dX9_readIsle_9 : decode cX9_readIsle 9 = .ok (.if_icmp .ne 8, 3) := by decide +kernel
theorem dX9_readIsle_12 : decode cX9_readIsle 12 = .ok (.aload_n 0, 1) := by decide +kernel
theorem dX9_readIsle_13 : decode cX9_readIsle 13 = .ok (.iconst 2, 1) := by decide +kernel
theorem dX9_readIsle_14 : decode cX9_readIsle 14 = .ok (.invokevirtual 226, 3) := by decide +kernel
theorem dX9_readIsle_17 : decode cX9_readIsle 17 = .ok (.aload_n 0, 1) := by decide +kernel
theorem dX9_readIsle_18 : decode cX9_readIsle 18 = .ok (.getfield 205, 3) := by decide +kernel
theorem dX9_readIsle_21 : decode cX9_readIsle 21 = .ok (.ifCond .eq 4, 3) := by decide +kernel
theorem dX9_readIsle_24 : decode cX9_readIsle 24 = .ok (.return_, 1) := by decide +kernel
theorem dX9_readIsle_25 : decode cX9_readIsle 25 = .ok (.aload_n 0, 1) := by decide +kernel
theorem dX9_readIsle_26 : decode cX9_readIsle 26 = .ok (.invokevirtual 230, 3) := by decide +kernel
theorem dX9_readIsle_29 : decode cX9_readIsle 29 = .ok (.bipush 14, 2) := by decide +kernel
theorem dX9_readIsle_31 : decode cX9_readIsle 31 = .ok (.bipush 6, 2) := by decide +kernel
theorem dX9_readIsle_33 : decode cX9_readIsle 33 = .ok (.aload_n 0, 1) := by decide +kernel
theorem dX9_readIsle_34 : decode cX9_readIsle 34 = .ok (.getfield 51, 3) := by decide +kernel
theorem dX9_readIsle_37 : decode cX9_readIsle 37 = .ok (.bipush 10, 2) := by decide +kernel
theorem dX9_readIsle_39 : decode cX9_readIsle 39 = .ok (.iaload, 1) := by decide +kernel
theorem dX9_readIsle_40 : decode cX9_readIsle 40 = .ok (.iadd, 1) := by decide +kernel
theorem dX9_readIsle_41 : decode cX9_readIsle 41 = .ok (.imul, 1) := by decide +kernel
theorem dX9_readIsle_42 : decode cX9_readIsle 42 = .ok (.istore_n 2, 1) := by decide +kernel
theorem dX9_readIsle_43 : decode cX9_readIsle 43 = .ok (.aload_n 0, 1) := by decide +kernel
theorem dX9_readIsle_44 : decode cX9_readIsle 44 = .ok (.getfield 55, 3) := by decide +kernel
theorem dX9_readIsle_47 : decode cX9_readIsle 47 = .ok (.iload_n 2, 1) := by decide +kernel
theorem dX9_readIsle_48 : decode cX9_readIsle 48 = .ok (.iload_n 1, 1) := by decide +kernel
theorem dX9_readIsle_49 : decode cX9_readIsle 49 = .ok (.iastore, 1) := by decide +kernel
theorem dX9_readIsle_50 : decode cX9_readIsle 50 = .ok (.aload_n 0, 1) := by decide +kernel
theorem dX9_readIsle_51 : decode cX9_readIsle 51 = .ok (.getfield 55, 3) := by decide +kernel
theorem dX9_readIsle_54 : decode cX9_readIsle 54 = .ok (.iload_n 2, 1) := by decide +kernel
theorem dX9_readIsle_55 : decode cX9_readIsle 55 = .ok (.iconst 1, 1) := by decide +kernel
theorem dX9_readIsle_56 : decode cX9_readIsle 56 = .ok (.iadd, 1) := by decide +kernel
theorem dX9_readIsle_57 : decode cX9_readIsle 57 = .ok (.aload_n 0, 1) := by decide +kernel
theorem dX9_readIsle_58 : decode cX9_readIsle 58 = .ok (.iconst 0, 1) := by decide +kernel
theorem dX9_readIsle_59 : decode cX9_readIsle 59 = .ok (.bipush 60, 2) := by decide +kernel
theorem dX9_readIsle_61 : decode cX9_readIsle 61 = .ok (.invokevirtual 236, 3) := by decide +kernel
theorem dX9_readIsle_64 : decode cX9_readIsle 64 = .ok (.iastore, 1) := by decide +kernel
theorem dX9_readIsle_65 : decode cX9_readIsle 65 = .ok (.aload_n 0, 1) := by decide +kernel
theorem dX9_readIsle_66 : decode cX9_readIsle 66 = .ok (.getfield 55, 3) := by decide +kernel
theorem dX9_readIsle_69 : decode cX9_readIsle 69 = .ok (.iload_n 2, 1) := by decide +kernel
theorem dX9_readIsle_70 : decode cX9_readIsle 70 = .ok (.iconst 2, 1) := by decide +kernel
theorem dX9_readIsle_71 : decode cX9_readIsle 71 = .ok (.iadd, 1) := by decide +kernel
theorem dX9_readIsle_72 : decode cX9_readIsle 72 = .ok (.aload_n 0, 1) := by decide +kernel
theorem dX9_readIsle_73 : decode cX9_readIsle 73 = .ok (.iconst 0, 1) := by decide +kernel
theorem dX9_readIsle_74 : decode cX9_readIsle 74 = .ok (.bipush 60, 2) := by decide +kernel
theorem dX9_readIsle_76 : decode cX9_readIsle 76 = .ok (.invokevirtual 233, 3) := by decide +kernel
theorem dX9_readIsle_79 : decode cX9_readIsle 79 = .ok (.iastore, 1) := by decide +kernel
theorem dX9_readIsle_80 : decode cX9_readIsle 80 = .ok (.iconst 0, 1) := by decide +kernel
theorem dX9_readIsle_81 : decode cX9_readIsle 81 = .ok (.istore_n 3, 1) := by decide +kernel
theorem dX9_readIsle_82 : decode cX9_readIsle 82 = .ok (.iload_n 3, 1) := by decide +kernel
theorem dX9_readIsle_83 : decode cX9_readIsle 83 = .ok (.aload_n 0, 1) := by decide +kernel
theorem dX9_readIsle_84 : decode cX9_readIsle 84 = .ok (.getfield 51, 3) := by decide +kernel
theorem dX9_readIsle_87 : decode cX9_readIsle 87 = .ok (.bipush 10, 2) := by decide +kernel
theorem dX9_readIsle_89 : decode cX9_readIsle 89 = .ok (.iaload, 1) := by decide +kernel
theorem dX9_readIsle_90 : decode cX9_readIsle 90 = .ok (.if_icmp .ge 70, 3) := by decide +kernel
theorem dX9_readIsle_93 : decode cX9_readIsle 93 = .ok (.aload_n 0, 1) := by decide +kernel
theorem dX9_readIsle_94 : decode cX9_readIsle 94 = .ok (.getfield 205, 3) := by decide +kernel
theorem dX9_readIsle_97 : decode cX9_readIsle 97 = .ok (.ifCond .ne 63, 3) := by decide +kernel
theorem dX9_readIsle_100 : decode cX9_readIsle 100 = .ok (.bipush 14, 2) := by decide +kernel
theorem dX9_readIsle_102 : decode cX9_readIsle 102 = .ok (.bipush 6, 2) := by decide +kernel
theorem dX9_readIsle_104 : decode cX9_readIsle 104 = .ok (.iload_n 3, 1) := by decide +kernel
theorem dX9_readIsle_105 : decode cX9_readIsle 105 = .ok (.iadd, 1) := by decide +kernel
theorem dX9_readIsle_106 : decode cX9_readIsle 106 = .ok (.imul, 1) := by decide +kernel
theorem dX9_readIsle_107 : decode cX9_readIsle 107 = .ok (.istore 4, 2) := by decide +kernel
theorem dX9_readIsle_109 : decode cX9_readIsle 109 = .ok (.aload_n 0, 1) := by decide +kernel
theorem dX9_readIsle_110 : decode cX9_readIsle 110 = .ok (.getfield 55, 3) := by decide +kernel
theorem dX9_readIsle_113 : decode cX9_readIsle 113 = .ok (.iload 4, 2) := by decide +kernel
theorem dX9_readIsle_115 : decode cX9_readIsle 115 = .ok (.iconst 1, 1) := by decide +kernel
theorem dX9_readIsle_116 : decode cX9_readIsle 116 = .ok (.iadd, 1) := by decide +kernel
theorem dX9_readIsle_117 : decode cX9_readIsle 117 = .ok (.iaload, 1) := by decide +kernel
theorem dX9_readIsle_118 : decode cX9_readIsle 118 = .ok (.aload_n 0, 1) := by decide +kernel
theorem dX9_readIsle_119 : decode cX9_readIsle 119 = .ok (.getfield 55, 3) := by decide +kernel
theorem dX9_readIsle_122 : decode cX9_readIsle 122 = .ok (.iload_n 2, 1) := by decide +kernel
theorem dX9_readIsle_123 : decode cX9_readIsle 123 = .ok (.iconst 1, 1) := by decide +kernel
theorem dX9_readIsle_124 : decode cX9_readIsle 124 = .ok (.iadd, 1) := by decide +kernel
theorem dX9_readIsle_125 : decode cX9_readIsle 125 = .ok (.iaload, 1) := by decide +kernel
theorem dX9_readIsle_126 : decode cX9_readIsle 126 = .ok (.if_icmp .ne 28, 3) := by decide +kernel
theorem dX9_readIsle_129 : decode cX9_readIsle 129 = .ok (.aload_n 0, 1) := by decide +kernel
theorem dX9_readIsle_130 : decode cX9_readIsle 130 = .ok (.getfield 55, 3) := by decide +kernel
theorem dX9_readIsle_133 : decode cX9_readIsle 133 = .ok (.iload 4, 2) := by decide +kernel
theorem dX9_readIsle_135 : decode cX9_readIsle 135 = .ok (.iconst 2, 1) := by decide +kernel
theorem dX9_readIsle_136 : decode cX9_readIsle 136 = .ok (.iadd, 1) := by decide +kernel
theorem dX9_readIsle_137 : decode cX9_readIsle 137 = .ok (.iaload, 1) := by decide +kernel
theorem dX9_readIsle_138 : decode cX9_readIsle 138 = .ok (.aload_n 0, 1) := by decide +kernel
theorem dX9_readIsle_139 : decode cX9_readIsle 139 = .ok (.getfield 55, 3) := by decide +kernel
theorem dX9_readIsle_142 : decode cX9_readIsle 142 = .ok (.iload_n 2, 1) := by decide +kernel
theorem dX9_readIsle_143 : decode cX9_readIsle 143 = .ok (.iconst 2, 1) := by decide +kernel
theorem dX9_readIsle_144 : decode cX9_readIsle 144 = .ok (.iadd, 1) := by decide +kernel
theorem dX9_readIsle_145 : decode cX9_readIsle 145 = .ok (.iaload, 1) := by decide +kernel
theorem dX9_readIsle_146 : decode cX9_readIsle 146 = .ok (.if_icmp .ne 8, 3) := by decide +kernel
theorem dX9_readIsle_149 : decode cX9_readIsle 149 = .ok (.aload_n 0, 1) := by decide +kernel
theorem dX9_readIsle_150 : decode cX9_readIsle 150 = .ok (.iconst 4, 1) := by decide +kernel
theorem dX9_readIsle_151 : decode cX9_readIsle 151 = .ok (.invokevirtual 226, 3) := by decide +kernel
theorem dX9_readIsle_154 : decode cX9_readIsle 154 = .ok (.iinc 3 1, 3) := by decide +kernel
theorem dX9_readIsle_157 : decode cX9_readIsle 157 = .ok (.goto (-75), 3) := by decide +kernel
theorem dX9_readIsle_160 : decode cX9_readIsle 160 = .ok (.aload_n 0, 1) := by decide +kernel
theorem dX9_readIsle_161 : decode cX9_readIsle 161 = .ok (.getfield 205, 3) := by decide +kernel
theorem dX9_readIsle_164 : decode cX9_readIsle 164 = .ok (.ifCond .ne 7, 3) := by decide +kernel
theorem dX9_readIsle_167 : decode cX9_readIsle 167 = .ok (.aload_n 0, 1) := by decide +kernel
theorem dX9_readIsle_168 : decode cX9_readIsle 168 = .ok (.invokevirtual 230, 3) := by decide +kernel
theorem dX9_readIsle_171 : decode cX9_readIsle 171 = .ok (.aload_n 0, 1) := by decide +kernel
theorem dX9_readIsle_172 : decode cX9_readIsle 172 = .ok (.getfield 55, 3) := by decide +kernel
theorem dX9_readIsle_175 : decode cX9_readIsle 175 = .ok (.iload_n 2, 1) := by decide +kernel
theorem dX9_readIsle_176 : decode cX9_readIsle 176 = .ok (.iconst 3, 1) := by decide +kernel
theorem dX9_readIsle_177 : decode cX9_readIsle 177 = .ok (.iadd, 1) := by decide +kernel
theorem dX9_readIsle_178 : decode cX9_readIsle 178 = .ok (.aload_n 0, 1) := by decide +kernel
theorem dX9_readIsle_179 : decode cX9_readIsle 179 = .ok (.iconst 1, 1) := by decide +kernel
theorem dX9_readIsle_180 : decode cX9_readIsle 180 = .ok (.bipush 60, 2) := by decide +kernel
theorem dX9_readIsle_182 : decode cX9_readIsle 182 = .ok (.invokevirtual 236, 3) := by decide +kernel
theorem dX9_readIsle_185 : decode cX9_readIsle 185 = .ok (.iastore, 1) := by decide +kernel
theorem dX9_readIsle_186 : decode cX9_readIsle 186 = .ok (.aload_n 0, 1) := by decide +kernel
theorem dX9_readIsle_187 : decode cX9_readIsle 187 = .ok (.getfield 55, 3) := by decide +kernel
theorem dX9_readIsle_190 : decode cX9_readIsle 190 = .ok (.iload_n 2, 1) := by decide +kernel
theorem dX9_readIsle_191 : decode cX9_readIsle 191 = .ok (.iconst 4, 1) := by decide +kernel
theorem dX9_readIsle_192 : decode cX9_readIsle 192 = .ok (.iadd, 1) := by decide +kernel
theorem dX9_readIsle_193 : decode cX9_readIsle 193 = .ok (.aload_n 0, 1) := by decide +kernel
theorem dX9_readIsle_194 : decode cX9_readIsle 194 = .ok (.iconst 1, 1) := by decide +kernel
theorem dX9_readIsle_195 : decode cX9_readIsle 195 = .ok (.bipush 99, 2) := by decide +kernel
theorem dX9_readIsle_197 : decode cX9_readIsle 197 = .ok (.invokevirtual 236, 3) := by decide +kernel
theorem dX9_readIsle_200 : decode cX9_readIsle 200 = .ok (.iastore, 1) := by decide +kernel
theorem dX9_readIsle_201 : decode cX9_readIsle 201 = .ok (.aload_n 0, 1) := by decide +kernel
theorem dX9_readIsle_202 : decode cX9_readIsle 202 = .ok (.getfield 55, 3) := by decide +kernel
theorem dX9_readIsle_205 : decode cX9_readIsle 205 = .ok (.iload_n 2, 1) := by decide +kernel
theorem dX9_readIsle_206 : decode cX9_readIsle 206 = .ok (.iconst 5, 1) := by decide +kernel
theorem dX9_readIsle_207 : decode cX9_readIsle 207 = .ok (.iadd, 1) := by decide +kernel
theorem dX9_readIsle_208 : decode cX9_readIsle 208 = .ok (.aload_n 0, 1) := by decide +kernel
theorem dX9_readIsle_209 : decode cX9_readIsle 209 = .ok (.iconst 1, 1) := by decide +kernel
theorem dX9_readIsle_210 : decode cX9_readIsle 210 = .ok (.bipush 6, 2) := by decide +kernel
theorem dX9_readIsle_212 : decode cX9_readIsle 212 = .ok (.invokevirtual 236, 3) := by decide +kernel
theorem dX9_readIsle_215 : decode cX9_readIsle 215 = .ok (.iastore, 1) := by decide +kernel
theorem dX9_readIsle_216 : decode cX9_readIsle 216 = .ok (.aload_n 0, 1) := by decide +kernel
theorem dX9_readIsle_217 : decode cX9_readIsle 217 = .ok (.getfield 55, 3) := by decide +kernel
theorem dX9_readIsle_220 : decode cX9_readIsle 220 = .ok (.iload_n 2, 1) := by decide +kernel
theorem dX9_readIsle_221 : decode cX9_readIsle 221 = .ok (.bipush 6, 2) := by decide +kernel
theorem dX9_readIsle_223 : decode cX9_readIsle 223 = .ok (.iadd, 1) := by decide +kernel
theorem dX9_readIsle_224 : decode cX9_readIsle 224 = .ok (.aload_n 0, 1) := by decide +kernel
theorem dX9_readIsle_225 : decode cX9_readIsle 225 = .ok (.iconst 0, 1) := by decide +kernel
theorem dX9_readIsle_226 : decode cX9_readIsle 226 = .ok (.bipush 20, 2) := by decide +kernel
theorem dX9_readIsle_228 : decode cX9_readIsle 228 = .ok (.invokevirtual 236, 3) := by decide +kernel
theorem dX9_readIsle_231 : decode cX9_readIsle 231 = .ok (.iastore, 1) := by decide +kernel
theorem dX9_readIsle_232 : decode cX9_readIsle 232 = .ok (.aload_n 0, 1) := by decide +kernel
theorem dX9_readIsle_233 : decode cX9_readIsle 233 = .ok (.getfield 55, 3) := by decide +kernel
theorem dX9_readIsle_236 : decode cX9_readIsle 236 = .ok (.iload_n 2, 1) := by decide +kernel
theorem dX9_readIsle_237 : decode cX9_readIsle 237 = .ok (.bipush 7, 2) := by decide +kernel
theorem dX9_readIsle_239 : decode cX9_readIsle 239 = .ok (.iadd, 1) := by decide +kernel
theorem dX9_readIsle_240 : decode cX9_readIsle 240 = .ok (.aload_n 0, 1) := by decide +kernel
theorem dX9_readIsle_241 : decode cX9_readIsle 241 = .ok (.iconst 0, 1) := by decide +kernel
theorem dX9_readIsle_242 : decode cX9_readIsle 242 = .ok (.bipush 60, 2) := by decide +kernel
theorem dX9_readIsle_244 : decode cX9_readIsle 244 = .ok (.invokevirtual 236, 3) := by decide +kernel
theorem dX9_readIsle_247 : decode cX9_readIsle 247 = .ok (.iastore, 1) := by decide +kernel
theorem dX9_readIsle_248 : decode cX9_readIsle 248 = .ok (.aload_n 0, 1) := by decide +kernel
theorem dX9_readIsle_249 : decode cX9_readIsle 249 = .ok (.getfield 55, 3) := by decide +kernel
theorem dX9_readIsle_252 : decode cX9_readIsle 252 = .ok (.iload_n 2, 1) := by decide +kernel
theorem dX9_readIsle_253 : decode cX9_readIsle 253 = .ok (.bipush 8, 2) := by decide +kernel
theorem dX9_readIsle_255 : decode cX9_readIsle 255 = .ok (.iadd, 1) := by decide +kernel
theorem dX9_readIsle_256 : decode cX9_readIsle 256 = .ok (.aload_n 0, 1) := by decide +kernel
theorem dX9_readIsle_257 : decode cX9_readIsle 257 = .ok (.iconst 0, 1) := by decide +kernel
theorem dX9_readIsle_258 : decode cX9_readIsle 258 = .ok (.bipush 9, 2) := by decide +kernel
theorem dX9_readIsle_260 : decode cX9_readIsle 260 = .ok (.invokevirtual 236, 3) := by decide +kernel
theorem dX9_readIsle_263 : decode cX9_readIsle 263 = .ok (.iastore, 1) := by decide +kernel
theorem dX9_readIsle_264 : decode cX9_readIsle 264 = .ok (.aload_n 0, 1) := by decide +kernel
theorem dX9_readIsle_265 : decode cX9_readIsle 265 = .ok (.getfield 55, 3) := by decide +kernel
theorem dX9_readIsle_268 : decode cX9_readIsle 268 = .ok (.iload_n 2, 1) := by decide +kernel
theorem dX9_readIsle_269 : decode cX9_readIsle 269 = .ok (.bipush 9, 2) := by decide +kernel
theorem dX9_readIsle_271 : decode cX9_readIsle 271 = .ok (.iadd, 1) := by decide +kernel
theorem dX9_readIsle_272 : decode cX9_readIsle 272 = .ok (.iconst 0, 1) := by decide +kernel
theorem dX9_readIsle_273 : decode cX9_readIsle 273 = .ok (.iastore, 1) := by decide +kernel
theorem dX9_readIsle_274 : decode cX9_readIsle 274 = .ok (.iconst 0, 1) := by decide +kernel
theorem dX9_readIsle_275 : decode cX9_readIsle 275 = .ok (.istore_n 3, 1) := by decide +kernel
theorem dX9_readIsle_276 : decode cX9_readIsle 276 = .ok (.iload_n 3, 1) := by decide +kernel
theorem dX9_readIsle_277 : decode cX9_readIsle 277 = .ok (.iconst 4, 1) := by decide +kernel
theorem dX9_readIsle_278 : decode cX9_readIsle 278 = .ok (.if_icmp .ge 35, 3) := by decide +kernel
theorem dX9_readIsle_281 : decode cX9_readIsle 281 = .ok (.aload_n 0, 1) := by decide +kernel
theorem dX9_readIsle_282 : decode cX9_readIsle 282 = .ok (.getfield 55, 3) := by decide +kernel
theorem dX9_readIsle_285 : decode cX9_readIsle 285 = .ok (.iload_n 2, 1) := by decide +kernel
theorem dX9_readIsle_286 : decode cX9_readIsle 286 = .ok (.bipush 10, 2) := by decide +kernel
theorem dX9_readIsle_288 : decode cX9_readIsle 288 = .ok (.iadd, 1) := by decide +kernel
theorem dX9_readIsle_289 : decode cX9_readIsle 289 = .ok (.iload_n 3, 1) := by decide +kernel
theorem dX9_readIsle_290 : decode cX9_readIsle 290 = .ok (.iadd, 1) := by decide +kernel
theorem dX9_readIsle_291 : decode cX9_readIsle 291 = .ok (.aload_n 0, 1) := by decide +kernel
theorem dX9_readIsle_292 : decode cX9_readIsle 292 = .ok (.getfield 55, 3) := by decide +kernel
theorem dX9_readIsle_295 : decode cX9_readIsle 295 = .ok (.iload_n 2, 1) := by decide +kernel
theorem dX9_readIsle_296 : decode cX9_readIsle 296 = .ok (.bipush 6, 2) := by decide +kernel
theorem dX9_readIsle_298 : decode cX9_readIsle 298 = .ok (.iadd, 1) := by decide +kernel
theorem dX9_readIsle_299 : decode cX9_readIsle 299 = .ok (.iaload, 1) := by decide +kernel
theorem dX9_readIsle_300 : decode cX9_readIsle 300 = .ok (.iconst 3, 1) := by decide +kernel
theorem dX9_readIsle_301 : decode cX9_readIsle 301 = .ok (.iadd, 1) := by decide +kernel
theorem dX9_readIsle_302 : decode cX9_readIsle 302 = .ok (.iload_n 3, 1) := by decide +kernel
theorem dX9_readIsle_303 : decode cX9_readIsle 303 = .ok (.isub, 1) := by decide +kernel
theorem dX9_readIsle_304 : decode cX9_readIsle 304 = .ok (.iconst 4, 1) := by decide +kernel
theorem dX9_readIsle_305 : decode cX9_readIsle 305 = .ok (.idiv, 1) := by decide +kernel
theorem dX9_readIsle_306 : decode cX9_readIsle 306 = .ok (.iastore, 1) := by decide +kernel
theorem dX9_readIsle_307 : decode cX9_readIsle 307 = .ok (.iinc 3 1, 3) := by decide +kernel
theorem dX9_readIsle_310 : decode cX9_readIsle 310 = .ok (.goto (-34), 3) := by decide +kernel
theorem dX9_readIsle_313 : decode cX9_readIsle 313 = .ok (.aload_n 0, 1) := by decide +kernel
theorem dX9_readIsle_314 : decode cX9_readIsle 314 = .ok (.getfield 51, 3) := by decide +kernel
theorem dX9_readIsle_317 : decode cX9_readIsle 317 = .ok (.bipush 10, 2) := by decide +kernel
theorem dX9_readIsle_319 : decode cX9_readIsle 319 = .ok (.dup2, 1) := by decide +kernel
theorem dX9_readIsle_320 : decode cX9_readIsle 320 = .ok (.iaload, 1) := by decide +kernel
theorem dX9_readIsle_321 : decode cX9_readIsle 321 = .ok (.iconst 1, 1) := by decide +kernel
theorem dX9_readIsle_322 : decode cX9_readIsle 322 = .ok (.iadd, 1) := by decide +kernel
theorem dX9_readIsle_323 : decode cX9_readIsle 323 = .ok (.iastore, 1) := by decide +kernel
theorem dX9_readIsle_324 : decode cX9_readIsle 324 = .ok (.return_, 1) := by decide +kernel
theorem dX9_readWind_0 : decode cX9_readWind 0 = .ok (.aload_n 0, 1) := by decide +kernel
theorem dX9_readWind_1 : decode cX9_readWind 1 = .ok (.getfield 51, 3) := by decide +kernel
theorem dX9_readWind_4 : decode cX9_readWind 4 = .ok (.bipush 11, 2) := by decide +kernel
theorem dX9_readWind_6 : decode cX9_readWind 6 = .ok (.iaload, 1) := by decide +kernel
theorem dX9_readWind_7 : decode cX9_readWind 7 = .ok (.bipush 12, 2) := by decide +kernel
theorem dX9_readWind_9 : decode cX9_readWind 9 = .ok (.if_icmp .ne 8, 3) := by decide +kernel
theorem dX9_readWind_12 : decode cX9_readWind 12 = .ok (.aload_n 0, 1) := by decide +kernel
theorem dX9_readWind_13 : decode cX9_readWind 13 = .ok (.iconst 2, 1) := by decide +kernel
theorem dX9_readWind_14 : decode cX9_readWind 14 = .ok (.invokevirtual 226, 3) := by decide +kernel
theorem dX9_readWind_17 : decode cX9_readWind 17 = .ok (.aload_n 0, 1) := by decide +kernel
theorem dX9_readWind_18 : decode cX9_readWind 18 = .ok (.getfield 205, 3) := by decide +kernel
theorem dX9_readWind_21 : decode cX9_readWind 21 = .ok (.ifCond .eq 4, 3) := by decide +kernel
theorem dX9_readWind_24 : decode cX9_readWind 24 = .ok (.return_, 1) := by decide +kernel
theorem dX9_readWind_25 : decode cX9_readWind 25 = .ok (.aload_n 0, 1) := by decide +kernel
theorem dX9_readWind_26 : decode cX9_readWind 26 = .ok (.invokevirtual 230, 3) := by decide +kernel
theorem dX9_readWind_29 : decode cX9_readWind 29 = .ok (.bipush 12, 2) := by decide +kernel
theorem dX9_readWind_31 : decode cX9_readWind 31 = .ok (.aload_n 0, 1) := by decide +kernel
theorem dX9_readWind_32 : decode cX9_readWind 32 = .ok (.getfield 51, 3) := by decide +kernel
theorem dX9_readWind_35 : decode cX9_readWind 35 = .ok (.bipush 11, 2) := by decide +kernel
theorem dX9_readWind_37 : decode cX9_readWind 37 = .ok (.iaload, 1) := by decide +kernel
theorem dX9_readWind_38 : decode cX9_readWind 38 = .ok (.iadd, 1) := by decide +kernel
theorem dX9_readWind_39 : decode cX9_readWind 39 = .ok (.istore_n 1, 1) := by decide +kernel
theorem dX9_readWind_40 : decode cX9_readWind 40 = .ok (.aload_n 0, 1) := by decide +kernel
theorem dX9_readWind_41 : decode cX9_readWind 41 = .ok (.getfield 58, 3) := by decide +kernel
theorem dX9_readWind_44 : decode cX9_readWind 44 = .ok (.iload_n 1, 1) := by decide +kernel
theorem dX9_readWind_45 : decode cX9_readWind 45 = .ok (.aload_n 0, 1) := by decide +kernel
theorem dX9_readWind_46 : decode cX9_readWind 46 = .ok (.iconst 0, 1) := by decide +kernel
theorem dX9_readWind_47 : decode cX9_readWind 47 = .ok (.sipush 167, 3) := by decide +kernel
theorem dX9_readWind_50 : decode cX9_readWind 50 = .ok (.invokevirtual 233, 3) := by decide +kernel
theorem dX9_readWind_53 : decode cX9_readWind 53 = .ok (.iastore, 1) := by decide +kernel
theorem dX9_readWind_54 : decode cX9_readWind 54 = .ok (.bipush 12, 2) := by decide +kernel
theorem dX9_readWind_56 : decode cX9_readWind 56 = .ok (.istore_n 2, 1) := by decide +kernel
theorem dX9_readWind_57 : decode cX9_readWind 57 = .ok (.iload_n 2, 1) := by decide +kernel
theorem dX9_readWind_58 : decode cX9_readWind 58 = .ok (.iload_n 1, 1) := by decide +kernel
theorem dX9_readWind_59 : decode cX9_readWind 59 = .ok (.if_icmp .ge 36, 3) := by decide +kernel
theorem dX9_readWind_62 : decode cX9_readWind 62 = .ok (.aload_n 0, 1) := by decide +kernel
theorem dX9_readWind_63 : decode cX9_readWind 63 = .ok (.getfield 205, 3) := by decide +kernel
theorem dX9_readWind_66 : decode cX9_readWind 66 = .ok (.ifCond .ne 29, 3) := by decide +kernel
theorem dX9_readWind_69 : decode cX9_readWind 69 = .ok (.aload_n 0, 1) := by decide +kernel
theorem dX9_readWind_70 : decode cX9_readWind 70 = .ok (.getfield 58, 3) := by decide +kernel
theorem dX9_readWind_73 : decode cX9_readWind 73 = .ok (.iload_n 2, 1) := by decide +kernel
theorem dX9_readWind_74 : decode cX9_readWind 74 = .ok (.iaload, 1) := by decide +kernel
theorem dX9_readWind_75 : decode cX9_readWind 75 = .ok (.aload_n 0, 1) := by decide +kernel
theorem dX9_readWind_76 : decode cX9_readWind 76 = .ok (.getfield 58, 3) := by decide +kernel
theorem dX9_readWind_79 : decode cX9_readWind 79 = .ok (.iload_n 1, 1) := by decide +kernel
theorem dX9_readWind_80 : decode cX9_readWind 80 = .ok (.iaload, 1) := by decide +kernel
theorem dX9_readWind_81 : decode cX9_readWind 81 = .ok (.if_icmp .ne 8, 3) := by decide +kernel
theorem dX9_readWind_84 : decode cX9_readWind 84 = .ok (.aload_n 0, 1) := by decide +kernel
theorem dX9_readWind_85 : decode cX9_readWind 85 = .ok (.iconst 4, 1) := by decide +kernel
theorem dX9_readWind_86 : decode cX9_readWind 86 = .ok (.invokevirtual 226, 3) := by decide +kernel
theorem dX9_readWind_89 : decode cX9_readWind 89 = .ok (.iinc 2 1, 3) := by decide +kernel
theorem dX9_readWind_92 : decode cX9_readWind 92 = .ok (.goto (-35), 3) := by decide +kernel
theorem dX9_readWind_95 : decode cX9_readWind 95 = .ok (.aload_n 0, 1) := by decide +kernel
theorem dX9_readWind_96 : decode cX9_readWind 96 = .ok (.getfield 205, 3) := by decide +kernel
theorem dX9_readWind_99 : decode cX9_readWind 99 = .ok (.ifCond .ne 7, 3) := by decide +kernel
theorem dX9_readWind_102 : decode cX9_readWind 102 = .ok (.aload_n 0, 1) := by decide +kernel
theorem dX9_readWind_103 : decode cX9_readWind 103 = .ok (.invokevirtual 230, 3) := by decide +kernel
theorem dX9_readWind_106 : decode cX9_readWind 106 = .ok (.aload_n 0, 1) := by decide +kernel
theorem dX9_readWind_107 : decode cX9_readWind 107 = .ok (.getfield 61, 3) := by decide +kernel
theorem dX9_readWind_110 : decode cX9_readWind 110 = .ok (.iload_n 1, 1) := by decide +kernel
theorem dX9_readWind_111 : decode cX9_readWind 111 = .ok (.aload_n 0, 1) := by decide +kernel
theorem dX9_readWind_112 : decode cX9_readWind 112 = .ok (.bipush 9, 2) := by decide +kernel
theorem dX9_readWind_114 : decode cX9_readWind 114 = .ok (.invokevirtual 273, 3) := by decide +kernel
theorem dX9_readWind_117 : decode cX9_readWind 117 = .ok (.iastore, 1) := by decide +kernel
theorem dX9_readWind_118 : decode cX9_readWind 118 = .ok (.aload_n 0, 1) := by decide +kernel
theorem dX9_readWind_119 : decode cX9_readWind 119 = .ok (.getfield 64, 3) := by decide +kernel
theorem dX9_readWind_122 : decode cX9_readWind 122 = .ok (.iload_n 1, 1) := by decide +kernel
theorem dX9_readWind_123 : decode cX9_readWind 123 = .ok (.aload_n 0, 1) := by decide +kernel
theorem dX9_readWind_124 : decode cX9_readWind 124 = .ok (.bipush 9, 2) := by decide +kernel
theorem dX9_readWind_126 : decode cX9_readWind 126 = .ok (.invokevirtual 273, 3) := by decide +kernel
theorem dX9_readWind_129 : decode cX9_readWind 129 = .ok (.iastore, 1) := by decide +kernel
theorem dX9_readWind_130 : decode cX9_readWind 130 = .ok (.aload_n 0, 1) := by decide +kernel
theorem dX9_readWind_131 : decode cX9_readWind 131 = .ok (.getfield 51, 3) := by decide +kernel
theorem dX9_readWind_134 : decode cX9_readWind 134 = .ok (.bipush 11, 2) := by decide +kernel
theorem dX9_readWind_136 : decode cX9_readWind 136 = .ok (.dup2, 1) := by decide +kernel
theorem dX9_readWind_137 : decode cX9_readWind 137 = .ok (.iaload, 1) := by decide +kernel
theorem dX9_readWind_138 : decode cX9_readWind 138 = .ok (.iconst 1, 1) := by decide +kernel
theorem dX9_readWind_139 : decode cX9_readWind 139 = .ok (.iadd, 1) := by decide +kernel
theorem dX9_readWind_140 : decode cX9_readWind 140 = .ok (.iastore, 1) := by decide +kernel
theorem dX9_readWind_141 : decode cX9_readWind 141 = .ok (.return_, 1) := by decide +kernel
theorem dX9_readGusts_0 : decode cX9_readGusts 0 = .ok (.iconst 0, 1) := by decide +kernel
theorem dX9_readGusts_1 : decode cX9_readGusts 1 = .ok (.istore_n 1, 1) := by decide +kernel
theorem dX9_readGusts_2 : decode cX9_readGusts 2 = .ok (.iconst 0, 1) := by decide +kernel
theorem dX9_readGusts_3 : decode cX9_readGusts 3 = .ok (.istore_n 2, 1) := by decide +kernel
theorem dX9_readGusts_4 : decode cX9_readGusts 4 = .ok (.iload_n 2, 1) := by decide +kernel
theorem dX9_readGusts_5 : decode cX9_readGusts 5 = .ok (.iconst 4, 1) := by decide +kernel
theorem dX9_readGusts_6 : decode cX9_readGusts 6 = .ok (.if_icmp .ge 70, 3) := by decide +kernel
theorem dX9_readGusts_9 : decode cX9_readGusts 9 = .ok (.aload_n 0, 1) := by decide +kernel
theorem dX9_readGusts_10 : decode cX9_readGusts 10 = .ok (.getfield 205, 3) := by decide +kernel
theorem dX9_readGusts_13 : decode cX9_readGusts 13 = .ok (.ifCond .ne 63, 3) := by decide +kernel
theorem dX9_readGusts_16 : decode cX9_readGusts 16 = .ok (.aload_n 0, 1) := by decide +kernel
theorem dX9_readGusts_17 : decode cX9_readGusts 17 = .ok (.iconst 0, 1) := by decide +kernel
theorem dX9_readGusts_18 : decode cX9_readGusts 18 = .ok (.bipush 9, 2) := by decide +kernel
theorem dX9_readGusts_20 : decode cX9_readGusts 20 = .ok (.invokevirtual 233, 3) := by decide +kernel
theorem dX9_readGusts_23 : decode cX9_readGusts 23 = .ok (.istore_n 3, 1) := by decide +kernel
theorem dX9_readGusts_24 : decode cX9_readGusts 24 = .ok (.iload_n 1, 1) := by decide +kernel
theorem dX9_readGusts_25 : decode cX9_readGusts 25 = .ok (.iload_n 3, 1) := by decide +kernel
theorem dX9_readGusts_26 : decode cX9_readGusts 26 = .ok (.iadd, 1) := by decide +kernel
theorem dX9_readGusts_27 : decode cX9_readGusts 27 = .ok (.istore_n 1, 1) := by decide +kernel
theorem dX9_readGusts_28 : decode cX9_readGusts 28 = .ok (.aload_n 0, 1) := by decide +kernel
theorem dX9_readGusts_29 : decode cX9_readGusts 29 = .ok (.getfield 205, 3) := by decide +kernel
theorem dX9_readGusts_32 : decode cX9_readGusts 32 = .ok (.ifCond .ne 17, 3) := by decide +kernel
theorem dX9_readGusts_35 : decode cX9_readGusts 35 = .ok (.iload_n 2, 1) := by decide +kernel
theorem dX9_readGusts_36 : decode cX9_readGusts 36 = .ok (.iconst 3, 1) := by decide +kernel
theorem dX9_readGusts_37 : decode cX9_readGusts 37 = .ok (.if_icmp .ne 12, 3) := by decide +kernel
theorem dX9_readGusts_40 : decode cX9_readGusts 40 = .ok (.iload_n 1, 1) := by decide +kernel
theorem dX9_readGusts_41 : decode cX9_readGusts 41 = .ok (.ifCond .ne 8, 3) := by decide +kernel
theorem dX9_readGusts_44 : decode cX9_readGusts 44 = .ok (.aload_n 0, 1) := by decide +kernel
theorem dX9_readGusts_45 : decode cX9_readGusts 45 = .ok (.iconst 2, 1) := by decide +kernel
theorem dX9_readGusts_46 : decode cX9_readGusts 46 = .ok (.invokevirtual 226, 3) := by decide +kernel
theorem dX9_readGusts_49 : decode cX9_readGusts 49 = .ok (.aload_n 0, 1) := by decide +kernel
theorem dX9_readGusts_50 : decode cX9_readGusts 50 = .ok (.getfield 51, 3) := by decide +kernel
theorem dX9_readGusts_53 : decode cX9_readGusts 53 = .ok (.bipush 15, 2) := by decide +kernel
theorem dX9_readGusts_55 : decode cX9_readGusts 55 = .ok (.iload_n 2, 1) := by decide +kernel
theorem dX9_readGusts_56 : decode cX9_readGusts 56 = .ok (.iadd, 1) := by decide +kernel
theorem dX9_readGusts_57 : decode cX9_readGusts 57 = .ok (.iload_n 3, 1) := by decide +kernel
theorem dX9_readGusts_58 : decode cX9_readGusts 58 = .ok (.iastore, 1) := by decide +kernel
theorem dX9_readGusts_59 : decode cX9_readGusts 59 = .ok (.aload_n 0, 1) := by decide +kernel
theorem dX9_readGusts_60 : decode cX9_readGusts 60 = .ok (.getfield 205, 3) := by decide +kernel
theorem dX9_readGusts_63 : decode cX9_readGusts 63 = .ok (.ifCond .ne 7, 3) := by decide +kernel
theorem dX9_readGusts_66 : decode cX9_readGusts 66 = .ok (.aload_n 0, 1) := by decide +kernel
theorem dX9_readGusts_67 : decode cX9_readGusts 67 = .ok (.invokevirtual 230, 3) := by decide +kernel
theorem dX9_readGusts_70 : decode cX9_readGusts 70 = .ok (.iinc 2 1, 3) := by decide +kernel
theorem dX9_readGusts_73 : decode cX9_readGusts 73 = .ok (.goto (-69), 3) := by decide +kernel
theorem dX9_readGusts_76 : decode cX9_readGusts 76 = .ok (.return_, 1) := by decide +kernel
theorem dX9_readLine_0 : decode cX9_readLine 0 = .ok (.aload_n 0, 1) := by decide +kernel
theorem dX9_readLine_1 : decode cX9_readLine 1 = .ok (.ldc_w 276, 3) := by decide +kernel
theorem dX9_readLine_4 : decode cX9_readLine 4 = .ok (.invokevirtual 219, 3) := by decide +kernel
theorem dX9_readLine_7 : decode cX9_readLine 7 = .ok (.ifCond .eq 7, 3) := by decide +kernel
theorem dX9_readLine_10 : decode cX9_readLine 10 = .ok (.iconst 1, 1) := by decide +kernel
theorem dX9_readLine_11 : decode cX9_readLine 11 = .ok (.goto 62, 3) := by decide +kernel
theorem dX9_readLine_14 : decode cX9_readLine 14 = .ok (.aload_n 0, 1) := by decide +kernel
theorem dX9_readLine_15 : decode cX9_readLine 15 = .ok (.ldc_w 278, 3) := by decide +kernel
theorem dX9_readLine_18 : decode cX9_readLine 18 = .ok (.invokevirtual 219, 3) := by decide +kernel
theorem dX9_readLine_21 : decode cX9_readLine 21 = .ok (.ifCond .eq 7, 3) := by decide +kernel
theorem dX9_readLine_24 : decode cX9_readLine 24 = .ok (.iconst 2, 1) := by decide +kernel
theorem dX9_readLine_25 : decode cX9_readLine 25 = .ok (.goto 48, 3) := by decide +kernel
theorem dX9_readLine_28 : decode cX9_readLine 28 = .ok (.aload_n 0, 1) := by decide +kernel
theorem dX9_readLine_29 : decode cX9_readLine 29 = .ok (.ldc_w 280, 3) := by decide +kernel
theorem dX9_readLine_32 : decode cX9_readLine 32 = .ok (.invokevirtual 219, 3) := by decide +kernel
theorem dX9_readLine_35 : decode cX9_readLine 35 = .ok (.ifCond .eq 7, 3) := by decide +kernel
theorem dX9_readLine_38 : decode cX9_readLine 38 = .ok (.iconst 4, 1) := by decide +kernel
theorem dX9_readLine_39 : decode cX9_readLine 39 = .ok (.goto 34, 3) := by decide +kernel
theorem dX9_readLine_42 : decode cX9_readLine 42 = .ok (.aload_n 0, 1) := by decide +kernel
theorem dX9_readLine_43 : decode cX9_readLine 43 = .ok (.ldc_w 282, 3) := by decide +kernel
theorem dX9_readLine_46 : decode cX9_readLine 46 = .ok (.invokevirtual 219, 3) := by decide +kernel
theorem dX9_readLine_49 : decode cX9_readLine 49 = .ok (.ifCond .eq 8, 3) := by decide +kernel
theorem dX9_readLine_52 : decode cX9_readLine 52 = .ok (.bipush 8, 2) := by decide +kernel
theorem dX9_readLine_54 : decode cX9_readLine 54 = .ok (.goto 19, 3) := by decide +kernel
theorem dX9_readLine_57 : decode cX9_readLine 57 = .ok (.aload_n 0, 1) := by decide +kernel
theorem dX9_readLine_58 : decode cX9_readLine 58 = .ok (.ldc_w 284, 3) := by decide +kernel
theorem dX9_readLine_61 : decode cX9_readLine 61 = .ok (.invokevirtual 219, 3) := by decide +kernel
theorem dX9_readLine_64 : decode cX9_readLine 64 = .ok (.ifCond .eq 8, 3) := by decide +kernel
theorem dX9_readLine_67 : decode cX9_readLine 67 = .ok (.bipush 16, 2) := by decide +kernel
theorem dX9_readLine_69 : decode cX9_readLine 69 = .ok (.goto 4, 3) := by decide +kernel
theorem dX9_readLine_72 : decode cX9_readLine 72 = .ok (.iconst 0, 1) := by decide +kernel
theorem dX9_readLine_73 : decode cX9_readLine 73 = .ok (.istore_n 2, 1) := by decide +kernel
theorem dX9_readLine_74 : decode cX9_readLine 74 = .ok (.aload_n 0, 1) := by decide +kernel
theorem dX9_readLine_75 : decode cX9_readLine 75 = .ok (.aload_n 0, 1) := by decide +kernel
theorem dX9_readLine_76 : decode cX9_readLine 76 = .ok (.getfield 15, 3) := by decide +kernel
theorem dX9_readLine_79 : decode cX9_readLine 79 = .ok (.invokevirtual 242, 3) := by decide +kernel
theorem dX9_readLine_82 : decode cX9_readLine 82 = .ok (.istore_n 3, 1) := by decide +kernel
theorem dX9_readLine_83 : decode cX9_readLine 83 = .ok (.iload_n 2, 1) := by decide +kernel
theorem dX9_readLine_84 : decode cX9_readLine 84 = .ok (.iload_n 1, 1) := by decide +kernel
theorem dX9_readLine_85 : decode cX9_readLine 85 = .ok (.iand, 1) := by decide +kernel
theorem dX9_readLine_86 : decode cX9_readLine 86 = .ok (.ifCond .eq 8, 3) := by decide +kernel
theorem dX9_readLine_89 : decode cX9_readLine 89 = .ok (.aload_n 0, 1) := by decide +kernel
theorem dX9_readLine_90 : decode cX9_readLine 90 = .ok (.iconst 5, 1) := by decide +kernel
theorem dX9_readLine_91 : decode cX9_readLine 91 = .ok (.invokevirtual 226, 3) := by decide +kernel
theorem dX9_readLine_94 : decode cX9_readLine 94 = .ok (.iload_n 2, 1) := by decide +kernel
theorem dX9_readLine_95 : decode cX9_readLine 95 = .ok (.ifCond .le 129, 3) := by decide +kernel
theorem dX9_readLine_98 : decode cX9_readLine 98 = .ok (.aload_n 0, 1) := by decide +kernel
theorem dX9_readLine_99 : decode cX9_readLine 99 = .ok (.getfield 205, 3) := by decide +kernel
theorem dX9_readLine_102 : decode cX9_readLine 102 = .ok (.ifCond .ne 7, 3) := by decide +kernel
theorem dX9_readLine_105 : decode cX9_readLine 105 = .ok (.aload_n 0, 1) := by decide +kernel
theorem dX9_readLine_106 : decode cX9_readLine 106 = .ok (.invokevirtual 230, 3) := by decide +kernel
theorem dX9_readLine_109 : decode cX9_readLine 109 = .ok (.iload_n 2, 1) := by decide +kernel
theorem dX9_readLine_110 : decode cX9_readLine 110 = .ok (.iconst 1, 1) := by decide +kernel
theorem dX9_readLine_111 : decode cX9_readLine 111 = .ok (.if_icmp .ne 48, 3) := by decide +kernel
theorem dX9_readLine_114 : decode cX9_readLine 114 = .ok (.aload_n 0, 1) := by decide +kernel
theorem dX9_readLine_115 : decode cX9_readLine 115 = .ok (.getfield 51, 3) := by decide +kernel
theorem dX9_readLine_118 : decode cX9_readLine 118 = .ok (.bipush 12, 2) := by decide +kernel
theorem dX9_readLine_120 : decode cX9_readLine 120 = .ok (.aload_n 0, 1) := by decide +kernel
theorem dX9_readLine_121 : decode cX9_readLine 121 = .ok (.aload_n 0, 1) := by decide +kernel
theorem dX9_readLine_122 : decode cX9_readLine 122 = .ok (.getfield 29, 3) := by decide +kernel
theorem dX9_readLine_125 : decode cX9_readLine 125 = .ok (.invokevirtual 242, 3) := by decide +kernel
theorem dX9_readLine_128 : decode cX9_readLine 128 = .ok (.iastore, 1) := by decide +kernel
theorem dX9_readLine_129 : decode cX9_readLine 129 = .ok (.aload_n 0, 1) := by decide +kernel
theorem dX9_readLine_130 : decode cX9_readLine 130 = .ok (.getfield 51, 3) := by decide +kernel
theorem dX9_readLine_133 : decode cX9_readLine 133 = .ok (.bipush 12, 2) := by decide +kernel
theorem dX9_readLine_135 : decode cX9_readLine 135 = .ok (.iaload, 1) := by decide +kernel
theorem dX9_readLine_136 : decode cX9_readLine 136 = .ok (.iconst (-1), 1) := by decide +kernel
theorem dX9_readLine_137 : decode cX9_readLine 137 = .ok (.if_icmp .ne 8, 3) := by decide +kernel
theorem dX9_readLine_140 : decode cX9_readLine 140 = .ok (.aload_n 0, 1) := by decide +kernel
theorem dX9_readLine_141 : decode cX9_readLine 141 = .ok (.iconst 1, 1) := by decide +kernel
theorem dX9_readLine_142 : decode cX9_readLine 142 = .ok (.invokevirtual 226, 3) := by decide +kernel
theorem dX9_readLine_145 : decode cX9_readLine 145 = .ok (.aload_n 0, 1) := by decide +kernel
theorem dX9_readLine_146 : decode cX9_readLine 146 = .ok (.getfield 205, 3) := by decide +kernel
theorem dX9_readLine_149 : decode cX9_readLine 149 = .ok (.ifCond .ne 114, 3) := by decide +kernel
theorem dX9_readLine_152 : decode cX9_readLine 152 = .ok (.aload_n 0, 1) := by decide +kernel
theorem dX9_readLine_153 : decode cX9_readLine 153 = .ok (.invokevirtual 230, 3) := by decide +kernel
theorem dX9_readLine_156 : decode cX9_readLine 156 = .ok (.goto 107, 3) := by decide +kernel
theorem dX9_readLine_159 : decode cX9_readLine 159 = .ok (.iload_n 2, 1) := by decide +kernel
theorem dX9_readLine_160 : decode cX9_readLine 160 = .ok (.iconst 2, 1) := by decide +kernel
theorem dX9_readLine_161 : decode cX9_readLine 161 = .ok (.if_icmp .ne 10, 3) := by decide +kernel
theorem dX9_readLine_164 : decode cX9_readLine 164 = .ok (.aload_n 0, 1) := by decide +kernel
theorem dX9_readLine_165 : decode cX9_readLine 165 = .ok (.invokevirtual 286, 3) := by decide +kernel
theorem dX9_readLine_168 : decode cX9_readLine 168 = .ok (.goto 95, 3) := by decide +kernel
theorem dX9_readLine_171 : decode cX9_readLine 171 = .ok (.iload_n 2, 1) := by decide +kernel
theorem dX9_readLine_172 : decode cX9_readLine 172 = .ok (.iconst 4, 1) := by decide +kernel
theorem dX9_readLine_173 : decode cX9_readLine 173 = .ok (.if_icmp .ne 20, 3) := by decide +kernel
theorem dX9_readLine_176 : decode cX9_readLine 176 = .ok (.aload_n 0, 1) := by decide +kernel
theorem dX9_readLine_177 : decode cX9_readLine 177 = .ok (.getfield 51, 3) := by decide +kernel
theorem dX9_readLine_180 : decode cX9_readLine 180 = .ok (.bipush 13, 2) := by decide +kernel
theorem dX9_readLine_182 : decode cX9_readLine 182 = .ok (.aload_n 0, 1) := by decide +kernel
theorem dX9_readLine_183 : decode cX9_readLine 183 = .ok (.iconst 0, 1) := by decide +kernel
theorem dX9_readLine_184 : decode cX9_readLine 184 = .ok (.bipush 20, 2) := by decide +kernel
theorem dX9_readLine_186 : decode cX9_readLine 186 = .ok (.invokevirtual 236, 3) := by decide +kernel
theorem dX9_readLine_189 : decode cX9_readLine 189 = .ok (.iastore, 1) := by decide +kernel
theorem dX9_readLine_190 : decode cX9_readLine 190 = .ok (.goto 73, 3) := by decide +kernel
theorem dX9_readLine_193 : decode cX9_readLine 193 = .ok (.iload_n 2, 1) := by decide +kernel
theorem dX9_readLine_194 : decode cX9_readLine 194 = .ok (.bipush 8, 2) := by decide +kernel
theorem dX9_readLine_196 : decode cX9_readLine 196 = .ok (.if_icmp .ne 20, 3) := by decide +kernel
theorem dX9_readLine_199 : decode cX9_readLine 199 = .ok (.aload_n 0, 1) := by decide +kernel
theorem dX9_readLine_200 : decode cX9_readLine 200 = .ok (.getfield 51, 3) := by decide +kernel
theorem dX9_readLine_203 : decode cX9_readLine 203 = .ok (.bipush 14, 2) := by decide +kernel
theorem dX9_readLine_205 : decode cX9_readLine 205 = .ok (.aload_n 0, 1) := by decide +kernel
theorem dX9_readLine_206 : decode cX9_readLine 206 = .ok (.iconst 0, 1) := by decide +kernel
theorem dX9_readLine_207 : decode cX9_readLine 207 = .ok (.bipush 24, 2) := by decide +kernel
theorem dX9_readLine_209 : decode cX9_readLine 209 = .ok (.invokevirtual 236, 3) := by decide +kernel
theorem dX9_readLine_212 : decode cX9_readLine 212 = .ok (.iastore, 1) := by decide +kernel
theorem dX9_readLine_213 : decode cX9_readLine 213 = .ok (.goto 50, 3) := by decide +kernel
theorem dX9_readLine_216 : decode cX9_readLine 216 = .ok (.aload_n 0, 1) := by decide +kernel
theorem dX9_readLine_217 : decode cX9_readLine 217 = .ok (.iconst 0, 1) := by decide +kernel
theorem dX9_readLine_218 : decode cX9_readLine 218 = .ok (.invokevirtual 249, 3) := by decide +kernel
theorem dX9_readLine_221 : decode cX9_readLine 221 = .ok (.goto 42, 3) := by decide +kernel
theorem dX9_readLine_224 : decode cX9_readLine 224 = .ok (.iload_n 3, 1) := by decide +kernel
theorem dX9_readLine_225 : decode cX9_readLine 225 = .ok (.iconst (-1), 1) := by decide +kernel
theorem dX9_readLine_226 : decode cX9_readLine 226 = .ok (.if_icmp .eq 11, 3) := by decide +kernel
theorem dX9_readLine_229 : decode cX9_readLine 229 = .ok (.aload_n 0, 1) := by decide +kernel
theorem dX9_readLine_230 : decode cX9_readLine 230 = .ok (.iload_n 3, 1) := by decide +kernel
theorem dX9_readLine_231 : decode cX9_readLine 231 = .ok (.invokevirtual 289, 3) := by decide +kernel
theorem dX9_readLine_234 : decode cX9_readLine 234 = .ok (.goto 29, 3) := by decide +kernel
theorem dX9_readLine_237 : decode cX9_readLine 237 = .ok (.aload_n 0, 1) := by decide +kernel
theorem dX9_readLine_238 : decode cX9_readLine 238 = .ok (.ldc_w 292, 3) := by decide +kernel
theorem dX9_readLine_241 : decode cX9_readLine 241 = .ok (.invokevirtual 219, 3) := by decide +kernel
theorem dX9_readLine_244 : decode cX9_readLine 244 = .ok (.ifCond .ne 8, 3) := by decide +kernel
theorem dX9_readLine_247 : decode cX9_readLine 247 = .ok (.aload_n 0, 1) := by decide +kernel
theorem dX9_readLine_248 : decode cX9_readLine 248 = .ok (.iconst 1, 1) := by decide +kernel
theorem dX9_readLine_249 : decode cX9_readLine 249 = .ok (.invokevirtual 226, 3) := by decide +kernel
theorem dX9_readLine_252 : decode cX9_readLine 252 = .ok (.aload_n 0, 1) := by decide +kernel
theorem dX9_readLine_253 : decode cX9_readLine 253 = .ok (.getfield 205, 3) := by decide +kernel
theorem dX9_readLine_256 : decode cX9_readLine 256 = .ok (.ifCond .ne 7, 3) := by decide +kernel
theorem dX9_readLine_259 : decode cX9_readLine 259 = .ok (.aload_n 0, 1) := by decide +kernel
theorem dX9_readLine_260 : decode cX9_readLine 260 = .ok (.invokevirtual 294, 3) := by decide +kernel
theorem dX9_readLine_263 : decode cX9_readLine 263 = .ok (.aload_n 0, 1) := by decide +kernel
theorem dX9_readLine_264 : decode cX9_readLine 264 = .ok (.bipush 59, 2) := by decide +kernel
theorem dX9_readLine_266 : decode cX9_readLine 266 = .ok (.invokevirtual 246, 3) := by decide +kernel
theorem dX9_readLine_269 : decode cX9_readLine 269 = .ok (.iload_n 1, 1) := by decide +kernel
theorem dX9_readLine_270 : decode cX9_readLine 270 = .ok (.iload_n 2, 1) := by decide +kernel
theorem dX9_readLine_271 : decode cX9_readLine 271 = .ok (.ior, 1) := by decide +kernel
theorem dX9_readLine_272 : decode cX9_readLine 272 = .ok (.ireturn, 1) := by decide +kernel
theorem dX9_sky_0 : decode cX9_sky 0 = .ok (.aload_n 0, 1) := by decide +kernel
theorem dX9_sky_1 : decode cX9_sky 1 = .ok (.iconst 0, 1) := by decide +kernel
theorem dX9_sky_2 : decode cX9_sky 2 = .ok (.putfield 155, 3) := by decide +kernel
theorem dX9_sky_5 : decode cX9_sky 5 = .ok (.iload_n 1, 1) := by decide +kernel
theorem dX9_sky_6 : decode cX9_sky 6 = .ok (.ifCond .lt 11, 3) := by decide +kernel
theorem dX9_sky_9 : decode cX9_sky 9 = .ok (.iload_n 1, 1) := by decide +kernel
theorem dX9_sky_10 : decode cX9_sky 10 = .ok (.aload_n 0, 1) := by decide +kernel
theorem dX9_sky_11 : decode cX9_sky 11 = .ok (.getfield 164, 3) := by decide +kernel
theorem dX9_sky_14 : decode cX9_sky 14 = .ok (.if_icmp .le 9, 3) := by decide +kernel
theorem dX9_sky_17 : decode cX9_sky 17 = .ok (.aload_n 0, 1) := by decide +kernel
theorem dX9_sky_18 : decode cX9_sky 18 = .ok (.iconst 1, 1) := by decide +kernel
theorem dX9_sky_19 : decode cX9_sky 19 = .ok (.invokevirtual 297, 3) := by decide +kernel
theorem dX9_sky_22 : decode cX9_sky 22 = .ok (.ireturn, 1) := by decide +kernel
theorem dX9_sky_23 : decode cX9_sky 23 = .ok (.aload_n 0, 1) := by decide +kernel
theorem dX9_sky_24 : decode cX9_sky 24 = .ok (.iconst 0, 1) := by decide +kernel
theorem dX9_sky_25 : decode cX9_sky 25 = .ok (.putfield 164, 3) := by decide +kernel
theorem dX9_sky_28 : decode cX9_sky 28 = .ok (.aload_n 0, 1) := by decide +kernel
theorem dX9_sky_29 : decode cX9_sky 29 = .ok (.iload_n 1, 1) := by decide +kernel
theorem dX9_sky_30 : decode cX9_sky 30 = .ok (.putfield 167, 3) := by decide +kernel
theorem dX9_sky_33 : decode cX9_sky 33 = .ok (.aload_n 0, 1) := by decide +kernel
theorem dX9_sky_34 : decode cX9_sky 34 = .ok (.iconst 0, 1) := by decide +kernel
theorem dX9_sky_35 : decode cX9_sky 35 = .ok (.putfield 169, 3) := by decide +kernel
theorem dX9_sky_38 : decode cX9_sky 38 = .ok (.aload_n 0, 1) := by decide +kernel
theorem dX9_sky_39 : decode cX9_sky 39 = .ok (.iconst 0, 1) := by decide +kernel
theorem dX9_sky_40 : decode cX9_sky 40 = .ok (.putfield 205, 3) := by decide +kernel
theorem dX9_sky_43 : decode cX9_sky 43 = .ok (.aload_n 0, 1) := by decide +kernel
theorem dX9_sky_44 : decode cX9_sky 44 = .ok (.iconst (-1), 1) := by decide +kernel
theorem dX9_sky_45 : decode cX9_sky 45 = .ok (.putfield 76, 3) := by decide +kernel
theorem dX9_sky_48 : decode cX9_sky 48 = .ok (.iconst 0, 1) := by decide +kernel
theorem dX9_sky_49 : decode cX9_sky 49 = .ok (.istore_n 2, 1) := by decide +kernel
theorem dX9_sky_50 : decode cX9_sky 50 = .ok (.iload_n 2, 1) := by decide +kernel
theorem dX9_sky_51 : decode cX9_sky 51 = .ok (.bipush 10, 2) := by decide +kernel
theorem dX9_sky_53 : decode cX9_sky 53 = .ok (.if_icmp .ge 47, 3) := by decide +kernel
theorem dX9_sky_56 : decode cX9_sky 56 = .ok (.aload_n 0, 1) := by decide +kernel
theorem dX9_sky_57 : decode cX9_sky 57 = .ok (.getfield 51, 3) := by decide +kernel
theorem dX9_sky_60 : decode cX9_sky 60 = .ok (.bipush 10, 2) := by decide +kernel
theorem dX9_sky_62 : decode cX9_sky 62 = .ok (.iload_n 2, 1) := by decide +kernel
theorem dX9_sky_63 : decode cX9_sky 63 = .ok (.iadd, 1) := by decide +kernel
theorem dX9_sky_64 : decode cX9_sky 64 = .ok (.iload_n 2, 1) := by decide +kernel
theorem dX9_sky_65 : decode cX9_sky 65 = .ok (.iconst 3, 1) := by decide +kernel
theorem dX9_sky_66 : decode cX9_sky 66 = .ok (.if_icmp .ne 7, 3) := by decide +kernel
theorem dX9_sky_69 : decode cX9_sky 69 = .ok (.iconst 2, 1) := by decide +kernel
theorem dX9_sky_70 : decode cX9_sky 70 = .ok (.goto 23, 3) := by decide +kernel
theorem dX9_sky_73 : decode cX9_sky 73 = .ok (.iload_n 2, 1) := by decide +kernel
theorem dX9_sky_74 : decode cX9_sky 74 = .ok (.iconst 4, 1) := by decide +kernel
theorem dX9_sky_75 : decode cX9_sky 75 = .ok (.if_icmp .ne 8, 3) := by decide +kernel
theorem dX9_sky_78 : decode cX9_sky 78 = .ok (.bipush 8, 2) := by decide +kernel
theorem dX9_sky_80 : decode cX9_sky 80 = .ok (.goto 13, 3) := by decide +kernel
theorem dX9_sky_83 : decode cX9_sky 83 = .ok (.iload_n 2, 1) := by decide +kernel
theorem dX9_sky_84 : decode cX9_sky 84 = .ok (.iconst 5, 1) := by decide +kernel
theorem dX9_sky_85 : decode cX9_sky 85 = .ok (.if_icmp .ne 7, 3) := by decide +kernel
theorem dX9_sky_88 : decode cX9_sky 88 = .ok (.iconst 1, 1) := by decide +kernel
theorem dX9_sky_89 : decode cX9_sky 89 = .ok (.goto 4, 3) := by decide +kernel
theorem dX9_sky_92 : decode cX9_sky 92 = .ok (.iconst 0, 1) := by decide +kernel
theorem dX9_sky_93 : decode cX9_sky 93 = .ok (.iastore, 1) := by decide +kernel
theorem dX9_sky_94 : decode cX9_sky 94 = .ok (.iinc 2 1, 3) := by decide +kernel
theorem dX9_sky_97 : decode cX9_sky 97 = .ok (.goto (-47), 3) := by decide +kernel
theorem dX9_sky_100 : decode cX9_sky 100 = .ok (.aload_n 0, 1) := by decide +kernel
theorem dX9_sky_101 : decode cX9_sky 101 = .ok (.invokevirtual 230, 3) := by decide +kernel
theorem dX9_sky_104 : decode cX9_sky 104 = .ok (.iconst 0, 1) := by decide +kernel
theorem dX9_sky_105 : decode cX9_sky 105 = .ok (.istore_n 2, 1) := by decide +kernel
theorem dX9_sky_106 : decode cX9_sky 106 = .ok (.aload_n 0, 1) := by decide +kernel
theorem dX9_sky_107 : decode cX9_sky 107 = .ok (.getfield 205, 3) := by decide +kernel
theorem dX9_sky_110 : decode cX9_sky 110 = .ok (.ifCond .ne 19, 3) := by decide +kernel
theorem dX9_sky_113 : decode cX9_sky 113 = .ok (.aload_n 0, 1) := by decide +kernel
theorem dX9_sky_114 : decode cX9_sky 114 = .ok (.getfield 179, 3) := by decide +kernel
theorem dX9_sky_117 : decode cX9_sky 117 = .ok (.ifCond .eq 12, 3) := by decide +kernel
theorem dX9_sky_120 : decode cX9_sky 120 = .ok (.aload_n 0, 1) := by decide +kernel
theorem dX9_sky_121 : decode cX9_sky 121 = .ok (.iload_n 2, 1) := by decide +kernel
theorem dX9_sky_122 : decode cX9_sky 122 = .ok (.invokevirtual 300, 3) := by decide +kernel
theorem dX9_sky_125 : decode cX9_sky 125 = .ok (.istore_n 2, 1) := by decide +kernel
theorem dX9_sky_126 : decode cX9_sky 126 = .ok (.goto (-20), 3) := by decide +kernel
theorem dX9_sky_129 : decode cX9_sky 129 = .ok (.aload_n 0, 1) := by decide +kernel
theorem dX9_sky_130 : decode cX9_sky 130 = .ok (.getfield 205, 3) := by decide +kernel
theorem dX9_sky_133 : decode cX9_sky 133 = .ok (.ifCond .eq 26, 3) := by decide +kernel
theorem dX9_sky_136 : decode cX9_sky 136 = .ok (.aload_n 0, 1) := by decide +kernel
theorem dX9_sky_137 : decode cX9_sky 137 = .ok (.aload_n 0, 1) := by decide +kernel
theorem dX9_sky_138 : decode cX9_sky 138 = .ok (.getfield 208, 3) := by decide +kernel
theorem dX9_sky_141 : decode cX9_sky 141 = .ok (.putfield 76, 3) := by decide +kernel
theorem dX9_sky_144 : decode cX9_sky 144 = .ok (.aload_n 0, 1) := by decide +kernel
theorem dX9_sky_145 : decode cX9_sky 145 = .ok (.getfield 70, 3) := by decide +kernel
theorem dX9_sky_148 : decode cX9_sky 148 = .ok (.iconst 0, 1) := by decide +kernel
theorem dX9_sky_149 : decode cX9_sky 149 = .ok (.dup2, 1) := by decide +kernel
theorem dX9_sky_150 : decode cX9_sky 150 = .ok (.iaload, 1) := by decide +kernel
theorem dX9_sky_151 : decode cX9_sky 151 = .ok (.iconst 1, 1) := by decide +kernel
theorem dX9_sky_152 : decode cX9_sky 152 = .ok (.iadd, 1) := by decide +kernel
theorem dX9_sky_153 : decode cX9_sky 153 = .ok (.iastore, 1) := by decide +kernel
theorem dX9_sky_154 : decode cX9_sky 154 = .ok (.aload_n 0, 1) := by decide +kernel
theorem dX9_sky_155 : decode cX9_sky 155 = .ok (.getfield 205, 3) := by decide +kernel
theorem dX9_sky_158 : decode cX9_sky 158 = .ok (.ireturn, 1) := by decide +kernel
theorem dX9_sky_159 : decode cX9_sky 159 = .ok (.aload_n 0, 1) := by decide +kernel
theorem dX9_sky_160 : decode cX9_sky 160 = .ok (.invokevirtual 303, 3) := by decide +kernel
theorem dX9_sky_163 : decode cX9_sky 163 = .ok (.iconst 0, 1) := by decide +kernel
theorem dX9_sky_164 : decode cX9_sky 164 = .ok (.ireturn, 1) := by decide +kernel
theorem dX9_takeHalf_0 : decode cX9_takeHalf 0 = .ok (.iconst 0, 1) := by decide +kernel
theorem dX9_takeHalf_1 : decode cX9_takeHalf 1 = .ok (.istore_n 1, 1) := by decide +kernel
theorem dX9_takeHalf_2 : decode cX9_takeHalf 2 = .ok (.iload_n 1, 1) := by decide +kernel
theorem dX9_takeHalf_3 : decode cX9_takeHalf 3 = .ok (.aload_n 0, 1) := by decide +kernel
theorem dX9_takeHalf_4 : decode cX9_takeHalf 4 = .ok (.arraylength, 1) := by decide +kernel
theorem dX9_takeHalf_5 : decode cX9_takeHalf 5 = .ok (.iconst 2, 1) := by decide +kernel
theorem dX9_takeHalf_6 : decode cX9_takeHalf 6 = .ok (.idiv, 1) := by decide +kernel
theorem dX9_takeHalf_7 : decode cX9_takeHalf 7 = .ok (.if_icmp .ge 20, 3) := by decide +kernel
theorem dX9_takeHalf_10 : decode cX9_takeHalf 10 = .ok (.aload_n 0, 1) := by decide +kernel
theorem dX9_takeHalf_11 : decode cX9_takeHalf 11 = .ok (.iload_n 1, 1) := by decide +kernel
theorem dX9_takeHalf_12 : decode cX9_takeHalf 12 = .ok (.aload_n 0, 1) := by decide +kernel
theorem dX9_takeHalf_13 : decode cX9_takeHalf 13 = .ok (.aload_n 0, 1) := by decide +kernel
theorem dX9_takeHalf_14 : decode cX9_takeHalf 14 = .ok (.arraylength, 1) := by decide +kernel
theorem dX9_takeHalf_15 : decode cX9_takeHalf 15 = .ok (.iconst 2, 1) := by decide +kernel
theorem dX9_takeHalf_16 : decode cX9_takeHalf 16 = .ok (.idiv, 1) := by decide +kernel
theorem dX9_takeHalf_17 : decode cX9_takeHalf 17 = .ok (.iload_n 1, 1) := by decide +kernel
theorem dX9_takeHalf_18 : decode cX9_takeHalf 18 = .ok (.iadd, 1) := by decide +kernel
theorem dX9_takeHalf_19 : decode cX9_takeHalf 19 = .ok (.iaload, 1) := by decide +kernel
theorem dX9_takeHalf_20 : decode cX9_takeHalf 20 = .ok (.iastore, 1) := by decide +kernel
theorem dX9_takeHalf_21 : decode cX9_takeHalf 21 = .ok (.iinc 1 1, 3) := by decide +kernel
theorem dX9_takeHalf_24 : decode cX9_takeHalf 24 = .ok (.goto (-22), 3) := by decide +kernel
theorem dX9_takeHalf_27 : decode cX9_takeHalf 27 = .ok (.return_, 1) := by decide +kernel
theorem dX9_takeOver_0 : decode cX9_takeOver 0 = .ok (.aload_n 0, 1) := by decide +kernel
theorem dX9_takeOver_1 : decode cX9_takeOver 1 = .ok (.getfield 51, 3) := by decide +kernel
theorem dX9_takeOver_4 : decode cX9_takeOver 4 = .ok (.invokestatic 306, 3) := by decide +kernel
theorem dX9_takeOver_7 : decode cX9_takeOver 7 = .ok (.aload_n 0, 1) := by decide +kernel
theorem dX9_takeOver_8 : decode cX9_takeOver 8 = .ok (.getfield 55, 3) := by decide +kernel
theorem dX9_takeOver_11 : decode cX9_takeOver 11 = .ok (.invokestatic 306, 3) := by decide +kernel
theorem dX9_takeOver_14 : decode cX9_takeOver 14 = .ok (.aload_n 0, 1) := by decide +kernel
theorem dX9_takeOver_15 : decode cX9_takeOver 15 = .ok (.getfield 58, 3) := by decide +kernel
theorem dX9_takeOver_18 : decode cX9_takeOver 18 = .ok (.invokestatic 306, 3) := by decide +kernel
theorem dX9_takeOver_21 : decode cX9_takeOver 21 = .ok (.aload_n 0, 1) := by decide +kernel
theorem dX9_takeOver_22 : decode cX9_takeOver 22 = .ok (.getfield 61, 3) := by decide +kernel
theorem dX9_takeOver_25 : decode cX9_takeOver 25 = .ok (.invokestatic 306, 3) := by decide +kernel
theorem dX9_takeOver_28 : decode cX9_takeOver 28 = .ok (.aload_n 0, 1) := by decide +kernel
theorem dX9_takeOver_29 : decode cX9_takeOver 29 = .ok (.getfield 64, 3) := by decide +kernel
theorem dX9_takeOver_32 : decode cX9_takeOver 32 = .ok (.invokestatic 306, 3) := by decide +kernel
theorem dX9_takeOver_35 : decode cX9_takeOver 35 = .ok (.aload_n 0, 1) := by decide +kernel
theorem dX9_takeOver_36 : decode cX9_takeOver 36 = .ok (.getfield 67, 3) := by decide +kernel
theorem dX9_takeOver_39 : decode cX9_takeOver 39 = .ok (.invokestatic 306, 3) := by decide +kernel
theorem dX9_takeOver_42 : decode cX9_takeOver 42 = .ok (.aload_n 0, 1) := by decide +kernel
theorem dX9_takeOver_43 : decode cX9_takeOver 43 = .ok (.iconst 0, 1) := by decide +kernel
theorem dX9_takeOver_44 : decode cX9_takeOver 44 = .ok (.putfield 310, 3) := by decide +kernel
theorem dX9_takeOver_47 : decode cX9_takeOver 47 = .ok (.aload_n 0, 1) := by decide +kernel
theorem dX9_takeOver_48 : decode cX9_takeOver 48 = .ok (.iconst 0, 1) := by decide +kernel
theorem dX9_takeOver_49 : decode cX9_takeOver 49 = .ok (.putfield 313, 3) := by decide +kernel
theorem dX9_takeOver_52 : decode cX9_takeOver 52 = .ok (.aload_n 0, 1) := by decide +kernel
theorem dX9_takeOver_53 : decode cX9_takeOver 53 = .ok (.iconst 0, 1) := by decide +kernel
theorem dX9_takeOver_54 : decode cX9_takeOver 54 = .ok (.putfield 316, 3) := by decide +kernel
theorem dX9_takeOver_57 : decode cX9_takeOver 57 = .ok (.aload_n 0, 1) := by decide +kernel
theorem dX9_takeOver_58 : decode cX9_takeOver 58 = .ok (.iconst 0, 1) := by decide +kernel
theorem dX9_takeOver_59 : decode cX9_takeOver 59 = .ok (.putfield 319, 3) := by decide +kernel
theorem dX9_takeOver_62 : decode cX9_takeOver 62 = .ok (.aload_n 0, 1) := by decide +kernel
theorem dX9_takeOver_63 : decode cX9_takeOver 63 = .ok (.iconst 0, 1) := by decide +kernel
theorem dX9_takeOver_64 : decode cX9_takeOver 64 = .ok (.putfield 323, 3) := by decide +kernel
theorem dX9_takeOver_67 : decode cX9_takeOver 67 = .ok (.return_, 1) := by decide +kernel
theorem dX9_fault_0 : decode cX9_fault 0 = .ok (.aload_n 0, 1) := by decide +kernel
theorem dX9_fault_1 : decode cX9_fault 1 = .ok (.iconst 0, 1) := by decide +kernel
theorem dX9_fault_2 : decode cX9_fault 2 = .ok (.putfield 155, 3) := by decide +kernel
theorem dX9_fault_5 : decode cX9_fault 5 = .ok (.aload_n 0, 1) := by decide +kernel
theorem dX9_fault_6 : decode cX9_fault 6 = .ok (.getfield 76, 3) := by decide +kernel
theorem dX9_fault_9 : decode cX9_fault 9 = .ok (.ireturn, 1) := by decide +kernel
theorem dX9_reckon_0 : decode cX9_reckon 0 = .ok (.iload_n 0, 1) := by decide +kernel
theorem dX9_reckon_1 : decode cX9_reckon 1 = .ok (.tableswitch 103 (-26) (-20) #[89, 78, 67, 55, 51, 47, 43], 43) := by decide +kernel
theorem dX9_reckon_44 : decode cX9_reckon 44 = .ok (.iload_n 1, 1) := by decide +kernel
theorem dX9_reckon_45 : decode cX9_reckon 45 = .ok (.iload_n 2, 1) := by decide +kernel
theorem dX9_reckon_46 : decode cX9_reckon 46 = .ok (.iadd, 1) := by decide +kernel
theorem dX9_reckon_47 : decode cX9_reckon 47 = .ok (.ireturn, 1) := by decide +kernel
theorem dX9_reckon_48 : decode cX9_reckon 48 = .ok (.iload_n 1, 1) := by decide +kernel
theorem dX9_reckon_49 : decode cX9_reckon 49 = .ok (.iload_n 2, 1) := by decide +kernel
theorem dX9_reckon_50 : decode cX9_reckon 50 = .ok (.isub, 1) := by decide +kernel
theorem dX9_reckon_51 : decode cX9_reckon 51 = .ok (.ireturn, 1) := by decide +kernel
theorem dX9_reckon_52 : decode cX9_reckon 52 = .ok (.iload_n 1, 1) := by decide +kernel
theorem dX9_reckon_53 : decode cX9_reckon 53 = .ok (.iload_n 2, 1) := by decide +kernel
theorem dX9_reckon_54 : decode cX9_reckon 54 = .ok (.imul, 1) := by decide +kernel
theorem dX9_reckon_55 : decode cX9_reckon 55 = .ok (.ireturn, 1) := by decide +kernel
theorem dX9_reckon_56 : decode cX9_reckon 56 = .ok (.iload_n 2, 1) := by decide +kernel
theorem dX9_reckon_57 : decode cX9_reckon 57 = .ok (.ifCond .ne 7, 3) := by decide +kernel
theorem dX9_reckon_60 : decode cX9_reckon 60 = .ok (.iconst 0, 1) := by decide +kernel
theorem dX9_reckon_61 : decode cX9_reckon 61 = .ok (.goto 6, 3) := by decide +kernel
theorem dX9_reckon_64 : decode cX9_reckon 64 = .ok (.iload_n 1, 1) := by decide +kernel
theorem dX9_reckon_65 : decode cX9_reckon 65 = .ok (.iload_n 2, 1) := by decide +kernel
theorem dX9_reckon_66 : decode cX9_reckon 66 = .ok (.idiv, 1) := by decide +kernel
theorem dX9_reckon_67 : decode cX9_reckon 67 = .ok (.ireturn, 1) := by decide +kernel
theorem dX9_reckon_68 : decode cX9_reckon 68 = .ok (.iload_n 1, 1) := by decide +kernel
theorem dX9_reckon_69 : decode cX9_reckon 69 = .ok (.iload_n 2, 1) := by decide +kernel
theorem dX9_reckon_70 : decode cX9_reckon 70 = .ok (.if_icmp .ge 7, 3) := by decide +kernel
theorem dX9_reckon_73 : decode cX9_reckon 73 = .ok (.iconst 1, 1) := by decide +kernel
theorem dX9_reckon_74 : decode cX9_reckon 74 = .ok (.goto 4, 3) := by decide +kernel
theorem dX9_reckon_77 : decode cX9_reckon 77 = .ok (.iconst 0, 1) := by decide +kernel
theorem dX9_reckon_78 : decode cX9_reckon 78 = .ok (.ireturn, 1) := by decide +kernel
theorem dX9_reckon_79 : decode cX9_reckon 79 = .ok (.iload_n 1, 1) := by decide +kernel
theorem dX9_reckon_80 : decode cX9_reckon 80 = .ok (.iload_n 2, 1) := by decide +kernel
theorem dX9_reckon_81 : decode cX9_reckon 81 = .ok (.if_icmp .ne 7, 3) := by decide +kernel
theorem dX9_reckon_84 : decode cX9_reckon 84 = .ok (.iconst 1, 1) := by decide +kernel
theorem dX9_reckon_85 : decode cX9_reckon 85 = .ok (.goto 4, 3) := by decide +kernel
theorem dX9_reckon_88 : decode cX9_reckon 88 = .ok (.iconst 0, 1) := by decide +kernel
theorem dX9_reckon_89 : decode cX9_reckon 89 = .ok (.ireturn, 1) := by decide +kernel
theorem dX9_reckon_90 : decode cX9_reckon 90 = .ok (.iload_n 1, 1) := by decide +kernel
theorem dX9_reckon_91 : decode cX9_reckon 91 = .ok (.ifCond .eq 11, 3) := by decide +kernel
theorem dX9_reckon_94 : decode cX9_reckon 94 = .ok (.iload_n 2, 1) := by decide +kernel
theorem dX9_reckon_95 : decode cX9_reckon 95 = .ok (.ifCond .eq 7, 3) := by decide +kernel
theorem dX9_reckon_98 : decode cX9_reckon 98 = .ok (.iconst 1, 1) := by decide +kernel
theorem dX9_reckon_99 : decode cX9_reckon 99 = .ok (.goto 4, 3) := by decide +kernel
theorem dX9_reckon_102 : decode cX9_reckon 102 = .ok (.iconst 0, 1) := by decide +kernel
theorem dX9_reckon_103 : decode cX9_reckon 103 = .ok (.ireturn, 1) := by decide +kernel
theorem dX9_reckon_104 : decode cX9_reckon 104 = .ok (.iload_n 1, 1) := by decide +kernel
theorem dX9_reckon_105 : decode cX9_reckon 105 = .ok (.ifCond .ne 7, 3) := by decide +kernel
theorem dX9_reckon_108 : decode cX9_reckon 108 = .ok (.iload_n 2, 1) := by decide +kernel
theorem dX9_reckon_109 : decode cX9_reckon 109 = .ok (.ifCond .eq 7, 3) := by decide +kernel
theorem dX9_reckon_112 : decode cX9_reckon 112 = .ok (.iconst 1, 1) := by decide +kernel
theorem dX9_reckon_113 : decode cX9_reckon 113 = .ok (.goto 4, 3) := by decide +kernel
theorem dX9_reckon_116 : decode cX9_reckon 116 = .ok (.iconst 0, 1) := by decide +kernel
theorem dX9_reckon_117 : decode cX9_reckon 117 = .ok (.ireturn, 1) := by decide +kernel
theorem dX9_valueNow_0 : decode cX9_valueNow 0 = .ok (.iconst 0, 1) := by decide +kernel
theorem dX9_valueNow_1 : decode cX9_valueNow 1 = .ok (.istore_n 1, 1) := by decide +kernel
theorem dX9_valueNow_2 : decode cX9_valueNow 2 = .ok (.iconst 0, 1) := by decide +kernel
theorem dX9_valueNow_3 : decode cX9_valueNow 3 = .ok (.istore_n 2, 1) := by decide +kernel
theorem dX9_valueNow_4 : decode cX9_valueNow 4 = .ok (.iload_n 2, 1) := by decide +kernel
theorem dX9_valueNow_5 : decode cX9_valueNow 5 = .ok (.aload_n 0, 1) := by decide +kernel
theorem dX9_valueNow_6 : decode cX9_valueNow 6 = .ok (.getfield 51, 3) := by decide +kernel
theorem dX9_valueNow_9 : decode cX9_valueNow 9 = .ok (.bipush 9, 2) := by decide +kernel
theorem dX9_valueNow_11 : decode cX9_valueNow 11 = .ok (.iaload, 1) := by decide +kernel
theorem dX9_valueNow_12 : decode cX9_valueNow 12 = .ok (.if_icmp .ge 112, 3) := by decide +kernel
theorem dX9_valueNow_15 : decode cX9_valueNow 15 = .ok (.aload_n 0, 1) := by decide +kernel
theorem dX9_valueNow_16 : decode cX9_valueNow 16 = .ok (.getfield 67, 3) := by decide +kernel
theorem dX9_valueNow_19 : decode cX9_valueNow 19 = .ok (.iload_n 2, 1) := by decide +kernel
theorem dX9_valueNow_20 : decode cX9_valueNow 20 = .ok (.iaload, 1) := by decide +kernel
theorem dX9_valueNow_21 : decode cX9_valueNow 21 = .ok (.istore_n 3, 1) := by decide +kernel
theorem dX9_valueNow_22 : decode cX9_valueNow 22 = .ok (.iload_n 3, 1) := by decide +kernel
theorem dX9_valueNow_23 : decode cX9_valueNow 23 = .ok (.bipush (-20), 2) := by decide +kernel
theorem dX9_valueNow_25 : decode cX9_valueNow 25 = .ok (.if_icmp .le 31, 3) := by decide +kernel
theorem dX9_valueNow_28 : decode cX9_valueNow 28 = .ok (.aload_n 0, 1) := by decide +kernel
theorem dX9_valueNow_29 : decode cX9_valueNow 29 = .ok (.getfield 83, 3) := by decide +kernel
theorem dX9_valueNow_32 : decode cX9_valueNow 32 = .ok (.iload_n 1, 1) := by decide +kernel
theorem dX9_valueNow_33 : decode cX9_valueNow 33 = .ok (.iload_n 3, 1) := by decide +kernel
theorem dX9_valueNow_34 : decode cX9_valueNow 34 = .ok (.ifCond .lt 7, 3) := by decide +kernel
theorem dX9_valueNow_37 : decode cX9_valueNow 37 = .ok (.iload_n 3, 1) := by decide +kernel
theorem dX9_valueNow_38 : decode cX9_valueNow 38 = .ok (.goto 11, 3) := by decide +kernel
theorem dX9_valueNow_41 : decode cX9_valueNow 41 = .ok (.aload_n 0, 1) := by decide +kernel
theorem dX9_valueNow_42 : decode cX9_valueNow 42 = .ok (.getfield 80, 3) := by decide +kernel
theorem dX9_valueNow_45 : decode cX9_valueNow 45 = .ok (.iconst (-1), 1) := by decide +kernel
theorem dX9_valueNow_46 : decode cX9_valueNow 46 = .ok (.iload_n 3, 1) := by decide +kernel
theorem dX9_valueNow_47 : decode cX9_valueNow 47 = .ok (.isub, 1) := by decide +kernel
theorem dX9_valueNow_48 : decode cX9_valueNow 48 = .ok (.iaload, 1) := by decide +kernel
theorem dX9_valueNow_49 : decode cX9_valueNow 49 = .ok (.iastore, 1) := by decide +kernel
theorem dX9_valueNow_50 : decode cX9_valueNow 50 = .ok (.iinc 1 1, 3) := by decide +kernel
theorem dX9_valueNow_53 : decode cX9_valueNow 53 = .ok (.goto 65, 3) := by decide +kernel
theorem dX9_valueNow_56 : decode cX9_valueNow 56 = .ok (.iload_n 3, 1) := by decide +kernel
theorem dX9_valueNow_57 : decode cX9_valueNow 57 = .ok (.bipush (-28), 2) := by decide +kernel
theorem dX9_valueNow_59 : decode cX9_valueNow 59 = .ok (.if_icmp .ne 30, 3) := by decide +kernel
theorem dX9_valueNow_62 : decode cX9_valueNow 62 = .ok (.aload_n 0, 1) := by decide +kernel
theorem dX9_valueNow_63 : decode cX9_valueNow 63 = .ok (.getfield 83, 3) := by decide +kernel
theorem dX9_valueNow_66 : decode cX9_valueNow 66 = .ok (.iload_n 1, 1) := by decide +kernel
theorem dX9_valueNow_67 : decode cX9_valueNow 67 = .ok (.iconst 1, 1) := by decide +kernel
theorem dX9_valueNow_68 : decode cX9_valueNow 68 = .ok (.isub, 1) := by decide +kernel
theorem dX9_valueNow_69 : decode cX9_valueNow 69 = .ok (.aload_n 0, 1) := by decide +kernel
theorem dX9_valueNow_70 : decode cX9_valueNow 70 = .ok (.getfield 83, 3) := by decide +kernel
theorem dX9_valueNow_73 : decode cX9_valueNow 73 = .ok (.iload_n 1, 1) := by decide +kernel
theorem dX9_valueNow_74 : decode cX9_valueNow 74 = .ok (.iconst 1, 1) := by decide +kernel
theorem dX9_valueNow_75 : decode cX9_valueNow 75 = .ok (.isub, 1) := by decide +kernel
theorem dX9_valueNow_76 : decode cX9_valueNow 76 = .ok (.iaload, 1) := by decide +kernel
theorem dX9_valueNow_77 : decode cX9_valueNow 77 = .ok (.ifCond .eq 7, 3) := by decide +kernel
theorem dX9_valueNow_80 : decode cX9_valueNow 80 = .ok (.iconst 0, 1) := by decide +kernel
theorem dX9_valueNow_81 : decode cX9_valueNow 81 = .ok (.goto 4, 3) := by decide +kernel
theorem dX9_valueNow_84 : decode cX9_valueNow 84 = .ok (.iconst 1, 1) := by decide +kernel
theorem dX9_valueNow_85 : decode cX9_valueNow 85 = .ok (.iastore, 1) := by decide +kernel
theorem dX9_valueNow_86 : decode cX9_valueNow 86 = .ok (.goto 32, 3) := by decide +kernel
theorem dX9_valueNow_89 : decode cX9_valueNow 89 = .ok (.iinc 1 (-1), 3) := by decide +kernel
theorem dX9_valueNow_92 : decode cX9_valueNow 92 = .ok (.aload_n 0, 1) := by decide +kernel
theorem dX9_valueNow_93 : decode cX9_valueNow 93 = .ok (.getfield 83, 3) := by decide +kernel
theorem dX9_valueNow_96 : decode cX9_valueNow 96 = .ok (.iload_n 1, 1) := by decide +kernel
theorem dX9_valueNow_97 : decode cX9_valueNow 97 = .ok (.iconst 1, 1) := by decide +kernel
theorem dX9_valueNow_98 : decode cX9_valueNow 98 = .ok (.isub, 1) := by decide +kernel
theorem dX9_valueNow_99 : decode cX9_valueNow 99 = .ok (.iload_n 3, 1) := by decide +kernel
theorem dX9_valueNow_100 : decode cX9_valueNow 100 = .ok (.aload_n 0, 1) := by decide +kernel
theorem dX9_valueNow_101 : decode cX9_valueNow 101 = .ok (.getfield 83, 3) := by decide +kernel
theorem dX9_valueNow_104 : decode cX9_valueNow 104 = .ok (.iload_n 1, 1) := by decide +kernel
theorem dX9_valueNow_105 : decode cX9_valueNow 105 = .ok (.iconst 1, 1) := by decide +kernel
theorem dX9_valueNow_106 : decode cX9_valueNow 106 = .ok (.isub, 1) := by decide +kernel
theorem dX9_valueNow_107 : decode cX9_valueNow 107 = .ok (.iaload, 1) := by decide +kernel
theorem dX9_valueNow_108 : decode cX9_valueNow 108 = .ok (.aload_n 0, 1) := by decide +kernel
theorem dX9_valueNow_109 : decode cX9_valueNow 109 = .ok (.getfield 83, 3) := by decide +kernel
theorem dX9_valueNow_112 : decode cX9_valueNow 112 = .ok (.iload_n 1, 1) := by decide +kernel
theorem dX9_valueNow_113 : decode cX9_valueNow 113 = .ok (.iaload, 1) := by decide +kernel
theorem dX9_valueNow_114 : decode cX9_valueNow 114 = .ok (.invokestatic 326, 3) := by decide +kernel
theorem dX9_valueNow_117 : decode cX9_valueNow 117 = .ok (.iastore, 1) := by decide +kernel
theorem dX9_valueNow_118 : decode cX9_valueNow 118 = .ok (.iinc 2 1, 3) := by decide +kernel
theorem dX9_valueNow_121 : decode cX9_valueNow 121 = .ok (.goto (-117), 3) := by decide +kernel
theorem dX9_valueNow_124 : decode cX9_valueNow 124 = .ok (.aload_n 0, 1) := by decide +kernel
theorem dX9_valueNow_125 : decode cX9_valueNow 125 = .ok (.getfield 83, 3) := by decide +kernel
theorem dX9_valueNow_128 : decode cX9_valueNow 128 = .ok (.iconst 0, 1) := by decide +kernel
theorem dX9_valueNow_129 : decode cX9_valueNow 129 = .ok (.iaload, 1) := by decide +kernel
theorem dX9_valueNow_130 : decode cX9_valueNow 130 = .ok (.ireturn, 1) := by decide +kernel
theorem dX9_weightOf_0 : decode cX9_weightOf 0 = .ok (.aload_n 0, 1) := by decide +kernel
theorem dX9_weightOf_1 : decode cX9_weightOf 1 = .ok (.iload_n 1, 1) := by decide +kernel
theorem dX9_weightOf_2 : decode cX9_weightOf 2 = .ok (.bipush 6, 2) := by decide +kernel
theorem dX9_weightOf_4 : decode cX9_weightOf 4 = .ok (.invokevirtual 330, 3) := by decide +kernel
theorem dX9_weightOf_7 : decode cX9_weightOf 7 = .ok (.aload_n 0, 1) := by decide +kernel
theorem dX9_weightOf_8 : decode cX9_weightOf 8 = .ok (.iload_n 1, 1) := by decide +kernel
theorem dX9_weightOf_9 : decode cX9_weightOf 9 = .ok (.bipush 7, 2) := by decide +kernel
theorem dX9_weightOf_11 : decode cX9_weightOf 11 = .ok (.invokevirtual 330, 3) := by decide +kernel
theorem dX9_weightOf_14 : decode cX9_weightOf 14 = .ok (.iadd, 1) := by decide +kernel
theorem dX9_weightOf_15 : decode cX9_weightOf 15 = .ok (.iconst 2, 1) := by decide +kernel
theorem dX9_weightOf_16 : decode cX9_weightOf 16 = .ok (.aload_n 0, 1) := by decide +kernel
theorem dX9_weightOf_17 : decode cX9_weightOf 17 = .ok (.iload_n 1, 1) := by decide +kernel
theorem dX9_weightOf_18 : decode cX9_weightOf 18 = .ok (.bipush 8, 2) := by decide +kernel
theorem dX9_weightOf_20 : decode cX9_weightOf 20 = .ok (.invokevirtual 330, 3) := by decide +kernel
theorem dX9_weightOf_23 : decode cX9_weightOf 23 = .ok (.imul, 1) := by decide +kernel
theorem dX9_weightOf_24 : decode cX9_weightOf 24 = .ok (.iadd, 1) := by decide +kernel
theorem dX9_weightOf_25 : decode cX9_weightOf 25 = .ok (.aload_n 0, 1) := by decide +kernel
theorem dX9_weightOf_26 : decode cX9_weightOf 26 = .ok (.iload_n 1, 1) := by decide +kernel
theorem dX9_weightOf_27 : decode cX9_weightOf 27 = .ok (.iconst 0, 1) := by decide +kernel
theorem dX9_weightOf_28 : decode cX9_weightOf 28 = .ok (.invokevirtual 330, 3) := by decide +kernel
theorem dX9_weightOf_31 : decode cX9_weightOf 31 = .ok (.iconst 1, 1) := by decide +kernel
theorem dX9_weightOf_32 : decode cX9_weightOf 32 = .ok (.if_icmp .ne 7, 3) := by decide +kernel
theorem dX9_weightOf_35 : decode cX9_weightOf 35 = .ok (.iconst 5, 1) := by decide +kernel
theorem dX9_weightOf_36 : decode cX9_weightOf 36 = .ok (.goto 4, 3) := by decide +kernel
theorem dX9_weightOf_39 : decode cX9_weightOf 39 = .ok (.iconst 0, 1) := by decide +kernel
theorem dX9_weightOf_40 : decode cX9_weightOf 40 = .ok (.iadd, 1) := by decide +kernel
theorem dX9_weightOf_41 : decode cX9_weightOf 41 = .ok (.ireturn, 1) := by decide +kernel
theorem dX9_lineOf_0 : decode cX9_lineOf 0 = .ok (.iconst 0, 1) := by decide +kernel
theorem dX9_lineOf_1 : decode cX9_lineOf 1 = .ok (.aload_n 0, 1) := by decide +kernel
theorem dX9_lineOf_2 : decode cX9_lineOf 2 = .ok (.iload_n 1, 1) := by decide +kernel
theorem dX9_lineOf_3 : decode cX9_lineOf 3 = .ok (.iconst 3, 1) := by decide +kernel
theorem dX9_lineOf_4 : decode cX9_lineOf 4 = .ok (.invokevirtual 330, 3) := by decide +kernel
theorem dX9_lineOf_7 : decode cX9_lineOf 7 = .ok (.aload_n 0, 1) := by decide +kernel
theorem dX9_lineOf_8 : decode cX9_lineOf 8 = .ok (.iload_n 1, 1) := by decide +kernel
theorem dX9_lineOf_9 : decode cX9_lineOf 9 = .ok (.bipush 9, 2) := by decide +kernel
theorem dX9_lineOf_11 : decode cX9_lineOf 11 = .ok (.invokevirtual 330, 3) := by decide +kernel
theorem dX9_lineOf_14 : decode cX9_lineOf 14 = .ok (.isub, 1) := by decide +kernel
theorem dX9_lineOf_15 : decode cX9_lineOf 15 = .ok (.invokestatic 333, 3) := by decide +kernel
theorem dX9_lineOf_18 : decode cX9_lineOf 18 = .ok (.ireturn, 1) := by decide +kernel
theorem dX9_floats_0 : decode cX9_floats 0 = .ok (.aload_n 0, 1) := by decide +kernel
theorem dX9_floats_1 : decode cX9_floats 1 = .ok (.iload_n 1, 1) := by decide +kernel
theorem dX9_floats_2 : decode cX9_floats 2 = .ok (.iconst 4, 1) := by decide +kernel
theorem dX9_floats_3 : decode cX9_floats 3 = .ok (.invokevirtual 330, 3) := by decide +kernel
theorem dX9_floats_6 : decode cX9_floats 6 = .ok (.aload_n 0, 1) := by decide +kernel
theorem dX9_floats_7 : decode cX9_floats 7 = .ok (.iload_n 1, 1) := by decide +kernel
theorem dX9_floats_8 : decode cX9_floats 8 = .ok (.invokevirtual 336, 3) := by decide +kernel
theorem dX9_floats_11 : decode cX9_floats 11 = .ok (.if_icmp .le 15, 3) := by decide +kernel
theorem dX9_floats_14 : decode cX9_floats 14 = .ok (.aload_n 0, 1) := by decide +kernel
theorem dX9_floats_15 : decode cX9_floats 15 = .ok (.iload_n 1, 1) := by decide +kernel
theorem dX9_floats_16 : decode cX9_floats 16 = .ok (.invokevirtual 339, 3) := by decide +kernel
theorem dX9_floats_19 : decode cX9_floats 19 = .ok (.ifCond .le 7, 3) := by decide +kernel
theorem dX9_floats_22 : decode cX9_floats 22 = .ok (.iconst 1, 1) := by decide +kernel
theorem dX9_floats_23 : decode cX9_floats 23 = .ok (.goto 4, 3) := by decide +kernel
theorem dX9_floats_26 : decode cX9_floats 26 = .ok (.iconst 0, 1) := by decide +kernel
theorem dX9_floats_27 : decode cX9_floats 27 = .ok (.ireturn, 1) := by decide +kernel
theorem dX9_pushOf_0 : decode cX9_pushOf 0 = .ok (.bipush 50, 2) := by decide +kernel
theorem dX9_pushOf_2 : decode cX9_pushOf 2 = .ok (.istore 4, 2) := by decide +kernel
theorem dX9_pushOf_4 : decode cX9_pushOf 4 = .ok (.aload_n 0, 1) := by decide +kernel
theorem dX9_pushOf_5 : decode cX9_pushOf 5 = .ok (.getfield 51, 3) := by decide +kernel
theorem dX9_pushOf_8 : decode cX9_pushOf 8 = .ok (.bipush 9, 2) := by decide +kernel
theorem dX9_pushOf_10 : decode cX9_pushOf 10 = .ok (.iaload, 1) := by decide +kernel
theorem dX9_pushOf_11 : decode cX9_pushOf 11 = .ok (.ifCond .le 113, 3) := by decide +kernel
theorem dX9_pushOf_14 : decode cX9_pushOf 14 = .ok (.aload_n 0, 1) := by decide +kernel
theorem dX9_pushOf_15 : decode cX9_pushOf 15 = .ok (.getfield 80, 3) := by decide +kernel
theorem dX9_pushOf_18 : decode cX9_pushOf 18 = .ok (.iconst 0, 1) := by decide +kernel
theorem dX9_pushOf_19 : decode cX9_pushOf 19 = .ok (.aload_n 0, 1) := by decide +kernel
theorem dX9_pushOf_20 : decode cX9_pushOf 20 = .ok (.iload_n 1, 1) := by decide +kernel
theorem dX9_pushOf_21 : decode cX9_pushOf 21 = .ok (.iconst 4, 1) := by decide +kernel
theorem dX9_pushOf_22 : decode cX9_pushOf 22 = .ok (.invokevirtual 330, 3) := by decide +kernel
theorem dX9_pushOf_25 : decode cX9_pushOf 25 = .ok (.iastore, 1) := by decide +kernel
theorem dX9_pushOf_26 : decode cX9_pushOf 26 = .ok (.aload_n 0, 1) := by decide +kernel
theorem dX9_pushOf_27 : decode cX9_pushOf 27 = .ok (.getfield 80, 3) := by decide +kernel
theorem dX9_pushOf_30 : decode cX9_pushOf 30 = .ok (.iconst 1, 1) := by decide +kernel
theorem dX9_pushOf_31 : decode cX9_pushOf 31 = .ok (.aload_n 0, 1) := by decide +kernel
theorem dX9_pushOf_32 : decode cX9_pushOf 32 = .ok (.iload_n 1, 1) := by decide +kernel
theorem dX9_pushOf_33 : decode cX9_pushOf 33 = .ok (.invokevirtual 336, 3) := by decide +kernel
theorem dX9_pushOf_36 : decode cX9_pushOf 36 = .ok (.iastore, 1) := by decide +kernel
theorem dX9_pushOf_37 : decode cX9_pushOf 37 = .ok (.aload_n 0, 1) := by decide +kernel
theorem dX9_pushOf_38 : decode cX9_pushOf 38 = .ok (.getfield 80, 3) := by decide +kernel
theorem dX9_pushOf_41 : decode cX9_pushOf 41 = .ok (.iconst 2, 1) := by decide +kernel
theorem dX9_pushOf_42 : decode cX9_pushOf 42 = .ok (.aload_n 0, 1) := by decide +kernel
theorem dX9_pushOf_43 : decode cX9_pushOf 43 = .ok (.iload_n 1, 1) := by decide +kernel
theorem dX9_pushOf_44 : decode cX9_pushOf 44 = .ok (.iconst 3, 1) := by decide +kernel
theorem dX9_pushOf_45 : decode cX9_pushOf 45 = .ok (.invokevirtual 330, 3) := by decide +kernel
theorem dX9_pushOf_48 : decode cX9_pushOf 48 = .ok (.iastore, 1) := by decide +kernel
theorem dX9_pushOf_49 : decode cX9_pushOf 49 = .ok (.aload_n 0, 1) := by decide +kernel
theorem dX9_pushOf_50 : decode cX9_pushOf 50 = .ok (.getfield 80, 3) := by decide +kernel
theorem dX9_pushOf_53 : decode cX9_pushOf 53 = .ok (.iconst 3, 1) := by decide +kernel
theorem dX9_pushOf_54 : decode cX9_pushOf 54 = .ok (.aload_n 0, 1) := by decide +kernel
theorem dX9_pushOf_55 : decode cX9_pushOf 55 = .ok (.iload_n 1, 1) := by decide +kernel
theorem dX9_pushOf_56 : decode cX9_pushOf 56 = .ok (.bipush 9, 2) := by decide +kernel
theorem dX9_pushOf_58 : decode cX9_pushOf 58 = .ok (.invokevirtual 330, 3) := by decide +kernel
theorem dX9_pushOf_61 : decode cX9_pushOf 61 = .ok (.iastore, 1) := by decide +kernel
theorem dX9_pushOf_62 : decode cX9_pushOf 62 = .ok (.aload_n 0, 1) := by decide +kernel
theorem dX9_pushOf_63 : decode cX9_pushOf 63 = .ok (.getfield 80, 3) := by decide +kernel
theorem dX9_pushOf_66 : decode cX9_pushOf 66 = .ok (.iconst 4, 1) := by decide +kernel
theorem dX9_pushOf_67 : decode cX9_pushOf 67 = .ok (.aload_n 0, 1) := by decide +kernel
theorem dX9_pushOf_68 : decode cX9_pushOf 68 = .ok (.iload_n 1, 1) := by decide +kernel
theorem dX9_pushOf_69 : decode cX9_pushOf 69 = .ok (.bipush 6, 2) := by decide +kernel
theorem dX9_pushOf_71 : decode cX9_pushOf 71 = .ok (.invokevirtual 330, 3) := by decide +kernel
theorem dX9_pushOf_74 : decode cX9_pushOf 74 = .ok (.iastore, 1) := by decide +kernel
theorem dX9_pushOf_75 : decode cX9_pushOf 75 = .ok (.aload_n 0, 1) := by decide +kernel
theorem dX9_pushOf_76 : decode cX9_pushOf 76 = .ok (.getfield 80, 3) := by decide +kernel
theorem dX9_pushOf_79 : decode cX9_pushOf 79 = .ok (.iconst 5, 1) := by decide +kernel
theorem dX9_pushOf_80 : decode cX9_pushOf 80 = .ok (.iload_n 2, 1) := by decide +kernel
theorem dX9_pushOf_81 : decode cX9_pushOf 81 = .ok (.bipush 24, 2) := by decide +kernel
theorem dX9_pushOf_83 : decode cX9_pushOf 83 = .ok (.irem, 1) := by decide +kernel
theorem dX9_pushOf_84 : decode cX9_pushOf 84 = .ok (.iastore, 1) := by decide +kernel
theorem dX9_pushOf_85 : decode cX9_pushOf 85 = .ok (.aload_n 0, 1) := by decide +kernel
theorem dX9_pushOf_86 : decode cX9_pushOf 86 = .ok (.getfield 80, 3) := by decide +kernel
theorem dX9_pushOf_89 : decode cX9_pushOf 89 = .ok (.bipush 6, 2) := by decide +kernel
theorem dX9_pushOf_91 : decode cX9_pushOf 91 = .ok (.iload_n 2, 1) := by decide +kernel
theorem dX9_pushOf_92 : decode cX9_pushOf 92 = .ok (.bipush 24, 2) := by decide +kernel
theorem dX9_pushOf_94 : decode cX9_pushOf 94 = .ok (.idiv, 1) := by decide +kernel
theorem dX9_pushOf_95 : decode cX9_pushOf 95 = .ok (.iastore, 1) := by decide +kernel
theorem dX9_pushOf_96 : decode cX9_pushOf 96 = .ok (.aload_n 0, 1) := by decide +kernel
theorem dX9_pushOf_97 : decode cX9_pushOf 97 = .ok (.getfield 80, 3) := by decide +kernel
theorem dX9_pushOf_100 : decode cX9_pushOf 100 = .ok (.bipush 7, 2) := by decide +kernel
theorem dX9_pushOf_102 : decode cX9_pushOf 102 = .ok (.aload_n 0, 1) := by decide +kernel
theorem dX9_pushOf_103 : decode cX9_pushOf 103 = .ok (.iload_n 1, 1) := by decide +kernel
theorem dX9_pushOf_104 : decode cX9_pushOf 104 = .ok (.iconst 5, 1) := by decide +kernel
theorem dX9_pushOf_105 : decode cX9_pushOf 105 = .ok (.invokevirtual 330, 3) := by decide +kernel
theorem dX9_pushOf_108 : decode cX9_pushOf 108 = .ok (.iastore, 1) := by decide +kernel
theorem dX9_pushOf_109 : decode cX9_pushOf 109 = .ok (.iconst 0, 1) := by decide +kernel
theorem dX9_pushOf_110 : decode cX9_pushOf 110 = .ok (.bipush 100, 2) := by decide +kernel
theorem dX9_pushOf_112 : decode cX9_pushOf 112 = .ok (.aload_n 0, 1) := by decide +kernel
theorem dX9_pushOf_113 : decode cX9_pushOf 113 = .ok (.invokevirtual 342, 3) := by decide +kernel
theorem dX9_pushOf_116 : decode cX9_pushOf 116 = .ok (.invokestatic 193, 3) := by decide +kernel
theorem dX9_pushOf_119 : decode cX9_pushOf 119 = .ok (.invokestatic 333, 3) := by decide +kernel
theorem dX9_pushOf_122 : decode cX9_pushOf 122 = .ok (.istore 4, 2) := by decide +kernel
theorem dX9_pushOf_124 : decode cX9_pushOf 124 = .ok (.bipush 100, 2) := by decide +kernel
theorem dX9_pushOf_126 : decode cX9_pushOf 126 = .ok (.iload 4, 2) := by decide +kernel
theorem dX9_pushOf_128 : decode cX9_pushOf 128 = .ok (.bipush 20, 2) := by decide +kernel
theorem dX9_pushOf_130 : decode cX9_pushOf 130 = .ok (.iload_n 3, 1) := by decide +kernel
theorem dX9_pushOf_131 : decode cX9_pushOf 131 = .ok (.imul, 1) := by decide +kernel
theorem dX9_pushOf_132 : decode cX9_pushOf 132 = .ok (.iadd, 1) := by decide +kernel
theorem dX9_pushOf_133 : decode cX9_pushOf 133 = .ok (.invokestatic 193, 3) := by decide +kernel
theorem dX9_pushOf_136 : decode cX9_pushOf 136 = .ok (.istore 4, 2) := by decide +kernel
theorem dX9_pushOf_138 : decode cX9_pushOf 138 = .ok (.aload_n 0, 1) := by decide +kernel
theorem dX9_pushOf_139 : decode cX9_pushOf 139 = .ok (.iload_n 1, 1) := by decide +kernel
theorem dX9_pushOf_140 : decode cX9_pushOf 140 = .ok (.iconst 0, 1) := by decide +kernel
theorem dX9_pushOf_141 : decode cX9_pushOf 141 = .ok (.invokevirtual 330, 3) := by decide +kernel
theorem dX9_pushOf_144 : decode cX9_pushOf 144 = .ok (.iconst 2, 1) := by decide +kernel
theorem dX9_pushOf_145 : decode cX9_pushOf 145 = .ok (.if_icmp .ne 10, 3) := by decide +kernel
theorem dX9_pushOf_148 : decode cX9_pushOf 148 = .ok (.iload 4, 2) := by decide +kernel
theorem dX9_pushOf_150 : decode cX9_pushOf 150 = .ok (.iconst 2, 1) := by decide +kernel
theorem dX9_pushOf_151 : decode cX9_pushOf 151 = .ok (.idiv, 1) := by decide +kernel
theorem dX9_pushOf_152 : decode cX9_pushOf 152 = .ok (.goto 5, 3) := by decide +kernel
theorem dX9_pushOf_155 : decode cX9_pushOf 155 = .ok (.iload 4, 2) := by decide +kernel
theorem dX9_pushOf_157 : decode cX9_pushOf 157 = .ok (.ireturn, 1) := by decide +kernel
theorem dX9_tellWind_0 : decode cX9_tellWind 0 = .ok (.aload_n 0, 1) := by decide +kernel
theorem dX9_tellWind_1 : decode cX9_tellWind 1 = .ok (.iconst 0, 1) := by decide +kernel
theorem dX9_tellWind_2 : decode cX9_tellWind 2 = .ok (.putfield 345, 3) := by decide +kernel
theorem dX9_tellWind_5 : decode cX9_tellWind 5 = .ok (.aload_n 0, 1) := by decide +kernel
theorem dX9_tellWind_6 : decode cX9_tellWind 6 = .ok (.iconst 0, 1) := by decide +kernel
theorem dX9_tellWind_7 : decode cX9_tellWind 7 = .ok (.putfield 348, 3) := by decide +kernel
theorem dX9_tellWind_10 : decode cX9_tellWind 10 = .ok (.iconst (-1), 1) := by decide +kernel
theorem dX9_tellWind_11 : decode cX9_tellWind 11 = .ok (.istore_n 2, 1) := by decide +kernel
theorem dX9_tellWind_12 : decode cX9_tellWind 12 = .ok (.iconst 0, 1) := by decide +kernel
theorem dX9_tellWind_13 : decode cX9_tellWind 13 = .ok (.istore_n 3, 1) := by decide +kernel
theorem dX9_tellWind_14 : decode cX9_tellWind 14 = .ok (.iload_n 3, 1) := by decide +kernel
theorem dX9_tellWind_15 : decode cX9_tellWind 15 = .ok (.aload_n 0, 1) := by decide +kernel
theorem dX9_tellWind_16 : decode cX9_tellWind 16 = .ok (.getfield 51, 3) := by decide +kernel
theorem dX9_tellWind_19 : decode cX9_tellWind 19 = .ok (.iconst 1, 1) := by decide +kernel
theorem dX9_tellWind_20 : decode cX9_tellWind 20 = .ok (.iaload, 1) := by decide +kernel
theorem dX9_tellWind_21 : decode cX9_tellWind 21 = .ok (.if_icmp .ge 59, 3) := by decide +kernel
theorem dX9_tellWind_24 : decode cX9_tellWind 24 = .ok (.aload_n 0, 1) := by decide +kernel
theorem dX9_tellWind_25 : decode cX9_tellWind 25 = .ok (.getfield 58, 3) := by decide +kernel
theorem dX9_tellWind_28 : decode cX9_tellWind 28 = .ok (.iload_n 3, 1) := by decide +kernel
theorem dX9_tellWind_29 : decode cX9_tellWind 29 = .ok (.iaload, 1) := by decide +kernel
theorem dX9_tellWind_30 : decode cX9_tellWind 30 = .ok (.iload_n 1, 1) := by decide +kernel
theorem dX9_tellWind_31 : decode cX9_tellWind 31 = .ok (.if_icmp .gt 43, 3) := by decide +kernel
theorem dX9_tellWind_34 : decode cX9_tellWind 34 = .ok (.aload_n 0, 1) := by decide +kernel
theorem dX9_tellWind_35 : decode cX9_tellWind 35 = .ok (.getfield 58, 3) := by decide +kernel
theorem dX9_tellWind_38 : decode cX9_tellWind 38 = .ok (.iload_n 3, 1) := by decide +kernel
theorem dX9_tellWind_39 : decode cX9_tellWind 39 = .ok (.iaload, 1) := by decide +kernel
theorem dX9_tellWind_40 : decode cX9_tellWind 40 = .ok (.iload_n 2, 1) := by decide +kernel
theorem dX9_tellWind_41 : decode cX9_tellWind 41 = .ok (.if_icmp .ge 6, 3) := by decide +kernel
theorem dX9_tellWind_44 : decode cX9_tellWind 44 = .ok (.goto 30, 3) := by decide +kernel
theorem dX9_tellWind_47 : decode cX9_tellWind 47 = .ok (.aload_n 0, 1) := by decide +kernel
theorem dX9_tellWind_48 : decode cX9_tellWind 48 = .ok (.getfield 58, 3) := by decide +kernel
theorem dX9_tellWind_51 : decode cX9_tellWind 51 = .ok (.iload_n 3, 1) := by decide +kernel
theorem dX9_tellWind_52 : decode cX9_tellWind 52 = .ok (.iaload, 1) := by decide +kernel
theorem dX9_tellWind_53 : decode cX9_tellWind 53 = .ok (.istore_n 2, 1) := by decide +kernel
theorem dX9_tellWind_54 : decode cX9_tellWind 54 = .ok (.aload_n 0, 1) := by decide +kernel
theorem dX9_tellWind_55 : decode cX9_tellWind 55 = .ok (.aload_n 0, 1) := by decide +kernel
theorem dX9_tellWind_56 : decode cX9_tellWind 56 = .ok (.getfield 61, 3) := by decide +kernel
theorem dX9_tellWind_59 : decode cX9_tellWind 59 = .ok (.iload_n 3, 1) := by decide +kernel
theorem dX9_tellWind_60 : decode cX9_tellWind 60 = .ok (.iaload, 1) := by decide +kernel
theorem dX9_tellWind_61 : decode cX9_tellWind 61 = .ok (.putfield 345, 3) := by decide +kernel
theorem dX9_tellWind_64 : decode cX9_tellWind 64 = .ok (.aload_n 0, 1) := by decide +kernel
theorem dX9_tellWind_65 : decode cX9_tellWind 65 = .ok (.aload_n 0, 1) := by decide +kernel
theorem dX9_tellWind_66 : decode cX9_tellWind 66 = .ok (.getfield 64, 3) := by decide +kernel
theorem dX9_tellWind_69 : decode cX9_tellWind 69 = .ok (.iload_n 3, 1) := by decide +kernel
theorem dX9_tellWind_70 : decode cX9_tellWind 70 = .ok (.iaload, 1) := by decide +kernel
theorem dX9_tellWind_71 : decode cX9_tellWind 71 = .ok (.putfield 348, 3) := by decide +kernel
theorem dX9_tellWind_74 : decode cX9_tellWind 74 = .ok (.iinc 3 1, 3) := by decide +kernel
theorem dX9_tellWind_77 : decode cX9_tellWind 77 = .ok (.goto (-63), 3) := by decide +kernel
theorem dX9_tellWind_80 : decode cX9_tellWind 80 = .ok (.return_, 1) := by decide +kernel
theorem dX9_tellIsle_0 : decode cX9_tellIsle 0 = .ok (.aload_n 0, 1) := by decide +kernel
theorem dX9_tellIsle_1 : decode cX9_tellIsle 1 = .ok (.getfield 86, 3) := by decide +kernel
theorem dX9_tellIsle_4 : decode cX9_tellIsle 4 = .ok (.iload_n 1, 1) := by decide +kernel
theorem dX9_tellIsle_5 : decode cX9_tellIsle 5 = .ok (.aload_n 0, 1) := by decide +kernel
theorem dX9_tellIsle_6 : decode cX9_tellIsle 6 = .ok (.iload_n 1, 1) := by decide +kernel
theorem dX9_tellIsle_7 : decode cX9_tellIsle 7 = .ok (.iconst 1, 1) := by decide +kernel
theorem dX9_tellIsle_8 : decode cX9_tellIsle 8 = .ok (.invokevirtual 330, 3) := by decide +kernel
theorem dX9_tellIsle_11 : decode cX9_tellIsle 11 = .ok (.iastore, 1) := by decide +kernel
theorem dX9_tellIsle_12 : decode cX9_tellIsle 12 = .ok (.aload_n 0, 1) := by decide +kernel
theorem dX9_tellIsle_13 : decode cX9_tellIsle 13 = .ok (.getfield 89, 3) := by decide +kernel
theorem dX9_tellIsle_16 : decode cX9_tellIsle 16 = .ok (.iload_n 1, 1) := by decide +kernel
theorem dX9_tellIsle_17 : decode cX9_tellIsle 17 = .ok (.aload_n 0, 1) := by decide +kernel
theorem dX9_tellIsle_18 : decode cX9_tellIsle 18 = .ok (.iload_n 1, 1) := by decide +kernel
theorem dX9_tellIsle_19 : decode cX9_tellIsle 19 = .ok (.iconst 2, 1) := by decide +kernel
theorem dX9_tellIsle_20 : decode cX9_tellIsle 20 = .ok (.invokevirtual 330, 3) := by decide +kernel
theorem dX9_tellIsle_23 : decode cX9_tellIsle 23 = .ok (.iastore, 1) := by decide +kernel
theorem dX9_tellIsle_24 : decode cX9_tellIsle 24 = .ok (.aload_n 0, 1) := by decide +kernel
theorem dX9_tellIsle_25 : decode cX9_tellIsle 25 = .ok (.getfield 92, 3) := by decide +kernel
theorem dX9_tellIsle_28 : decode cX9_tellIsle 28 = .ok (.iload_n 1, 1) := by decide +kernel
theorem dX9_tellIsle_29 : decode cX9_tellIsle 29 = .ok (.iconst 0, 1) := by decide +kernel
theorem dX9_tellIsle_30 : decode cX9_tellIsle 30 = .ok (.iastore, 1) := by decide +kernel
theorem dX9_tellIsle_31 : decode cX9_tellIsle 31 = .ok (.aload_n 0, 1) := by decide +kernel
theorem dX9_tellIsle_32 : decode cX9_tellIsle 32 = .ok (.iload_n 1, 1) := by decide +kernel
theorem dX9_tellIsle_33 : decode cX9_tellIsle 33 = .ok (.invokevirtual 351, 3) := by decide +kernel
theorem dX9_tellIsle_36 : decode cX9_tellIsle 36 = .ok (.ifCond .ne 4, 3) := by decide +kernel
theorem dX9_tellIsle_39 : decode cX9_tellIsle 39 = .ok (.return_, 1) := by decide +kernel
theorem dX9_tellIsle_40 : decode cX9_tellIsle 40 = .ok (.aload_n 0, 1) := by decide +kernel
theorem dX9_tellIsle_41 : decode cX9_tellIsle 41 = .ok (.iload_n 1, 1) := by decide +kernel
theorem dX9_tellIsle_42 : decode cX9_tellIsle 42 = .ok (.invokevirtual 339, 3) := by decide +kernel
theorem dX9_tellIsle_45 : decode cX9_tellIsle 45 = .ok (.istore 4, 2) := by decide +kernel
theorem dX9_tellIsle_47 : decode cX9_tellIsle 47 = .ok (.aload_n 0, 1) := by decide +kernel
theorem dX9_tellIsle_48 : decode cX9_tellIsle 48 = .ok (.iload_n 1, 1) := by decide +kernel
theorem dX9_tellIsle_49 : decode cX9_tellIsle 49 = .ok (.iload_n 2, 1) := by decide +kernel
theorem dX9_tellIsle_50 : decode cX9_tellIsle 50 = .ok (.iload_n 3, 1) := by decide +kernel
theorem dX9_tellIsle_51 : decode cX9_tellIsle 51 = .ok (.invokevirtual 354, 3) := by decide +kernel
theorem dX9_tellIsle_54 : decode cX9_tellIsle 54 = .ok (.istore 5, 2) := by decide +kernel
theorem dX9_tellIsle_56 : decode cX9_tellIsle 56 = .ok (.iload 4, 2) := by decide +kernel
theorem dX9_tellIsle_58 : decode cX9_tellIsle 58 = .ok (.aload_n 0, 1) := by decide +kernel
theorem dX9_tellIsle_59 : decode cX9_tellIsle 59 = .ok (.getfield 345, 3) := by decide +kernel
theorem dX9_tellIsle_62 : decode cX9_tellIsle 62 = .ok (.imul, 1) := by decide +kernel
theorem dX9_tellIsle_63 : decode cX9_tellIsle 63 = .ok (.iload 5, 2) := by decide +kernel
theorem dX9_tellIsle_65 : decode cX9_tellIsle 65 = .ok (.imul, 1) := by decide +kernel
theorem dX9_tellIsle_66 : decode cX9_tellIsle 66 = .ok (.sipush 900, 3) := by decide +kernel
theorem dX9_tellIsle_69 : decode cX9_tellIsle 69 = .ok (.idiv, 1) := by decide +kernel
theorem dX9_tellIsle_70 : decode cX9_tellIsle 70 = .ok (.istore 6, 2) := by decide +kernel
theorem dX9_tellIsle_72 : decode cX9_tellIsle 72 = .ok (.iload 4, 2) := by decide +kernel
theorem dX9_tellIsle_74 : decode cX9_tellIsle 74 = .ok (.aload_n 0, 1) := by decide +kernel
theorem dX9_tellIsle_75 : decode cX9_tellIsle 75 = .ok (.getfield 348, 3) := by decide +kernel
theorem dX9_tellIsle_78 : decode cX9_tellIsle 78 = .ok (.imul, 1) := by decide +kernel
theorem dX9_tellIsle_79 : decode cX9_tellIsle 79 = .ok (.iload 5, 2) := by decide +kernel
theorem dX9_tellIsle_81 : decode cX9_tellIsle 81 = .ok (.imul, 1) := by decide +kernel
theorem dX9_tellIsle_82 : decode cX9_tellIsle 82 = .ok (.sipush 900, 3) := by decide +kernel
theorem dX9_tellIsle_85 : decode cX9_tellIsle 85 = .ok (.idiv, 1) := by decide +kernel
theorem dX9_tellIsle_86 : decode cX9_tellIsle 86 = .ok (.istore 7, 2) := by decide +kernel
theorem dX9_tellIsle_88 : decode cX9_tellIsle 88 = .ok (.aload_n 0, 1) := by decide +kernel
theorem dX9_tellIsle_89 : decode cX9_tellIsle 89 = .ok (.getfield 86, 3) := by decide +kernel
theorem dX9_tellIsle_92 : decode cX9_tellIsle 92 = .ok (.iload_n 1, 1) := by decide +kernel
theorem dX9_tellIsle_93 : decode cX9_tellIsle 93 = .ok (.dup2, 1) := by decide +kernel
theorem dX9_tellIsle_94 : decode cX9_tellIsle 94 = .ok (.iaload, 1) := by decide +kernel
theorem dX9_tellIsle_95 : decode cX9_tellIsle 95 = .ok (.iload 6, 2) := by decide +kernel
theorem dX9_tellIsle_97 : decode cX9_tellIsle 97 = .ok (.iadd, 1) := by decide +kernel
theorem dX9_tellIsle_98 : decode cX9_tellIsle 98 = .ok (.iastore, 1) := by decide +kernel
theorem dX9_tellIsle_99 : decode cX9_tellIsle 99 = .ok (.aload_n 0, 1) := by decide +kernel
theorem dX9_tellIsle_100 : decode cX9_tellIsle 100 = .ok (.getfield 89, 3) := by decide +kernel
theorem dX9_tellIsle_103 : decode cX9_tellIsle 103 = .ok (.iload_n 1, 1) := by decide +kernel
theorem dX9_tellIsle_104 : decode cX9_tellIsle 104 = .ok (.dup2, 1) := by decide +kernel
theorem dX9_tellIsle_105 : decode cX9_tellIsle 105 = .ok (.iaload, 1) := by decide +kernel
theorem dX9_tellIsle_106 : decode cX9_tellIsle 106 = .ok (.iload 7, 2) := by decide +kernel
theorem dX9_tellIsle_108 : decode cX9_tellIsle 108 = .ok (.iadd, 1) := by decide +kernel
theorem dX9_tellIsle_109 : decode cX9_tellIsle 109 = .ok (.iastore, 1) := by decide +kernel
theorem dX9_tellIsle_110 : decode cX9_tellIsle 110 = .ok (.aload_n 0, 1) := by decide +kernel
theorem dX9_tellIsle_111 : decode cX9_tellIsle 111 = .ok (.getfield 92, 3) := by decide +kernel
theorem dX9_tellIsle_114 : decode cX9_tellIsle 114 = .ok (.iload_n 1, 1) := by decide +kernel
theorem dX9_tellIsle_115 : decode cX9_tellIsle 115 = .ok (.iload 4, 2) := by decide +kernel
theorem dX9_tellIsle_117 : decode cX9_tellIsle 117 = .ok (.iload 6, 2) := by decide +kernel
theorem dX9_tellIsle_119 : decode cX9_tellIsle 119 = .ok (.invokestatic 357, 3) := by decide +kernel
theorem dX9_tellIsle_122 : decode cX9_tellIsle 122 = .ok (.iload 7, 2) := by decide +kernel
theorem dX9_tellIsle_124 : decode cX9_tellIsle 124 = .ok (.invokestatic 357, 3) := by decide +kernel
theorem dX9_tellIsle_127 : decode cX9_tellIsle 127 = .ok (.invokestatic 333, 3) := by decide +kernel
theorem dX9_tellIsle_130 : decode cX9_tellIsle 130 = .ok (.isub, 1) := by decide +kernel
theorem dX9_tellIsle_131 : decode cX9_tellIsle 131 = .ok (.iastore, 1) := by decide +kernel
theorem dX9_tellIsle_132 : decode cX9_tellIsle 132 = .ok (.return_, 1) := by decide +kernel
theorem dX9_tellHour_0 : decode cX9_tellHour 0 = .ok (.aload_n 0, 1) := by decide +kernel
theorem dX9_tellHour_1 : decode cX9_tellHour 1 = .ok (.iload_n 1, 1) := by decide +kernel
theorem dX9_tellHour_2 : decode cX9_tellHour 2 = .ok (.invokevirtual 360, 3) := by decide +kernel
theorem dX9_tellHour_5 : decode cX9_tellHour 5 = .ok (.iconst 0, 1) := by decide +kernel
theorem dX9_tellHour_6 : decode cX9_tellHour 6 = .ok (.istore_n 3, 1) := by decide +kernel
theorem dX9_tellHour_7 : decode cX9_tellHour 7 = .ok (.iload_n 3, 1) := by decide +kernel
theorem dX9_tellHour_8 : decode cX9_tellHour 8 = .ok (.aload_n 0, 1) := by decide +kernel
theorem dX9_tellHour_9 : decode cX9_tellHour 9 = .ok (.getfield 51, 3) := by decide +kernel
theorem dX9_tellHour_12 : decode cX9_tellHour 12 = .ok (.iconst 0, 1) := by decide +kernel
theorem dX9_tellHour_13 : decode cX9_tellHour 13 = .ok (.iaload, 1) := by decide +kernel
theorem dX9_tellHour_14 : decode cX9_tellHour 14 = .ok (.if_icmp .ge 16, 3) := by decide +kernel
theorem dX9_tellHour_17 : decode cX9_tellHour 17 = .ok (.aload_n 0, 1) := by decide +kernel
theorem dX9_tellHour_18 : decode cX9_tellHour 18 = .ok (.iload_n 3, 1) := by decide +kernel
theorem dX9_tellHour_19 : decode cX9_tellHour 19 = .ok (.iload_n 1, 1) := by decide +kernel
theorem dX9_tellHour_20 : decode cX9_tellHour 20 = .ok (.iload_n 2, 1) := by decide +kernel
theorem dX9_tellHour_21 : decode cX9_tellHour 21 = .ok (.invokevirtual 363, 3) := by decide +kernel
theorem dX9_tellHour_24 : decode cX9_tellHour 24 = .ok (.iinc 3 1, 3) := by decide +kernel
theorem dX9_tellHour_27 : decode cX9_tellHour 27 = .ok (.goto (-20), 3) := by decide +kernel
theorem dX9_tellHour_30 : decode cX9_tellHour 30 = .ok (.return_, 1) := by decide +kernel
theorem dX9_isOver_0 : decode cX9_isOver 0 = .ok (.aload_n 0, 1) := by decide +kernel
theorem dX9_isOver_1 : decode cX9_isOver 1 = .ok (.iload_n 1, 1) := by decide +kernel
theorem dX9_isOver_2 : decode cX9_isOver 2 = .ok (.iconst 5, 1) := by decide +kernel
theorem dX9_isOver_3 : decode cX9_isOver 3 = .ok (.invokevirtual 330, 3) := by decide +kernel
theorem dX9_isOver_6 : decode cX9_isOver 6 = .ok (.aload_n 0, 1) := by decide +kernel
theorem dX9_isOver_7 : decode cX9_isOver 7 = .ok (.iload_n 2, 1) := by decide +kernel
theorem dX9_isOver_8 : decode cX9_isOver 8 = .ok (.iconst 5, 1) := by decide +kernel
theorem dX9_isOver_9 : decode cX9_isOver 9 = .ok (.invokevirtual 330, 3) := by decide +kernel
theorem dX9_isOver_12 : decode cX9_isOver 12 = .ok (.iadd, 1) := by decide +kernel
theorem dX9_isOver_13 : decode cX9_isOver 13 = .ok (.iload_n 3, 1) := by decide +kernel
theorem dX9_isOver_14 : decode cX9_isOver 14 = .ok (.iadd, 1) := by decide +kernel
theorem dX9_isOver_15 : decode cX9_isOver 15 = .ok (.istore 4, 2) := by decide +kernel
theorem dX9_isOver_17 : decode cX9_isOver 17 = .ok (.aload_n 0, 1) := by decide +kernel
theorem dX9_isOver_18 : decode cX9_isOver 18 = .ok (.getfield 86, 3) := by decide +kernel
theorem dX9_isOver_21 : decode cX9_isOver 21 = .ok (.iload_n 1, 1) := by decide +kernel
theorem dX9_isOver_22 : decode cX9_isOver 22 = .ok (.iaload, 1) := by decide +kernel
theorem dX9_isOver_23 : decode cX9_isOver 23 = .ok (.aload_n 0, 1) := by decide +kernel
theorem dX9_isOver_24 : decode cX9_isOver 24 = .ok (.getfield 86, 3) := by decide +kernel
theorem dX9_isOver_27 : decode cX9_isOver 27 = .ok (.iload_n 2, 1) := by decide +kernel
theorem dX9_isOver_28 : decode cX9_isOver 28 = .ok (.iaload, 1) := by decide +kernel
theorem dX9_isOver_29 : decode cX9_isOver 29 = .ok (.isub, 1) := by decide +kernel
theorem dX9_isOver_30 : decode cX9_isOver 30 = .ok (.invokestatic 357, 3) := by decide +kernel
theorem dX9_isOver_33 : decode cX9_isOver 33 = .ok (.iload 4, 2) := by decide +kernel
theorem dX9_isOver_35 : decode cX9_isOver 35 = .ok (.if_icmp .gt 28, 3) := by decide +kernel
theorem dX9_isOver_38 : decode cX9_isOver 38 = .ok (.aload_n 0, 1) := by decide +kernel
theorem dX9_isOver_39 : decode cX9_isOver 39 = .ok (.getfield 89, 3) := by decide +kernel
theorem dX9_isOver_42 : decode cX9_isOver 42 = .ok (.iload_n 1, 1) := by decide +kernel
theorem dX9_isOver_43 : decode cX9_isOver 43 = .ok (.iaload, 1) := by decide +kernel
theorem dX9_isOver_44 : decode cX9_isOver 44 = .ok (.aload_n 0, 1) := by decide +kernel
theorem dX9_isOver_45 : decode cX9_isOver 45 = .ok (.getfield 89, 3) := by decide +kernel
theorem dX9_isOver_48 : decode cX9_isOver 48 = .ok (.iload_n 2, 1) := by decide +kernel
theorem dX9_isOver_49 : decode cX9_isOver 49 = .ok (.iaload, 1) := by decide +kernel
theorem dX9_isOver_50 : decode cX9_isOver 50 = .ok (.isub, 1) := by decide +kernel
theorem dX9_isOver_51 : decode cX9_isOver 51 = .ok (.invokestatic 357, 3) := by decide +kernel
theorem dX9_isOver_54 : decode cX9_isOver 54 = .ok (.iload 4, 2) := by decide +kernel
theorem dX9_isOver_56 : decode cX9_isOver 56 = .ok (.if_icmp .gt 7, 3) := by decide +kernel
theorem dX9_isOver_59 : decode cX9_isOver 59 = .ok (.iconst 1, 1) := by decide +kernel
theorem dX9_isOver_60 : decode cX9_isOver 60 = .ok (.goto 4, 3) := by decide +kernel
theorem dX9_isOver_63 : decode cX9_isOver 63 = .ok (.iconst 0, 1) := by decide +kernel
theorem dX9_isOver_64 : decode cX9_isOver 64 = .ok (.ireturn, 1) := by decide +kernel
theorem dX9_knocks_0 : decode cX9_knocks 0 = .ok (.aload_n 0, 1) := by decide +kernel
theorem dX9_knocks_1 : decode cX9_knocks 1 = .ok (.iload_n 1, 1) := by decide +kernel
theorem dX9_knocks_2 : decode cX9_knocks 2 = .ok (.iload_n 2, 1) := by decide +kernel
theorem dX9_knocks_3 : decode cX9_knocks 3 = .ok (.iconst 0, 1) := by decide +kernel
theorem dX9_knocks_4 : decode cX9_knocks 4 = .ok (.invokevirtual 367, 3) := by decide +kernel
theorem dX9_knocks_7 : decode cX9_knocks 7 = .ok (.ifCond .eq 27, 3) := by decide +kernel
theorem dX9_knocks_10 : decode cX9_knocks 10 = .ok (.aload_n 0, 1) := by decide +kernel
theorem dX9_knocks_11 : decode cX9_knocks 11 = .ok (.getfield 92, 3) := by decide +kernel
theorem dX9_knocks_14 : decode cX9_knocks 14 = .ok (.iload_n 1, 1) := by decide +kernel
theorem dX9_knocks_15 : decode cX9_knocks 15 = .ok (.iaload, 1) := by decide +kernel
theorem dX9_knocks_16 : decode cX9_knocks 16 = .ok (.aload_n 0, 1) := by decide +kernel
theorem dX9_knocks_17 : decode cX9_knocks 17 = .ok (.getfield 92, 3) := by decide +kernel
theorem dX9_knocks_20 : decode cX9_knocks 20 = .ok (.iload_n 2, 1) := by decide +kernel
theorem dX9_knocks_21 : decode cX9_knocks 21 = .ok (.iaload, 1) := by decide +kernel
theorem dX9_knocks_22 : decode cX9_knocks 22 = .ok (.isub, 1) := by decide +kernel
theorem dX9_knocks_23 : decode cX9_knocks 23 = .ok (.invokestatic 357, 3) := by decide +kernel
theorem dX9_knocks_26 : decode cX9_knocks 26 = .ok (.iconst 1, 1) := by decide +kernel
theorem dX9_knocks_27 : decode cX9_knocks 27 = .ok (.if_icmp .gt 7, 3) := by decide +kernel
theorem dX9_knocks_30 : decode cX9_knocks 30 = .ok (.iconst 1, 1) := by decide +kernel
theorem dX9_knocks_31 : decode cX9_knocks 31 = .ok (.goto 4, 3) := by decide +kernel
theorem dX9_knocks_34 : decode cX9_knocks 34 = .ok (.iconst 0, 1) := by decide +kernel
theorem dX9_knocks_35 : decode cX9_knocks 35 = .ok (.ireturn, 1) := by decide +kernel
theorem dX9_isShaded_0 : decode cX9_isShaded 0 = .ok (.aload_n 0, 1) := by decide +kernel
theorem dX9_isShaded_1 : decode cX9_isShaded 1 = .ok (.iload_n 1, 1) := by decide +kernel
theorem dX9_isShaded_2 : decode cX9_isShaded 2 = .ok (.iload_n 2, 1) := by decide +kernel
theorem dX9_isShaded_3 : decode cX9_isShaded 3 = .ok (.iconst 0, 1) := by decide +kernel
theorem dX9_isShaded_4 : decode cX9_isShaded 4 = .ok (.invokevirtual 367, 3) := by decide +kernel
theorem dX9_isShaded_7 : decode cX9_isShaded 7 = .ok (.ifCond .eq 24, 3) := by decide +kernel
theorem dX9_isShaded_10 : decode cX9_isShaded 10 = .ok (.aload_n 0, 1) := by decide +kernel
theorem dX9_isShaded_11 : decode cX9_isShaded 11 = .ok (.getfield 92, 3) := by decide +kernel
theorem dX9_isShaded_14 : decode cX9_isShaded 14 = .ok (.iload_n 2, 1) := by decide +kernel
theorem dX9_isShaded_15 : decode cX9_isShaded 15 = .ok (.iaload, 1) := by decide +kernel
theorem dX9_isShaded_16 : decode cX9_isShaded 16 = .ok (.aload_n 0, 1) := by decide +kernel
theorem dX9_isShaded_17 : decode cX9_isShaded 17 = .ok (.getfield 92, 3) := by decide +kernel
theorem dX9_isShaded_20 : decode cX9_isShaded 20 = .ok (.iload_n 1, 1) := by decide +kernel
theorem dX9_isShaded_21 : decode cX9_isShaded 21 = .ok (.iaload, 1) := by decide +kernel
theorem dX9_isShaded_22 : decode cX9_isShaded 22 = .ok (.iconst 2, 1) := by decide +kernel
theorem dX9_isShaded_23 : decode cX9_isShaded 23 = .ok (.iadd, 1) := by decide +kernel
theorem dX9_isShaded_24 : decode cX9_isShaded 24 = .ok (.if_icmp .lt 7, 3) := by decide +kernel
theorem dX9_isShaded_27 : decode cX9_isShaded 27 = .ok (.iconst 1, 1) := by decide +kernel
theorem dX9_isShaded_28 : decode cX9_isShaded 28 = .ok (.goto 4, 3) := by decide +kernel
theorem dX9_isShaded_31 : decode cX9_isShaded 31 = .ok (.iconst 0, 1) := by decide +kernel
theorem dX9_isShaded_32 : decode cX9_isShaded 32 = .ok (.ireturn, 1) := by decide +kernel
theorem dX9_isBridge_0 : decode cX9_isBridge 0 = .ok (.aload_n 0, 1) := by decide +kernel
theorem dX9_isBridge_1 : decode cX9_isBridge 1 = .ok (.iload_n 1, 1) := by decide +kernel
theorem dX9_isBridge_2 : decode cX9_isBridge 2 = .ok (.iload_n 2, 1) := by decide +kernel
theorem dX9_isBridge_3 : decode cX9_isBridge 3 = .ok (.aload_n 0, 1) := by decide +kernel
theorem dX9_isBridge_4 : decode cX9_isBridge 4 = .ok (.getfield 51, 3) := by decide +kernel
theorem dX9_isBridge_7 : decode cX9_isBridge 7 = .ok (.iconst 3, 1) := by decide +kernel
theorem dX9_isBridge_8 : decode cX9_isBridge 8 = .ok (.iaload, 1) := by decide +kernel
theorem dX9_isBridge_9 : decode cX9_isBridge 9 = .ok (.invokevirtual 367, 3) := by decide +kernel
theorem dX9_isBridge_12 : decode cX9_isBridge 12 = .ok (.ifCond .eq 32, 3) := by decide +kernel
theorem dX9_isBridge_15 : decode cX9_isBridge 15 = .ok (.aload_n 0, 1) := by decide +kernel
theorem dX9_isBridge_16 : decode cX9_isBridge 16 = .ok (.getfield 92, 3) := by decide +kernel
theorem dX9_isBridge_19 : decode cX9_isBridge 19 = .ok (.iload_n 1, 1) := by decide +kernel
theorem dX9_isBridge_20 : decode cX9_isBridge 20 = .ok (.iaload, 1) := by decide +kernel
theorem dX9_isBridge_21 : decode cX9_isBridge 21 = .ok (.aload_n 0, 1) := by decide +kernel
theorem dX9_isBridge_22 : decode cX9_isBridge 22 = .ok (.getfield 92, 3) := by decide +kernel
theorem dX9_isBridge_25 : decode cX9_isBridge 25 = .ok (.iload_n 2, 1) := by decide +kernel
theorem dX9_isBridge_26 : decode cX9_isBridge 26 = .ok (.iaload, 1) := by decide +kernel
theorem dX9_isBridge_27 : decode cX9_isBridge 27 = .ok (.isub, 1) := by decide +kernel
theorem dX9_isBridge_28 : decode cX9_isBridge 28 = .ok (.invokestatic 357, 3) := by decide +kernel
theorem dX9_isBridge_31 : decode cX9_isBridge 31 = .ok (.aload_n 0, 1) := by decide +kernel
theorem dX9_isBridge_32 : decode cX9_isBridge 32 = .ok (.getfield 51, 3) := by decide +kernel
theorem dX9_isBridge_35 : decode cX9_isBridge 35 = .ok (.iconst 3, 1) := by decide +kernel
theorem dX9_isBridge_36 : decode cX9_isBridge 36 = .ok (.iaload, 1) := by decide +kernel
theorem dX9_isBridge_37 : decode cX9_isBridge 37 = .ok (.if_icmp .gt 7, 3) := by decide +kernel
theorem dX9_isBridge_40 : decode cX9_isBridge 40 = .ok (.iconst 1, 1) := by decide +kernel
theorem dX9_isBridge_41 : decode cX9_isBridge 41 = .ok (.goto 4, 3) := by decide +kernel
theorem dX9_isBridge_44 : decode cX9_isBridge 44 = .ok (.iconst 0, 1) := by decide +kernel
theorem dX9_isBridge_45 : decode cX9_isBridge 45 = .ok (.ireturn, 1) := by decide +kernel
theorem dX9_knocked_0 : decode cX9_knocked 0 = .ok (.iconst 0, 1) := by decide +kernel
theorem dX9_knocked_1 : decode cX9_knocked 1 = .ok (.istore_n 1, 1) := by decide +kernel
theorem dX9_knocked_2 : decode cX9_knocked 2 = .ok (.iload_n 1, 1) := by decide +kernel
theorem dX9_knocked_3 : decode cX9_knocked 3 = .ok (.aload_n 0, 1) := by decide +kernel
theorem dX9_knocked_4 : decode cX9_knocked 4 = .ok (.getfield 51, 3) := by decide +kernel
theorem dX9_knocked_7 : decode cX9_knocked 7 = .ok (.iconst 0, 1) := by decide +kernel
theorem dX9_knocked_8 : decode cX9_knocked 8 = .ok (.iaload, 1) := by decide +kernel
theorem dX9_knocked_9 : decode cX9_knocked 9 = .ok (.if_icmp .ge 45, 3) := by decide +kernel
theorem dX9_knocked_12 : decode cX9_knocked 12 = .ok (.iload_n 1, 1) := by decide +kernel
theorem dX9_knocked_13 : decode cX9_knocked 13 = .ok (.iconst 1, 1) := by decide +kernel
theorem dX9_knocked_14 : decode cX9_knocked 14 = .ok (.iadd, 1) := by decide +kernel
theorem dX9_knocked_15 : decode cX9_knocked 15 = .ok (.istore_n 2, 1) := by decide +kernel
theorem dX9_knocked_16 : decode cX9_knocked 16 = .ok (.iload_n 2, 1) := by decide +kernel
theorem dX9_knocked_17 : decode cX9_knocked 17 = .ok (.aload_n 0, 1) := by decide +kernel
theorem dX9_knocked_18 : decode cX9_knocked 18 = .ok (.getfield 51, 3) := by decide +kernel
theorem dX9_knocked_21 : decode cX9_knocked 21 = .ok (.iconst 0, 1) := by decide +kernel
theorem dX9_knocked_22 : decode cX9_knocked 22 = .ok (.iaload, 1) := by decide +kernel
theorem dX9_knocked_23 : decode cX9_knocked 23 = .ok (.if_icmp .ge 25, 3) := by decide +kernel
theorem dX9_knocked_26 : decode cX9_knocked 26 = .ok (.aload_n 0, 1) := by decide +kernel
theorem dX9_knocked_27 : decode cX9_knocked 27 = .ok (.iload_n 1, 1) := by decide +kernel
theorem dX9_knocked_28 : decode cX9_knocked 28 = .ok (.iload_n 2, 1) := by decide +kernel
theorem dX9_knocked_29 : decode cX9_knocked 29 = .ok (.invokevirtual 371, 3) := by decide +kernel
theorem dX9_knocked_32 : decode cX9_knocked 32 = .ok (.ifCond .eq 10, 3) := by decide +kernel
theorem dX9_knocked_35 : decode cX9_knocked 35 = .ok (.bipush 10, 2) := by decide +kernel
theorem dX9_knocked_37 : decode cX9_knocked 37 = .ok (.iload_n 1, 1) := by decide +kernel
theorem dX9_knocked_38 : decode cX9_knocked 38 = .ok (.imul, 1) := by decide +kernel
theorem dX9_knocked_39 : decode cX9_knocked 39 = .ok (.iload_n 2, 1) := by decide +kernel
theorem dX9_knocked_40 : decode cX9_knocked 40 = .ok (.iadd, 1) := by decide +kernel
theorem dX9_knocked_41 : decode cX9_knocked 41 = .ok (.ireturn, 1) := by decide +kernel
theorem dX9_knocked_42 : decode cX9_knocked 42 = .ok (.iinc 2 1, 3) := by decide +kernel
theorem dX9_knocked_45 : decode cX9_knocked 45 = .ok (.goto (-29), 3) := by decide +kernel
theorem dX9_knocked_48 : decode cX9_knocked 48 = .ok (.iinc 1 1, 3) := by decide +kernel
theorem dX9_knocked_51 : decode cX9_knocked 51 = .ok (.goto (-49), 3) := by decide +kernel
theorem dX9_knocked_54 : decode cX9_knocked 54 = .ok (.iconst (-1), 1) := by decide +kernel
theorem dX9_knocked_55 : decode cX9_knocked 55 = .ok (.ireturn, 1) := by decide +kernel
theorem dX9_rainOf_0 : decode cX9_rainOf 0 = .ok (.iconst (-1), 1) := by decide +kernel
theorem dX9_rainOf_1 : decode cX9_rainOf 1 = .ok (.istore_n 2, 1) := by decide +kernel
theorem dX9_rainOf_2 : decode cX9_rainOf 2 = .ok (.iconst 0, 1) := by decide +kernel
theorem dX9_rainOf_3 : decode cX9_rainOf 3 = .ok (.istore_n 3, 1) := by decide +kernel
theorem dX9_rainOf_4 : decode cX9_rainOf 4 = .ok (.iload_n 3, 1) := by decide +kernel
theorem dX9_rainOf_5 : decode cX9_rainOf 5 = .ok (.aload_n 0, 1) := by decide +kernel
theorem dX9_rainOf_6 : decode cX9_rainOf 6 = .ok (.getfield 51, 3) := by decide +kernel
theorem dX9_rainOf_9 : decode cX9_rainOf 9 = .ok (.iconst 0, 1) := by decide +kernel
theorem dX9_rainOf_10 : decode cX9_rainOf 10 = .ok (.iaload, 1) := by decide +kernel
theorem dX9_rainOf_11 : decode cX9_rainOf 11 = .ok (.if_icmp .ge 45, 3) := by decide +kernel
theorem dX9_rainOf_14 : decode cX9_rainOf 14 = .ok (.iload_n 3, 1) := by decide +kernel
theorem dX9_rainOf_15 : decode cX9_rainOf 15 = .ok (.iload_n 1, 1) := by decide +kernel
theorem dX9_rainOf_16 : decode cX9_rainOf 16 = .ok (.if_icmp .eq 34, 3) := by decide +kernel
theorem dX9_rainOf_19 : decode cX9_rainOf 19 = .ok (.aload_n 0, 1) := by decide +kernel
theorem dX9_rainOf_20 : decode cX9_rainOf 20 = .ok (.iload_n 1, 1) := by decide +kernel
theorem dX9_rainOf_21 : decode cX9_rainOf 21 = .ok (.iload_n 3, 1) := by decide +kernel
theorem dX9_rainOf_22 : decode cX9_rainOf 22 = .ok (.invokevirtual 375, 3) := by decide +kernel
theorem dX9_rainOf_25 : decode cX9_rainOf 25 = .ok (.ifCond .eq 25, 3) := by decide +kernel
theorem dX9_rainOf_28 : decode cX9_rainOf 28 = .ok (.iload_n 2, 1) := by decide +kernel
theorem dX9_rainOf_29 : decode cX9_rainOf 29 = .ok (.iconst (-1), 1) := by decide +kernel
theorem dX9_rainOf_30 : decode cX9_rainOf 30 = .ok (.if_icmp .eq 18, 3) := by decide +kernel
theorem dX9_rainOf_33 : decode cX9_rainOf 33 = .ok (.aload_n 0, 1) := by decide +kernel
theorem dX9_rainOf_34 : decode cX9_rainOf 34 = .ok (.getfield 92, 3) := by decide +kernel
theorem dX9_rainOf_37 : decode cX9_rainOf 37 = .ok (.iload_n 3, 1) := by decide +kernel
theorem dX9_rainOf_38 : decode cX9_rainOf 38 = .ok (.iaload, 1) := by decide +kernel
theorem dX9_rainOf_39 : decode cX9_rainOf 39 = .ok (.aload_n 0, 1) := by decide +kernel
theorem dX9_rainOf_40 : decode cX9_rainOf 40 = .ok (.getfield 92, 3) := by decide +kernel
theorem dX9_rainOf_43 : decode cX9_rainOf 43 = .ok (.iload_n 2, 1) := by decide +kernel
theorem dX9_rainOf_44 : decode cX9_rainOf 44 = .ok (.iaload, 1) := by decide +kernel
theorem dX9_rainOf_45 : decode cX9_rainOf 45 = .ok (.if_icmp .ge 5, 3) := by decide +kernel
theorem dX9_rainOf_48 : decode cX9_rainOf 48 = .ok (.iload_n 3, 1) := by decide +kernel
theorem dX9_rainOf_49 : decode cX9_rainOf 49 = .ok (.istore_n 2, 1) := by decide +kernel
theorem dX9_rainOf_50 : decode cX9_rainOf 50 = .ok (.iinc 3 1, 3) := by decide +kernel
theorem dX9_rainOf_53 : decode cX9_rainOf 53 = .ok (.goto (-49), 3) := by decide +kernel
theorem dX9_rainOf_56 : decode cX9_rainOf 56 = .ok (.iload_n 2, 1) := by decide +kernel
theorem dX9_rainOf_57 : decode cX9_rainOf 57 = .ok (.ireturn, 1) := by decide +kernel
theorem dX9_count_0 : decode cX9_count 0 = .ok (.aload_n 0, 1) := by decide +kernel
theorem dX9_count_1 : decode cX9_count 1 = .ok (.iconst 0, 1) := by decide +kernel
theorem dX9_count_2 : decode cX9_count 2 = .ok (.putfield 155, 3) := by decide +kernel
theorem dX9_count_5 : decode cX9_count 5 = .ok (.iload_n 1, 1) := by decide +kernel
theorem dX9_count_6 : decode cX9_count 6 = .ok (.i2l, 1) := by decide +kernel
theorem dX9_count_7 : decode cX9_count 7 = .ok (.ldc2_w 378, 3) := by decide +kernel
theorem dX9_count_10 : decode cX9_count 10 = .ok (.ldc2_w 380, 3) := by decide +kernel
theorem dX9_count_13 : decode cX9_count 13 = .ok (.invokestatic 158, 3) := by decide +kernel
theorem dX9_count_16 : decode cX9_count 16 = .ok (.ifCond .eq 13, 3) := by decide +kernel
theorem dX9_count_19 : decode cX9_count 19 = .ok (.aload_n 0, 1) := by decide +kernel
theorem dX9_count_20 : decode cX9_count 20 = .ok (.getfield 51, 3) := by decide +kernel
theorem dX9_count_23 : decode cX9_count 23 = .ok (.iload_n 1, 1) := by decide +kernel
theorem dX9_count_24 : decode cX9_count 24 = .ok (.bipush 15, 2) := by decide +kernel
theorem dX9_count_26 : decode cX9_count 26 = .ok (.isub, 1) := by decide +kernel
theorem dX9_count_27 : decode cX9_count 27 = .ok (.iaload, 1) := by decide +kernel
theorem dX9_count_28 : decode cX9_count 28 = .ok (.ireturn, 1) := by decide +kernel
theorem dX9_count_29 : decode cX9_count 29 = .ok (.iload_n 1, 1) := by decide +kernel
theorem dX9_count_30 : decode cX9_count 30 = .ok (.i2l, 1) := by decide +kernel
theorem dX9_count_31 : decode cX9_count 31 = .ok (.lconst 0, 1) := by decide +kernel
theorem dX9_count_32 : decode cX9_count 32 = .ok (.ldc2_w 382, 3) := by decide +kernel
theorem dX9_count_35 : decode cX9_count 35 = .ok (.invokestatic 158, 3) := by decide +kernel
theorem dX9_count_38 : decode cX9_count 38 = .ok (.ifCond .eq 10, 3) := by decide +kernel
theorem dX9_count_41 : decode cX9_count 41 = .ok (.aload_n 0, 1) := by decide +kernel
theorem dX9_count_42 : decode cX9_count 42 = .ok (.getfield 51, 3) := by decide +kernel
theorem dX9_count_45 : decode cX9_count 45 = .ok (.iload_n 1, 1) := by decide +kernel
theorem dX9_count_46 : decode cX9_count 46 = .ok (.iaload, 1) := by decide +kernel
theorem dX9_count_47 : decode cX9_count 47 = .ok (.ireturn, 1) := by decide +kernel
theorem dX9_count_48 : decode cX9_count 48 = .ok (.iload_n 1, 1) := by decide +kernel
theorem dX9_count_49 : decode cX9_count 49 = .ok (.tableswitch 73 5 11 #[43, 48, 53, 58, 63, 63, 63], 43) := by decide +kernel
theorem dX9_count_92 : decode cX9_count 92 = .ok (.aload_n 0, 1) := by decide +kernel
theorem dX9_count_93 : decode cX9_count 93 = .ok (.getfield 310, 3) := by decide +kernel
theorem dX9_count_96 : decode cX9_count 96 = .ok (.ireturn, 1) := by decide +kernel
theorem dX9_count_97 : decode cX9_count 97 = .ok (.aload_n 0, 1) := by decide +kernel
theorem dX9_count_98 : decode cX9_count 98 = .ok (.getfield 313, 3) := by decide +kernel
theorem dX9_count_101 : decode cX9_count 101 = .ok (.ireturn, 1) := by decide +kernel
theorem dX9_count_102 : decode cX9_count 102 = .ok (.aload_n 0, 1) := by decide +kernel
theorem dX9_count_103 : decode cX9_count 103 = .ok (.getfield 316, 3) := by decide +kernel
theorem dX9_count_106 : decode cX9_count 106 = .ok (.ireturn, 1) := by decide +kernel
theorem dX9_count_107 : decode cX9_count 107 = .ok (.aload_n 0, 1) := by decide +kernel
theorem dX9_count_108 : decode cX9_count 108 = .ok (.getfield 164, 3) := by decide +kernel
theorem dX9_count_111 : decode cX9_count 111 = .ok (.ireturn, 1) := by decide +kernel
theorem dX9_count_112 : decode cX9_count 112 = .ok (.aload_n 0, 1) := by decide +kernel
theorem dX9_count_113 : decode cX9_count 113 = .ok (.getfield 70, 3) := by decide +kernel
theorem dX9_count_116 : decode cX9_count 116 = .ok (.iload_n 1, 1) := by decide +kernel
theorem dX9_count_117 : decode cX9_count 117 = .ok (.bipush 9, 2) := by decide +kernel
theorem dX9_count_119 : decode cX9_count 119 = .ok (.isub, 1) := by decide +kernel
theorem dX9_count_120 : decode cX9_count 120 = .ok (.iaload, 1) := by decide +kernel
theorem dX9_count_121 : decode cX9_count 121 = .ok (.ireturn, 1) := by decide +kernel
theorem dX9_count_122 : decode cX9_count 122 = .ok (.aload_n 0, 1) := by decide +kernel
theorem dX9_count_123 : decode cX9_count 123 = .ok (.iconst 1, 1) := by decide +kernel
theorem dX9_count_124 : decode cX9_count 124 = .ok (.invokevirtual 297, 3) := by decide +kernel
theorem dX9_count_127 : decode cX9_count 127 = .ok (.ireturn, 1) := by decide +kernel
theorem dX9_isle_0 : decode cX9_isle 0 = .ok (.aload_n 0, 1) := by decide +kernel
theorem dX9_isle_1 : decode cX9_isle 1 = .ok (.iconst 0, 1) := by decide +kernel
theorem dX9_isle_2 : decode cX9_isle 2 = .ok (.putfield 155, 3) := by decide +kernel
theorem dX9_isle_5 : decode cX9_isle 5 = .ok (.aload_n 0, 1) := by decide +kernel
theorem dX9_isle_6 : decode cX9_isle 6 = .ok (.iload_n 1, 1) := by decide +kernel
theorem dX9_isle_7 : decode cX9_isle 7 = .ok (.invokevirtual 384, 3) := by decide +kernel
theorem dX9_isle_10 : decode cX9_isle 10 = .ok (.ifCond .eq 15, 3) := by decide +kernel
theorem dX9_isle_13 : decode cX9_isle 13 = .ok (.iload_n 2, 1) := by decide +kernel
theorem dX9_isle_14 : decode cX9_isle 14 = .ok (.i2l, 1) := by decide +kernel
theorem dX9_isle_15 : decode cX9_isle 15 = .ok (.lconst 0, 1) := by decide +kernel
theorem dX9_isle_16 : decode cX9_isle 16 = .ok (.ldc2_w 387, 3) := by decide +kernel
theorem dX9_isle_19 : decode cX9_isle 19 = .ok (.invokestatic 158, 3) := by decide +kernel
theorem dX9_isle_22 : decode cX9_isle 22 = .ok (.ifCond .ne 9, 3) := by decide +kernel
theorem dX9_isle_25 : decode cX9_isle 25 = .ok (.aload_n 0, 1) := by decide +kernel
theorem dX9_isle_26 : decode cX9_isle 26 = .ok (.iconst 1, 1) := by decide +kernel
theorem dX9_isle_27 : decode cX9_isle 27 = .ok (.invokevirtual 297, 3) := by decide +kernel
theorem dX9_isle_30 : decode cX9_isle 30 = .ok (.ireturn, 1) := by decide +kernel
theorem dX9_isle_31 : decode cX9_isle 31 = .ok (.iload_n 2, 1) := by decide +kernel
theorem dX9_isle_32 : decode cX9_isle 32 = .ok (.bipush 10, 2) := by decide +kernel
theorem dX9_isle_34 : decode cX9_isle 34 = .ok (.if_icmp .ge 12, 3) := by decide +kernel
theorem dX9_isle_37 : decode cX9_isle 37 = .ok (.aload_n 0, 1) := by decide +kernel
theorem dX9_isle_38 : decode cX9_isle 38 = .ok (.iload_n 1, 1) := by decide +kernel
theorem dX9_isle_39 : decode cX9_isle 39 = .ok (.iload_n 2, 1) := by decide +kernel
theorem dX9_isle_40 : decode cX9_isle 40 = .ok (.invokevirtual 330, 3) := by decide +kernel
theorem dX9_isle_43 : decode cX9_isle 43 = .ok (.goto 47, 3) := by decide +kernel
theorem dX9_isle_46 : decode cX9_isle 46 = .ok (.iload_n 2, 1) := by decide +kernel
theorem dX9_isle_47 : decode cX9_isle 47 = .ok (.bipush 10, 2) := by decide +kernel
theorem dX9_isle_49 : decode cX9_isle 49 = .ok (.if_icmp .ne 11, 3) := by decide +kernel
theorem dX9_isle_52 : decode cX9_isle 52 = .ok (.aload_n 0, 1) := by decide +kernel
theorem dX9_isle_53 : decode cX9_isle 53 = .ok (.iload_n 1, 1) := by decide +kernel
theorem dX9_isle_54 : decode cX9_isle 54 = .ok (.invokevirtual 336, 3) := by decide +kernel
theorem dX9_isle_57 : decode cX9_isle 57 = .ok (.goto 33, 3) := by decide +kernel
theorem dX9_isle_60 : decode cX9_isle 60 = .ok (.iload_n 2, 1) := by decide +kernel
theorem dX9_isle_61 : decode cX9_isle 61 = .ok (.bipush 11, 2) := by decide +kernel
theorem dX9_isle_63 : decode cX9_isle 63 = .ok (.if_icmp .ne 19, 3) := by decide +kernel
theorem dX9_isle_66 : decode cX9_isle 66 = .ok (.aload_n 0, 1) := by decide +kernel
theorem dX9_isle_67 : decode cX9_isle 67 = .ok (.iload_n 1, 1) := by decide +kernel
theorem dX9_isle_68 : decode cX9_isle 68 = .ok (.invokevirtual 351, 3) := by decide +kernel
theorem dX9_isle_71 : decode cX9_isle 71 = .ok (.ifCond .eq 7, 3) := by decide +kernel
theorem dX9_isle_74 : decode cX9_isle 74 = .ok (.iconst 1, 1) := by decide +kernel
theorem dX9_isle_75 : decode cX9_isle 75 = .ok (.goto 15, 3) := by decide +kernel
theorem dX9_isle_78 : decode cX9_isle 78 = .ok (.iconst 0, 1) := by decide +kernel
theorem dX9_isle_79 : decode cX9_isle 79 = .ok (.goto 11, 3) := by decide +kernel
theorem dX9_isle_82 : decode cX9_isle 82 = .ok (.aload_n 0, 1) := by decide +kernel
theorem dX9_isle_83 : decode cX9_isle 83 = .ok (.iload_n 1, 1) := by decide +kernel
theorem dX9_isle_84 : decode cX9_isle 84 = .ok (.iload_n 2, 1) := by decide +kernel
theorem dX9_isle_85 : decode cX9_isle 85 = .ok (.iconst 2, 1) := by decide +kernel
theorem dX9_isle_86 : decode cX9_isle 86 = .ok (.isub, 1) := by decide +kernel
theorem dX9_isle_87 : decode cX9_isle 87 = .ok (.invokevirtual 330, 3) := by decide +kernel
theorem dX9_isle_90 : decode cX9_isle 90 = .ok (.ireturn, 1) := by decide +kernel
theorem dX9_wind_0 : decode cX9_wind 0 = .ok (.aload_n 0, 1) := by decide +kernel
theorem dX9_wind_1 : decode cX9_wind 1 = .ok (.iconst 0, 1) := by decide +kernel
theorem dX9_wind_2 : decode cX9_wind 2 = .ok (.putfield 155, 3) := by decide +kernel
theorem dX9_wind_5 : decode cX9_wind 5 = .ok (.iload_n 1, 1) := by decide +kernel
theorem dX9_wind_6 : decode cX9_wind 6 = .ok (.invokestatic 389, 3) := by decide +kernel
theorem dX9_wind_9 : decode cX9_wind 9 = .ok (.ifCond .eq 12, 3) := by decide +kernel
theorem dX9_wind_12 : decode cX9_wind 12 = .ok (.iload_n 2, 1) := by decide +kernel
theorem dX9_wind_13 : decode cX9_wind 13 = .ok (.ifCond .lt 8, 3) := by decide +kernel
theorem dX9_wind_16 : decode cX9_wind 16 = .ok (.iload_n 2, 1) := by decide +kernel
theorem dX9_wind_17 : decode cX9_wind 17 = .ok (.iconst 1, 1) := by decide +kernel
theorem dX9_wind_18 : decode cX9_wind 18 = .ok (.if_icmp .le 9, 3) := by decide +kernel
theorem dX9_wind_21 : decode cX9_wind 21 = .ok (.aload_n 0, 1) := by decide +kernel
theorem dX9_wind_22 : decode cX9_wind 22 = .ok (.iconst 1, 1) := by decide +kernel
theorem dX9_wind_23 : decode cX9_wind 23 = .ok (.invokevirtual 297, 3) := by decide +kernel
theorem dX9_wind_26 : decode cX9_wind 26 = .ok (.ireturn, 1) := by decide +kernel
theorem dX9_wind_27 : decode cX9_wind 27 = .ok (.aload_n 0, 1) := by decide +kernel
theorem dX9_wind_28 : decode cX9_wind 28 = .ok (.iload_n 1, 1) := by decide +kernel
theorem dX9_wind_29 : decode cX9_wind 29 = .ok (.invokevirtual 360, 3) := by decide +kernel
theorem dX9_wind_32 : decode cX9_wind 32 = .ok (.iload_n 2, 1) := by decide +kernel
theorem dX9_wind_33 : decode cX9_wind 33 = .ok (.ifCond .ne 10, 3) := by decide +kernel
theorem dX9_wind_36 : decode cX9_wind 36 = .ok (.aload_n 0, 1) := by decide +kernel
theorem dX9_wind_37 : decode cX9_wind 37 = .ok (.getfield 345, 3) := by decide +kernel
theorem dX9_wind_40 : decode cX9_wind 40 = .ok (.goto 7, 3) := by decide +kernel
theorem dX9_wind_43 : decode cX9_wind 43 = .ok (.aload_n 0, 1) := by decide +kernel
theorem dX9_wind_44 : decode cX9_wind 44 = .ok (.getfield 348, 3) := by decide +kernel
theorem dX9_wind_47 : decode cX9_wind 47 = .ok (.ireturn, 1) := by decide +kernel
theorem dX9_leaning_0 : decode cX9_leaning 0 = .ok (.iload_n 2, 1) := by decide +kernel
theorem dX9_leaning_1 : decode cX9_leaning 1 = .ok (.sipush 154, 3) := by decide +kernel
theorem dX9_leaning_4 : decode cX9_leaning 4 = .ok (.if_icmp .eq 10, 3) := by decide +kernel
theorem dX9_leaning_7 : decode cX9_leaning 7 = .ok (.iload_n 2, 1) := by decide +kernel
theorem dX9_leaning_8 : decode cX9_leaning 8 = .ok (.sipush 155, 3) := by decide +kernel
theorem dX9_leaning_11 : decode cX9_leaning 11 = .ok (.if_icmp .ne 11, 3) := by decide +kernel
theorem dX9_leaning_14 : decode cX9_leaning 14 = .ok (.aload_n 0, 1) := by decide +kernel
theorem dX9_leaning_15 : decode cX9_leaning 15 = .ok (.iload_n 1, 1) := by decide +kernel
theorem dX9_leaning_16 : decode cX9_leaning 16 = .ok (.bipush 6, 2) := by decide +kernel
theorem dX9_leaning_18 : decode cX9_leaning 18 = .ok (.invokevirtual 330, 3) := by decide +kernel
theorem dX9_leaning_21 : decode cX9_leaning 21 = .ok (.ireturn, 1) := by decide +kernel
theorem dX9_leaning_22 : decode cX9_leaning 22 = .ok (.aload_n 0, 1) := by decide +kernel
theorem dX9_leaning_23 : decode cX9_leaning 23 = .ok (.iload_n 1, 1) := by decide +kernel
theorem dX9_leaning_24 : decode cX9_leaning 24 = .ok (.bipush 11, 2) := by decide +kernel
theorem dX9_leaning_26 : decode cX9_leaning 26 = .ok (.invokevirtual 330, 3) := by decide +kernel
theorem dX9_leaning_29 : decode cX9_leaning 29 = .ok (.aload_n 0, 1) := by decide +kernel
theorem dX9_leaning_30 : decode cX9_leaning 30 = .ok (.iload_n 1, 1) := by decide +kernel
theorem dX9_leaning_31 : decode cX9_leaning 31 = .ok (.bipush 13, 2) := by decide +kernel
theorem dX9_leaning_33 : decode cX9_leaning 33 = .ok (.invokevirtual 330, 3) := by decide +kernel
theorem dX9_leaning_36 : decode cX9_leaning 36 = .ok (.isub, 1) := by decide +kernel
theorem dX9_leaning_37 : decode cX9_leaning 37 = .ok (.invokestatic 357, 3) := by decide +kernel
theorem dX9_leaning_40 : decode cX9_leaning 40 = .ok (.aload_n 0, 1) := by decide +kernel
theorem dX9_leaning_41 : decode cX9_leaning 41 = .ok (.iload_n 1, 1) := by decide +kernel
theorem dX9_leaning_42 : decode cX9_leaning 42 = .ok (.bipush 10, 2) := by decide +kernel
theorem dX9_leaning_44 : decode cX9_leaning 44 = .ok (.invokevirtual 330, 3) := by decide +kernel
theorem dX9_leaning_47 : decode cX9_leaning 47 = .ok (.aload_n 0, 1) := by decide +kernel
theorem dX9_leaning_48 : decode cX9_leaning 48 = .ok (.iload_n 1, 1) := by decide +kernel
theorem dX9_leaning_49 : decode cX9_leaning 49 = .ok (.bipush 12, 2) := by decide +kernel
theorem dX9_leaning_51 : decode cX9_leaning 51 = .ok (.invokevirtual 330, 3) := by decide +kernel
theorem dX9_leaning_54 : decode cX9_leaning 54 = .ok (.isub, 1) := by decide +kernel
theorem dX9_leaning_55 : decode cX9_leaning 55 = .ok (.invokestatic 357, 3) := by decide +kernel
theorem dX9_leaning_58 : decode cX9_leaning 58 = .ok (.invokestatic 333, 3) := by decide +kernel
theorem dX9_leaning_61 : decode cX9_leaning 61 = .ok (.ireturn, 1) := by decide +kernel
theorem dX9_where_0 : decode cX9_where 0 = .ok (.aload_n 0, 1) := by decide +kernel
theorem dX9_where_1 : decode cX9_where 1 = .ok (.iconst 0, 1) := by decide +kernel
theorem dX9_where_2 : decode cX9_where 2 = .ok (.putfield 155, 3) := by decide +kernel
theorem dX9_where_5 : decode cX9_where 5 = .ok (.aload_n 0, 1) := by decide +kernel
theorem dX9_where_6 : decode cX9_where 6 = .ok (.iload_n 1, 1) := by decide +kernel
theorem dX9_where_7 : decode cX9_where 7 = .ok (.invokevirtual 384, 3) := by decide +kernel
theorem dX9_where_10 : decode cX9_where 10 = .ok (.ifCond .eq 22, 3) := by decide +kernel
theorem dX9_where_13 : decode cX9_where 13 = .ok (.iload_n 2, 1) := by decide +kernel
theorem dX9_where_14 : decode cX9_where 14 = .ok (.invokestatic 389, 3) := by decide +kernel
theorem dX9_where_17 : decode cX9_where 17 = .ok (.ifCond .eq 15, 3) := by decide +kernel
theorem dX9_where_20 : decode cX9_where 20 = .ok (.iload_n 3, 1) := by decide +kernel
theorem dX9_where_21 : decode cX9_where 21 = .ok (.i2l, 1) := by decide +kernel
theorem dX9_where_22 : decode cX9_where 22 = .ok (.lconst 0, 1) := by decide +kernel
theorem dX9_where_23 : decode cX9_where 23 = .ok (.ldc2_w 382, 3) := by decide +kernel
theorem dX9_where_26 : decode cX9_where 26 = .ok (.invokestatic 158, 3) := by decide +kernel
theorem dX9_where_29 : decode cX9_where 29 = .ok (.ifCond .ne 9, 3) := by decide +kernel
theorem dX9_where_32 : decode cX9_where 32 = .ok (.aload_n 0, 1) := by decide +kernel
theorem dX9_where_33 : decode cX9_where 33 = .ok (.iconst 1, 1) := by decide +kernel
theorem dX9_where_34 : decode cX9_where 34 = .ok (.invokevirtual 297, 3) := by decide +kernel
theorem dX9_where_37 : decode cX9_where 37 = .ok (.ireturn, 1) := by decide +kernel
theorem dX9_where_38 : decode cX9_where 38 = .ok (.aload_n 0, 1) := by decide +kernel
theorem dX9_where_39 : decode cX9_where 39 = .ok (.iload_n 2, 1) := by decide +kernel
theorem dX9_where_40 : decode cX9_where 40 = .ok (.iconst 0, 1) := by decide +kernel
theorem dX9_where_41 : decode cX9_where 41 = .ok (.invokevirtual 392, 3) := by decide +kernel
theorem dX9_where_44 : decode cX9_where 44 = .ok (.iload_n 3, 1) := by decide +kernel
theorem dX9_where_45 : decode cX9_where 45 = .ok (.ifCond .ne 12, 3) := by decide +kernel
theorem dX9_where_48 : decode cX9_where 48 = .ok (.aload_n 0, 1) := by decide +kernel
theorem dX9_where_49 : decode cX9_where 49 = .ok (.getfield 86, 3) := by decide +kernel
theorem dX9_where_52 : decode cX9_where 52 = .ok (.iload_n 1, 1) := by decide +kernel
theorem dX9_where_53 : decode cX9_where 53 = .ok (.iaload, 1) := by decide +kernel
theorem dX9_where_54 : decode cX9_where 54 = .ok (.goto 64, 3) := by decide +kernel
theorem dX9_where_57 : decode cX9_where 57 = .ok (.iload_n 3, 1) := by decide +kernel
theorem dX9_where_58 : decode cX9_where 58 = .ok (.iconst 1, 1) := by decide +kernel
theorem dX9_where_59 : decode cX9_where 59 = .ok (.if_icmp .ne 12, 3) := by decide +kernel
theorem dX9_where_62 : decode cX9_where 62 = .ok (.aload_n 0, 1) := by decide +kernel
theorem dX9_where_63 : decode cX9_where 63 = .ok (.getfield 89, 3) := by decide +kernel
theorem dX9_where_66 : decode cX9_where 66 = .ok (.iload_n 1, 1) := by decide +kernel
theorem dX9_where_67 : decode cX9_where 67 = .ok (.iaload, 1) := by decide +kernel
theorem dX9_where_68 : decode cX9_where 68 = .ok (.goto 50, 3) := by decide +kernel
theorem dX9_where_71 : decode cX9_where 71 = .ok (.iload_n 3, 1) := by decide +kernel
theorem dX9_where_72 : decode cX9_where 72 = .ok (.iconst 2, 1) := by decide +kernel
theorem dX9_where_73 : decode cX9_where 73 = .ok (.if_icmp .ne 12, 3) := by decide +kernel
theorem dX9_where_76 : decode cX9_where 76 = .ok (.aload_n 0, 1) := by decide +kernel
theorem dX9_where_77 : decode cX9_where 77 = .ok (.getfield 92, 3) := by decide +kernel
theorem dX9_where_80 : decode cX9_where 80 = .ok (.iload_n 1, 1) := by decide +kernel
theorem dX9_where_81 : decode cX9_where 81 = .ok (.iaload, 1) := by decide +kernel
theorem dX9_where_82 : decode cX9_where 82 = .ok (.goto 36, 3) := by decide +kernel
theorem dX9_where_85 : decode cX9_where 85 = .ok (.iload_n 3, 1) := by decide +kernel
theorem dX9_where_86 : decode cX9_where 86 = .ok (.iconst 3, 1) := by decide +kernel
theorem dX9_where_87 : decode cX9_where 87 = .ok (.if_icmp .ne 25, 3) := by decide +kernel
theorem dX9_where_90 : decode cX9_where 90 = .ok (.aload_n 0, 1) := by decide +kernel
theorem dX9_where_91 : decode cX9_where 91 = .ok (.iload_n 1, 1) := by decide +kernel
theorem dX9_where_92 : decode cX9_where 92 = .ok (.invokevirtual 351, 3) := by decide +kernel
theorem dX9_where_95 : decode cX9_where 95 = .ok (.ifCond .eq 13, 3) := by decide +kernel
theorem dX9_where_98 : decode cX9_where 98 = .ok (.aload_n 0, 1) := by decide +kernel
theorem dX9_where_99 : decode cX9_where 99 = .ok (.iload_n 1, 1) := by decide +kernel
theorem dX9_where_100 : decode cX9_where 100 = .ok (.iload_n 2, 1) := by decide +kernel
theorem dX9_where_101 : decode cX9_where 101 = .ok (.iconst 0, 1) := by decide +kernel
theorem dX9_where_102 : decode cX9_where 102 = .ok (.invokevirtual 354, 3) := by decide +kernel
theorem dX9_where_105 : decode cX9_where 105 = .ok (.goto 13, 3) := by decide +kernel
theorem dX9_where_108 : decode cX9_where 108 = .ok (.iconst 0, 1) := by decide +kernel
theorem dX9_where_109 : decode cX9_where 109 = .ok (.goto 9, 3) := by decide +kernel
theorem dX9_where_112 : decode cX9_where 112 = .ok (.aload_n 0, 1) := by decide +kernel
theorem dX9_where_113 : decode cX9_where 113 = .ok (.iload_n 1, 1) := by decide +kernel
theorem dX9_where_114 : decode cX9_where 114 = .ok (.iload_n 2, 1) := by decide +kernel
theorem dX9_where_115 : decode cX9_where 115 = .ok (.invokevirtual 396, 3) := by decide +kernel
theorem dX9_where_118 : decode cX9_where 118 = .ok (.ireturn, 1) := by decide +kernel
theorem dX9_between_0 : decode cX9_between 0 = .ok (.aload_n 0, 1) := by decide +kernel
theorem dX9_between_1 : decode cX9_between 1 = .ok (.iconst 0, 1) := by decide +kernel
theorem dX9_between_2 : decode cX9_between 2 = .ok (.putfield 155, 3) := by decide +kernel
theorem dX9_between_5 : decode cX9_between 5 = .ok (.aload_n 0, 1) := by decide +kernel
theorem dX9_between_6 : decode cX9_between 6 = .ok (.iload_n 1, 1) := by decide +kernel
theorem dX9_between_7 : decode cX9_between 7 = .ok (.invokevirtual 384, 3) := by decide +kernel
theorem dX9_between_10 : decode cX9_between 10 = .ok (.ifCond .eq 31, 3) := by decide +kernel
theorem dX9_between_13 : decode cX9_between 13 = .ok (.aload_n 0, 1) := by decide +kernel
theorem dX9_between_14 : decode cX9_between 14 = .ok (.iload_n 2, 1) := by decide +kernel
theorem dX9_between_15 : decode cX9_between 15 = .ok (.invokevirtual 384, 3) := by decide +kernel
theorem dX9_between_18 : decode cX9_between 18 = .ok (.ifCond .eq 23, 3) := by decide +kernel
theorem dX9_between_21 : decode cX9_between 21 = .ok (.iload_n 3, 1) := by decide +kernel
theorem dX9_between_22 : decode cX9_between 22 = .ok (.invokestatic 389, 3) := by decide +kernel
theorem dX9_between_25 : decode cX9_between 25 = .ok (.ifCond .eq 16, 3) := by decide +kernel
theorem dX9_between_28 : decode cX9_between 28 = .ok (.iload 4, 2) := by decide +kernel
theorem dX9_between_30 : decode cX9_between 30 = .ok (.i2l, 1) := by decide +kernel
theorem dX9_between_31 : decode cX9_between 31 = .ok (.lconst 0, 1) := by decide +kernel
theorem dX9_between_32 : decode cX9_between 32 = .ok (.ldc2_w 399, 3) := by decide +kernel
theorem dX9_between_35 : decode cX9_between 35 = .ok (.invokestatic 158, 3) := by decide +kernel
theorem dX9_between_38 : decode cX9_between 38 = .ok (.ifCond .ne 10, 3) := by decide +kernel
theorem dX9_between_41 : decode cX9_between 41 = .ok (.aload_n 0, 1) := by decide +kernel
theorem dX9_between_42 : decode cX9_between 42 = .ok (.iconst 1, 1) := by decide +kernel
theorem dX9_between_43 : decode cX9_between 43 = .ok (.putfield 155, 3) := by decide +kernel
theorem dX9_between_46 : decode cX9_between 46 = .ok (.iconst 0, 1) := by decide +kernel
theorem dX9_between_47 : decode cX9_between 47 = .ok (.ireturn, 1) := by decide +kernel
theorem dX9_between_48 : decode cX9_between 48 = .ok (.iload_n 1, 1) := by decide +kernel
theorem dX9_between_49 : decode cX9_between 49 = .ok (.iload_n 2, 1) := by decide +kernel
theorem dX9_between_50 : decode cX9_between 50 = .ok (.if_icmp .ne 10, 3) := by decide +kernel
theorem dX9_between_53 : decode cX9_between 53 = .ok (.aload_n 0, 1) := by decide +kernel
theorem dX9_between_54 : decode cX9_between 54 = .ok (.iconst 2, 1) := by decide +kernel
theorem dX9_between_55 : decode cX9_between 55 = .ok (.putfield 155, 3) := by decide +kernel
theorem dX9_between_58 : decode cX9_between 58 = .ok (.iconst 0, 1) := by decide +kernel
theorem dX9_between_59 : decode cX9_between 59 = .ok (.ireturn, 1) := by decide +kernel
theorem dX9_between_60 : decode cX9_between 60 = .ok (.aload_n 0, 1) := by decide +kernel
theorem dX9_between_61 : decode cX9_between 61 = .ok (.iload_n 3, 1) := by decide +kernel
theorem dX9_between_62 : decode cX9_between 62 = .ok (.iconst 0, 1) := by decide +kernel
theorem dX9_between_63 : decode cX9_between 63 = .ok (.invokevirtual 392, 3) := by decide +kernel
theorem dX9_between_66 : decode cX9_between 66 = .ok (.iload 4, 2) := by decide +kernel
theorem dX9_between_68 : decode cX9_between 68 = .ok (.ifCond .ne 13, 3) := by decide +kernel
theorem dX9_between_71 : decode cX9_between 71 = .ok (.aload_n 0, 1) := by decide +kernel
theorem dX9_between_72 : decode cX9_between 72 = .ok (.iload_n 1, 1) := by decide +kernel
theorem dX9_between_73 : decode cX9_between 73 = .ok (.iload_n 2, 1) := by decide +kernel
theorem dX9_between_74 : decode cX9_between 74 = .ok (.iconst 0, 1) := by decide +kernel
theorem dX9_between_75 : decode cX9_between 75 = .ok (.invokevirtual 367, 3) := by decide +kernel
theorem dX9_between_78 : decode cX9_between 78 = .ok (.goto 39, 3) := by decide +kernel
theorem dX9_between_81 : decode cX9_between 81 = .ok (.iload 4, 2) := by decide +kernel
theorem dX9_between_83 : decode cX9_between 83 = .ok (.iconst 1, 1) := by decide +kernel
theorem dX9_between_84 : decode cX9_between 84 = .ok (.if_icmp .ne 12, 3) := by decide +kernel
theorem dX9_between_87 : decode cX9_between 87 = .ok (.aload_n 0, 1) := by decide +kernel
theorem dX9_between_88 : decode cX9_between 88 = .ok (.iload_n 1, 1) := by decide +kernel
theorem dX9_between_89 : decode cX9_between 89 = .ok (.iload_n 2, 1) := by decide +kernel
theorem dX9_between_90 : decode cX9_between 90 = .ok (.invokevirtual 371, 3) := by decide +kernel
theorem dX9_between_93 : decode cX9_between 93 = .ok (.goto 24, 3) := by decide +kernel
theorem dX9_between_96 : decode cX9_between 96 = .ok (.iload 4, 2) := by decide +kernel
theorem dX9_between_98 : decode cX9_between 98 = .ok (.iconst 2, 1) := by decide +kernel
theorem dX9_between_99 : decode cX9_between 99 = .ok (.if_icmp .ne 12, 3) := by decide +kernel
theorem dX9_between_102 : decode cX9_between 102 = .ok (.aload_n 0, 1) := by decide +kernel
theorem dX9_between_103 : decode cX9_between 103 = .ok (.iload_n 1, 1) := by decide +kernel
theorem dX9_between_104 : decode cX9_between 104 = .ok (.iload_n 2, 1) := by decide +kernel
theorem dX9_between_105 : decode cX9_between 105 = .ok (.invokevirtual 375, 3) := by decide +kernel
theorem dX9_between_108 : decode cX9_between 108 = .ok (.goto 9, 3) := by decide +kernel
theorem dX9_between_111 : decode cX9_between 111 = .ok (.aload_n 0, 1) := by decide +kernel
theorem dX9_between_112 : decode cX9_between 112 = .ok (.iload_n 1, 1) := by decide +kernel
theorem dX9_between_113 : decode cX9_between 113 = .ok (.iload_n 2, 1) := by decide +kernel
theorem dX9_between_114 : decode cX9_between 114 = .ok (.invokevirtual 401, 3) := by decide +kernel
theorem dX9_between_117 : decode cX9_between 117 = .ok (.ireturn, 1) := by decide +kernel
theorem dX9_rain_0 : decode cX9_rain 0 = .ok (.aload_n 0, 1) := by decide +kernel
theorem dX9_rain_1 : decode cX9_rain 1 = .ok (.iconst 0, 1) := by decide +kernel
theorem dX9_rain_2 : decode cX9_rain 2 = .ok (.putfield 155, 3) := by decide +kernel
theorem dX9_rain_5 : decode cX9_rain 5 = .ok (.aload_n 0, 1) := by decide +kernel
theorem dX9_rain_6 : decode cX9_rain 6 = .ok (.iload_n 1, 1) := by decide +kernel
theorem dX9_rain_7 : decode cX9_rain 7 = .ok (.invokevirtual 384, 3) := by decide +kernel
theorem dX9_rain_10 : decode cX9_rain 10 = .ok (.ifCond .eq 10, 3) := by decide +kernel
theorem dX9_rain_13 : decode cX9_rain 13 = .ok (.iload_n 2, 1) := by decide +kernel
theorem dX9_rain_14 : decode cX9_rain 14 = .ok (.invokestatic 389, 3) := by decide +kernel
theorem dX9_rain_17 : decode cX9_rain 17 = .ok (.ifCond .ne 9, 3) := by decide +kernel
theorem dX9_rain_20 : decode cX9_rain 20 = .ok (.aload_n 0, 1) := by decide +kernel
theorem dX9_rain_21 : decode cX9_rain 21 = .ok (.iconst 1, 1) := by decide +kernel
theorem dX9_rain_22 : decode cX9_rain 22 = .ok (.invokevirtual 297, 3) := by decide +kernel
theorem dX9_rain_25 : decode cX9_rain 25 = .ok (.ireturn, 1) := by decide +kernel
theorem dX9_rain_26 : decode cX9_rain 26 = .ok (.aload_n 0, 1) := by decide +kernel
theorem dX9_rain_27 : decode cX9_rain 27 = .ok (.iload_n 2, 1) := by decide +kernel
theorem dX9_rain_28 : decode cX9_rain 28 = .ok (.iconst 0, 1) := by decide +kernel
theorem dX9_rain_29 : decode cX9_rain 29 = .ok (.invokevirtual 392, 3) := by decide +kernel
theorem dX9_rain_32 : decode cX9_rain 32 = .ok (.aload_n 0, 1) := by decide +kernel
theorem dX9_rain_33 : decode cX9_rain 33 = .ok (.iload_n 1, 1) := by decide +kernel
theorem dX9_rain_34 : decode cX9_rain 34 = .ok (.invokevirtual 404, 3) := by decide +kernel
theorem dX9_rain_37 : decode cX9_rain 37 = .ok (.ireturn, 1) := by decide +kernel
theorem dX9_keep_0 : decode cX9_keep 0 = .ok (.bipush 84, 2) := by decide +kernel
theorem dX9_keep_2 : decode cX9_keep 2 = .ok (.istore_n 1, 1) := by decide +kernel
theorem dX9_keep_3 : decode cX9_keep 3 = .ok (.aload_n 0, 1) := by decide +kernel
theorem dX9_keep_4 : decode cX9_keep 4 = .ok (.getfield 310, 3) := by decide +kernel
theorem dX9_keep_7 : decode cX9_keep 7 = .ok (.bipush 40, 2) := by decide +kernel
theorem dX9_keep_9 : decode cX9_keep 9 = .ok (.if_icmp .ne 44, 3) := by decide +kernel
theorem dX9_keep_12 : decode cX9_keep 12 = .ok (.iload_n 1, 1) := by decide +kernel
theorem dX9_keep_13 : decode cX9_keep 13 = .ok (.istore_n 2, 1) := by decide +kernel
theorem dX9_keep_14 : decode cX9_keep 14 = .ok (.iload_n 2, 1) := by decide +kernel
theorem dX9_keep_15 : decode cX9_keep 15 = .ok (.aload_n 0, 1) := by decide +kernel
theorem dX9_keep_16 : decode cX9_keep 16 = .ok (.getfield 95, 3) := by decide +kernel
theorem dX9_keep_19 : decode cX9_keep 19 = .ok (.arraylength, 1) := by decide +kernel
theorem dX9_keep_20 : decode cX9_keep 20 = .ok (.if_icmp .ge 23, 3) := by decide +kernel
theorem dX9_keep_23 : decode cX9_keep 23 = .ok (.aload_n 0, 1) := by decide +kernel
theorem dX9_keep_24 : decode cX9_keep 24 = .ok (.getfield 95, 3) := by decide +kernel
theorem dX9_keep_27 : decode cX9_keep 27 = .ok (.iload_n 2, 1) := by decide +kernel
theorem dX9_keep_28 : decode cX9_keep 28 = .ok (.iload_n 1, 1) := by decide +kernel
theorem dX9_keep_29 : decode cX9_keep 29 = .ok (.isub, 1) := by decide +kernel
theorem dX9_keep_30 : decode cX9_keep 30 = .ok (.aload_n 0, 1) := by decide +kernel
theorem dX9_keep_31 : decode cX9_keep 31 = .ok (.getfield 95, 3) := by decide +kernel
theorem dX9_keep_34 : decode cX9_keep 34 = .ok (.iload_n 2, 1) := by decide +kernel
theorem dX9_keep_35 : decode cX9_keep 35 = .ok (.iaload, 1) := by decide +kernel
theorem dX9_keep_36 : decode cX9_keep 36 = .ok (.iastore, 1) := by decide +kernel
theorem dX9_keep_37 : decode cX9_keep 37 = .ok (.iinc 2 1, 3) := by decide +kernel
theorem dX9_keep_40 : decode cX9_keep 40 = .ok (.goto (-26), 3) := by decide +kernel
theorem dX9_keep_43 : decode cX9_keep 43 = .ok (.aload_n 0, 1) := by decide +kernel
theorem dX9_keep_44 : decode cX9_keep 44 = .ok (.dup, 1) := by decide +kernel
theorem dX9_keep_45 : decode cX9_keep 45 = .ok (.getfield 310, 3) := by decide +kernel
theorem dX9_keep_48 : decode cX9_keep 48 = .ok (.iconst 1, 1) := by decide +kernel
theorem dX9_keep_49 : decode cX9_keep 49 = .ok (.isub, 1) := by decide +kernel
theorem dX9_keep_50 : decode cX9_keep 50 = .ok (.putfield 310, 3) := by decide +kernel
theorem dX9_keep_53 : decode cX9_keep 53 = .ok (.iconst 0, 1) := by decide +kernel
theorem dX9_keep_54 : decode cX9_keep 54 = .ok (.istore_n 2, 1) := by decide +kernel
theorem dX9_keep_55 : decode cX9_keep 55 = .ok (.iload_n 2, 1) := by decide +kernel
theorem dX9_keep_56 : decode cX9_keep 56 = .ok (.iload_n 1, 1) := by decide +kernel
theorem dX9_keep_57 : decode cX9_keep 57 = .ok (.if_icmp .ge 28, 3) := by decide +kernel
theorem dX9_keep_60 : decode cX9_keep 60 = .ok (.aload_n 0, 1) := by decide +kernel
theorem dX9_keep_61 : decode cX9_keep 61 = .ok (.getfield 95, 3) := by decide +kernel
theorem dX9_keep_64 : decode cX9_keep 64 = .ok (.iload_n 1, 1) := by decide +kernel
theorem dX9_keep_65 : decode cX9_keep 65 = .ok (.aload_n 0, 1) := by decide +kernel
theorem dX9_keep_66 : decode cX9_keep 66 = .ok (.getfield 310, 3) := by decide +kernel
theorem dX9_keep_69 : decode cX9_keep 69 = .ok (.imul, 1) := by decide +kernel
theorem dX9_keep_70 : decode cX9_keep 70 = .ok (.iload_n 2, 1) := by decide +kernel
theorem dX9_keep_71 : decode cX9_keep 71 = .ok (.iadd, 1) := by decide +kernel
theorem dX9_keep_72 : decode cX9_keep 72 = .ok (.aload_n 0, 1) := by decide +kernel
theorem dX9_keep_73 : decode cX9_keep 73 = .ok (.getfield 55, 3) := by decide +kernel
theorem dX9_keep_76 : decode cX9_keep 76 = .ok (.iload_n 2, 1) := by decide +kernel
theorem dX9_keep_77 : decode cX9_keep 77 = .ok (.iaload, 1) := by decide +kernel
theorem dX9_keep_78 : decode cX9_keep 78 = .ok (.iastore, 1) := by decide +kernel
theorem dX9_keep_79 : decode cX9_keep 79 = .ok (.iinc 2 1, 3) := by decide +kernel
theorem dX9_keep_82 : decode cX9_keep 82 = .ok (.goto (-27), 3) := by decide +kernel
theorem dX9_keep_85 : decode cX9_keep 85 = .ok (.aload_n 0, 1) := by decide +kernel
theorem dX9_keep_86 : decode cX9_keep 86 = .ok (.dup, 1) := by decide +kernel
theorem dX9_keep_87 : decode cX9_keep 87 = .ok (.getfield 310, 3) := by decide +kernel
theorem dX9_keep_90 : decode cX9_keep 90 = .ok (.iconst 1, 1) := by decide +kernel
theorem dX9_keep_91 : decode cX9_keep 91 = .ok (.iadd, 1) := by decide +kernel
theorem dX9_keep_92 : decode cX9_keep 92 = .ok (.putfield 310, 3) := by decide +kernel
theorem dX9_keep_95 : decode cX9_keep 95 = .ok (.return_, 1) := by decide +kernel
theorem dX9_refuse_0 : decode cX9_refuse 0 = .ok (.aload_n 0, 1) := by decide +kernel
theorem dX9_refuse_1 : decode cX9_refuse 1 = .ok (.getfield 70, 3) := by decide +kernel
theorem dX9_refuse_4 : decode cX9_refuse 4 = .ok (.iload_n 1, 1) := by decide +kernel
theorem dX9_refuse_5 : decode cX9_refuse 5 = .ok (.dup2, 1) := by decide +kernel
theorem dX9_refuse_6 : decode cX9_refuse 6 = .ok (.iaload, 1) := by decide +kernel
theorem dX9_refuse_7 : decode cX9_refuse 7 = .ok (.iconst 1, 1) := by decide +kernel
theorem dX9_refuse_8 : decode cX9_refuse 8 = .ok (.iadd, 1) := by decide +kernel
theorem dX9_refuse_9 : decode cX9_refuse 9 = .ok (.iastore, 1) := by decide +kernel
theorem dX9_refuse_10 : decode cX9_refuse 10 = .ok (.iconst (-1), 1) := by decide +kernel
theorem dX9_refuse_11 : decode cX9_refuse 11 = .ok (.ireturn, 1) := by decide +kernel
theorem dX9_set_0 : decode cX9_set 0 = .ok (.aload_n 0, 1) := by decide +kernel
theorem dX9_set_1 : decode cX9_set 1 = .ok (.getfield 55, 3) := by decide +kernel
theorem dX9_set_4 : decode cX9_set 4 = .ok (.bipush 14, 2) := by decide +kernel
theorem dX9_set_6 : decode cX9_set 6 = .ok (.iload_n 1, 1) := by decide +kernel
theorem dX9_set_7 : decode cX9_set 7 = .ok (.imul, 1) := by decide +kernel
theorem dX9_set_8 : decode cX9_set 8 = .ok (.iload_n 2, 1) := by decide +kernel
theorem dX9_set_9 : decode cX9_set 9 = .ok (.iadd, 1) := by decide +kernel
theorem dX9_set_10 : decode cX9_set 10 = .ok (.iload_n 3, 1) := by decide +kernel
theorem dX9_set_11 : decode cX9_set 11 = .ok (.iastore, 1) := by decide +kernel
theorem dX9_set_12 : decode cX9_set 12 = .ok (.return_, 1) := by decide +kernel
theorem dX9_winch_0 : decode cX9_winch 0 = .ok (.aload_n 0, 1) := by decide +kernel
theorem dX9_winch_1 : decode cX9_winch 1 = .ok (.iconst 0, 1) := by decide +kernel
theorem dX9_winch_2 : decode cX9_winch 2 = .ok (.putfield 155, 3) := by decide +kernel
theorem dX9_winch_5 : decode cX9_winch 5 = .ok (.aload_n 0, 1) := by decide +kernel
theorem dX9_winch_6 : decode cX9_winch 6 = .ok (.iload_n 1, 1) := by decide +kernel
theorem dX9_winch_7 : decode cX9_winch 7 = .ok (.invokevirtual 384, 3) := by decide +kernel
theorem dX9_winch_10 : decode cX9_winch 10 = .ok (.ifCond .ne 9, 3) := by decide +kernel
theorem dX9_winch_13 : decode cX9_winch 13 = .ok (.aload_n 0, 1) := by decide +kernel
theorem dX9_winch_14 : decode cX9_winch 14 = .ok (.iconst 1, 1) := by decide +kernel
theorem dX9_winch_15 : decode cX9_winch 15 = .ok (.invokevirtual 297, 3) := by decide +kernel
theorem dX9_winch_18 : decode cX9_winch 18 = .ok (.ireturn, 1) := by decide +kernel
theorem dX9_winch_19 : decode cX9_winch 19 = .ok (.iload_n 2, 1) := by decide +kernel
theorem dX9_winch_20 : decode cX9_winch 20 = .ok (.i2l, 1) := by decide +kernel
theorem dX9_winch_21 : decode cX9_winch 21 = .ok (.lconst 1, 1) := by decide +kernel
theorem dX9_winch_22 : decode cX9_winch 22 = .ok (.ldc2_w 407, 3) := by decide +kernel
theorem dX9_winch_25 : decode cX9_winch 25 = .ok (.invokestatic 158, 3) := by decide +kernel
theorem dX9_winch_28 : decode cX9_winch 28 = .ok (.ifCond .ne 9, 3) := by decide +kernel
theorem dX9_winch_31 : decode cX9_winch 31 = .ok (.aload_n 0, 1) := by decide +kernel
theorem dX9_winch_32 : decode cX9_winch 32 = .ok (.iconst 1, 1) := by decide +kernel
theorem dX9_winch_33 : decode cX9_winch 33 = .ok (.invokevirtual 409, 3) := by decide +kernel
theorem dX9_winch_36 : decode cX9_winch 36 = .ok (.ireturn, 1) := by decide +kernel
theorem dX9_winch_37 : decode cX9_winch 37 = .ok (.aload_n 0, 1) := by decide +kernel
theorem dX9_winch_38 : decode cX9_winch 38 = .ok (.invokevirtual 412, 3) := by decide +kernel
theorem dX9_winch_41 : decode cX9_winch 41 = .ok (.aload_n 0, 1) := by decide +kernel
theorem dX9_winch_42 : decode cX9_winch 42 = .ok (.iload_n 1, 1) := by decide +kernel
theorem dX9_winch_43 : decode cX9_winch 43 = .ok (.iconst 3, 1) := by decide +kernel
theorem dX9_winch_44 : decode cX9_winch 44 = .ok (.invokevirtual 330, 3) := by decide +kernel
theorem dX9_winch_47 : decode cX9_winch 47 = .ok (.istore_n 3, 1) := by decide +kernel
theorem dX9_winch_48 : decode cX9_winch 48 = .ok (.aload_n 0, 1) := by decide +kernel
theorem dX9_winch_49 : decode cX9_winch 49 = .ok (.iload_n 1, 1) := by decide +kernel
theorem dX9_winch_50 : decode cX9_winch 50 = .ok (.iconst 3, 1) := by decide +kernel
theorem dX9_winch_51 : decode cX9_winch 51 = .ok (.iload_n 2, 1) := by decide +kernel
theorem dX9_winch_52 : decode cX9_winch 52 = .ok (.invokevirtual 415, 3) := by decide +kernel
theorem dX9_winch_55 : decode cX9_winch 55 = .ok (.iload_n 3, 1) := by decide +kernel
theorem dX9_winch_56 : decode cX9_winch 56 = .ok (.ireturn, 1) := by decide +kernel
theorem dX9_knot_0 : decode cX9_knot 0 = .ok (.aload_n 0, 1) := by decide +kernel
theorem dX9_knot_1 : decode cX9_knot 1 = .ok (.iconst 0, 1) := by decide +kernel
theorem dX9_knot_2 : decode cX9_knot 2 = .ok (.putfield 155, 3) := by decide +kernel
theorem dX9_knot_5 : decode cX9_knot 5 = .ok (.aload_n 0, 1) := by decide +kernel
theorem dX9_knot_6 : decode cX9_knot 6 = .ok (.iload_n 1, 1) := by decide +kernel
theorem dX9_knot_7 : decode cX9_knot 7 = .ok (.invokevirtual 384, 3) := by decide +kernel
theorem dX9_knot_10 : decode cX9_knot 10 = .ok (.ifCond .ne 9, 3) := by decide +kernel
theorem dX9_knot_13 : decode cX9_knot 13 = .ok (.aload_n 0, 1) := by decide +kernel
theorem dX9_knot_14 : decode cX9_knot 14 = .ok (.iconst 1, 1) := by decide +kernel
theorem dX9_knot_15 : decode cX9_knot 15 = .ok (.invokevirtual 297, 3) := by decide +kernel
theorem dX9_knot_18 : decode cX9_knot 18 = .ok (.ireturn, 1) := by decide +kernel
theorem dX9_knot_19 : decode cX9_knot 19 = .ok (.aload_n 0, 1) := by decide +kernel
theorem dX9_knot_20 : decode cX9_knot 20 = .ok (.iload_n 1, 1) := by decide +kernel
theorem dX9_knot_21 : decode cX9_knot 21 = .ok (.bipush 9, 2) := by decide +kernel
theorem dX9_knot_23 : decode cX9_knot 23 = .ok (.invokevirtual 330, 3) := by decide +kernel
theorem dX9_knot_26 : decode cX9_knot 26 = .ok (.iload_n 2, 1) := by decide +kernel
theorem dX9_knot_27 : decode cX9_knot 27 = .ok (.ifCond .eq 7, 3) := by decide +kernel
theorem dX9_knot_30 : decode cX9_knot 30 = .ok (.iconst 1, 1) := by decide +kernel
theorem dX9_knot_31 : decode cX9_knot 31 = .ok (.goto 4, 3) := by decide +kernel
theorem dX9_knot_34 : decode cX9_knot 34 = .ok (.iconst (-1), 1) := by decide +kernel
theorem dX9_knot_35 : decode cX9_knot 35 = .ok (.iadd, 1) := by decide +kernel
theorem dX9_knot_36 : decode cX9_knot 36 = .ok (.istore_n 3, 1) := by decide +kernel
theorem dX9_knot_37 : decode cX9_knot 37 = .ok (.iload_n 3, 1) := by decide +kernel
theorem dX9_knot_38 : decode cX9_knot 38 = .ok (.i2l, 1) := by decide +kernel
theorem dX9_knot_39 : decode cX9_knot 39 = .ok (.lconst 0, 1) := by decide +kernel
theorem dX9_knot_40 : decode cX9_knot 40 = .ok (.ldc2_w 407, 3) := by decide +kernel
theorem dX9_knot_43 : decode cX9_knot 43 = .ok (.invokestatic 158, 3) := by decide +kernel
theorem dX9_knot_46 : decode cX9_knot 46 = .ok (.ifCond .ne 9, 3) := by decide +kernel
theorem dX9_knot_49 : decode cX9_knot 49 = .ok (.aload_n 0, 1) := by decide +kernel
theorem dX9_knot_50 : decode cX9_knot 50 = .ok (.iconst 1, 1) := by decide +kernel
theorem dX9_knot_51 : decode cX9_knot 51 = .ok (.invokevirtual 409, 3) := by decide +kernel
theorem dX9_knot_54 : decode cX9_knot 54 = .ok (.ireturn, 1) := by decide +kernel
theorem dX9_knot_55 : decode cX9_knot 55 = .ok (.aload_n 0, 1) := by decide +kernel
theorem dX9_knot_56 : decode cX9_knot 56 = .ok (.invokevirtual 412, 3) := by decide +kernel
theorem dX9_knot_59 : decode cX9_knot 59 = .ok (.aload_n 0, 1) := by decide +kernel
theorem dX9_knot_60 : decode cX9_knot 60 = .ok (.iload_n 1, 1) := by decide +kernel
theorem dX9_knot_61 : decode cX9_knot 61 = .ok (.bipush 9, 2) := by decide +kernel
theorem dX9_knot_63 : decode cX9_knot 63 = .ok (.iload_n 3, 1) := by decide +kernel
theorem dX9_knot_64 : decode cX9_knot 64 = .ok (.invokevirtual 415, 3) := by decide +kernel
theorem dX9_knot_67 : decode cX9_knot 67 = .ok (.iload_n 3, 1) := by decide +kernel
theorem dX9_knot_68 : decode cX9_knot 68 = .ok (.ireturn, 1) := by decide +kernel
theorem dX9_load_0 : decode cX9_load 0 = .ok (.aload_n 0, 1) := by decide +kernel
theorem dX9_load_1 : decode cX9_load 1 = .ok (.iconst 0, 1) := by decide +kernel
theorem dX9_load_2 : decode cX9_load 2 = .ok (.putfield 155, 3) := by decide +kernel
theorem dX9_load_5 : decode cX9_load 5 = .ok (.aload_n 0, 1) := by decide +kernel
theorem dX9_load_6 : decode cX9_load 6 = .ok (.iload_n 1, 1) := by decide +kernel
theorem dX9_load_7 : decode cX9_load 7 = .ok (.invokevirtual 384, 3) := by decide +kernel
theorem dX9_load_10 : decode cX9_load 10 = .ok (.ifCond .ne 9, 3) := by decide +kernel
theorem dX9_load_13 : decode cX9_load 13 = .ok (.aload_n 0, 1) := by decide +kernel
theorem dX9_load_14 : decode cX9_load 14 = .ok (.iconst 1, 1) := by decide +kernel
theorem dX9_load_15 : decode cX9_load 15 = .ok (.invokevirtual 297, 3) := by decide +kernel
theorem dX9_load_18 : decode cX9_load 18 = .ok (.ireturn, 1) := by decide +kernel
theorem dX9_load_19 : decode cX9_load 19 = .ok (.iload_n 2, 1) := by decide +kernel
theorem dX9_load_20 : decode cX9_load 20 = .ok (.i2l, 1) := by decide +kernel
theorem dX9_load_21 : decode cX9_load 21 = .ok (.lconst 0, 1) := by decide +kernel
theorem dX9_load_22 : decode cX9_load 22 = .ok (.ldc2_w 407, 3) := by decide +kernel
theorem dX9_load_25 : decode cX9_load 25 = .ok (.invokestatic 158, 3) := by decide +kernel
theorem dX9_load_28 : decode cX9_load 28 = .ok (.ifCond .ne 9, 3) := by decide +kernel
theorem dX9_load_31 : decode cX9_load 31 = .ok (.aload_n 0, 1) := by decide +kernel
theorem dX9_load_32 : decode cX9_load 32 = .ok (.iconst 1, 1) := by decide +kernel
theorem dX9_load_33 : decode cX9_load 33 = .ok (.invokevirtual 409, 3) := by decide +kernel
theorem dX9_load_36 : decode cX9_load 36 = .ok (.ireturn, 1) := by decide +kernel
theorem dX9_load_37 : decode cX9_load 37 = .ok (.aload_n 0, 1) := by decide +kernel
theorem dX9_load_38 : decode cX9_load 38 = .ok (.invokevirtual 412, 3) := by decide +kernel
theorem dX9_load_41 : decode cX9_load 41 = .ok (.aload_n 0, 1) := by decide +kernel
theorem dX9_load_42 : decode cX9_load 42 = .ok (.iload_n 1, 1) := by decide +kernel
theorem dX9_load_43 : decode cX9_load 43 = .ok (.bipush 7, 2) := by decide +kernel
theorem dX9_load_45 : decode cX9_load 45 = .ok (.invokevirtual 330, 3) := by decide +kernel
theorem dX9_load_48 : decode cX9_load 48 = .ok (.istore_n 3, 1) := by decide +kernel
theorem dX9_load_49 : decode cX9_load 49 = .ok (.aload_n 0, 1) := by decide +kernel
theorem dX9_load_50 : decode cX9_load 50 = .ok (.iload_n 1, 1) := by decide +kernel
theorem dX9_load_51 : decode cX9_load 51 = .ok (.bipush 7, 2) := by decide +kernel
theorem dX9_load_53 : decode cX9_load 53 = .ok (.iload_n 2, 1) := by decide +kernel
theorem dX9_load_54 : decode cX9_load 54 = .ok (.invokevirtual 415, 3) := by decide +kernel
theorem dX9_load_57 : decode cX9_load 57 = .ok (.iload_n 3, 1) := by decide +kernel
theorem dX9_load_58 : decode cX9_load 58 = .ok (.ireturn, 1) := by decide +kernel
theorem dX9_goat_0 : decode cX9_goat 0 = .ok (.aload_n 0, 1) := by decide +kernel
theorem dX9_goat_1 : decode cX9_goat 1 = .ok (.iconst 0, 1) := by decide +kernel
theorem dX9_goat_2 : decode cX9_goat 2 = .ok (.putfield 155, 3) := by decide +kernel
theorem dX9_goat_5 : decode cX9_goat 5 = .ok (.aload_n 0, 1) := by decide +kernel
theorem dX9_goat_6 : decode cX9_goat 6 = .ok (.iload_n 1, 1) := by decide +kernel
theorem dX9_goat_7 : decode cX9_goat 7 = .ok (.invokevirtual 384, 3) := by decide +kernel
theorem dX9_goat_10 : decode cX9_goat 10 = .ok (.ifCond .eq 18, 3) := by decide +kernel
theorem dX9_goat_13 : decode cX9_goat 13 = .ok (.aload_n 0, 1) := by decide +kernel
theorem dX9_goat_14 : decode cX9_goat 14 = .ok (.iload_n 2, 1) := by decide +kernel
theorem dX9_goat_15 : decode cX9_goat 15 = .ok (.invokevirtual 384, 3) := by decide +kernel
theorem dX9_goat_18 : decode cX9_goat 18 = .ok (.ifCond .eq 10, 3) := by decide +kernel
theorem dX9_goat_21 : decode cX9_goat 21 = .ok (.iload_n 3, 1) := by decide +kernel
theorem dX9_goat_22 : decode cX9_goat 22 = .ok (.invokestatic 389, 3) := by decide +kernel
theorem dX9_goat_25 : decode cX9_goat 25 = .ok (.ifCond .ne 10, 3) := by decide +kernel
theorem dX9_goat_28 : decode cX9_goat 28 = .ok (.aload_n 0, 1) := by decide +kernel
theorem dX9_goat_29 : decode cX9_goat 29 = .ok (.iconst 1, 1) := by decide +kernel
theorem dX9_goat_30 : decode cX9_goat 30 = .ok (.putfield 155, 3) := by decide +kernel
theorem dX9_goat_33 : decode cX9_goat 33 = .ok (.iconst 0, 1) := by decide +kernel
theorem dX9_goat_34 : decode cX9_goat 34 = .ok (.ireturn, 1) := by decide +kernel
theorem dX9_goat_35 : decode cX9_goat 35 = .ok (.aload_n 0, 1) := by decide +kernel
theorem dX9_goat_36 : decode cX9_goat 36 = .ok (.iload_n 3, 1) := by decide +kernel
theorem dX9_goat_37 : decode cX9_goat 37 = .ok (.iconst 0, 1) := by decide +kernel
theorem dX9_goat_38 : decode cX9_goat 38 = .ok (.invokevirtual 392, 3) := by decide +kernel
theorem dX9_goat_41 : decode cX9_goat 41 = .ok (.iload_n 1, 1) := by decide +kernel
theorem dX9_goat_42 : decode cX9_goat 42 = .ok (.iload_n 2, 1) := by decide +kernel
theorem dX9_goat_43 : decode cX9_goat 43 = .ok (.if_icmp .eq 34, 3) := by decide +kernel
theorem dX9_goat_46 : decode cX9_goat 46 = .ok (.aload_n 0, 1) := by decide +kernel
theorem dX9_goat_47 : decode cX9_goat 47 = .ok (.iload_n 1, 1) := by decide +kernel
theorem dX9_goat_48 : decode cX9_goat 48 = .ok (.bipush 8, 2) := by decide +kernel
theorem dX9_goat_50 : decode cX9_goat 50 = .ok (.invokevirtual 330, 3) := by decide +kernel
theorem dX9_goat_53 : decode cX9_goat 53 = .ok (.ifCond .eq 24, 3) := by decide +kernel
theorem dX9_goat_56 : decode cX9_goat 56 = .ok (.aload_n 0, 1) := by decide +kernel
theorem dX9_goat_57 : decode cX9_goat 57 = .ok (.iload_n 2, 1) := by decide +kernel
theorem dX9_goat_58 : decode cX9_goat 58 = .ok (.bipush 8, 2) := by decide +kernel
theorem dX9_goat_60 : decode cX9_goat 60 = .ok (.invokevirtual 330, 3) := by decide +kernel
theorem dX9_goat_63 : decode cX9_goat 63 = .ok (.bipush 9, 2) := by decide +kernel
theorem dX9_goat_65 : decode cX9_goat 65 = .ok (.if_icmp .eq 12, 3) := by decide +kernel
theorem dX9_goat_68 : decode cX9_goat 68 = .ok (.aload_n 0, 1) := by decide +kernel
theorem dX9_goat_69 : decode cX9_goat 69 = .ok (.iload_n 1, 1) := by decide +kernel
theorem dX9_goat_70 : decode cX9_goat 70 = .ok (.iload_n 2, 1) := by decide +kernel
theorem dX9_goat_71 : decode cX9_goat 71 = .ok (.invokevirtual 401, 3) := by decide +kernel
theorem dX9_goat_74 : decode cX9_goat 74 = .ok (.ifCond .ne 15, 3) := by decide +kernel
theorem dX9_goat_77 : decode cX9_goat 77 = .ok (.aload_n 0, 1) := by decide +kernel
theorem dX9_goat_78 : decode cX9_goat 78 = .ok (.getfield 70, 3) := by decide +kernel
theorem dX9_goat_81 : decode cX9_goat 81 = .ok (.iconst 1, 1) := by decide +kernel
theorem dX9_goat_82 : decode cX9_goat 82 = .ok (.dup2, 1) := by decide +kernel
theorem dX9_goat_83 : decode cX9_goat 83 = .ok (.iaload, 1) := by decide +kernel
theorem dX9_goat_84 : decode cX9_goat 84 = .ok (.iconst 1, 1) := by decide +kernel
theorem dX9_goat_85 : decode cX9_goat 85 = .ok (.iadd, 1) := by decide +kernel
theorem dX9_goat_86 : decode cX9_goat 86 = .ok (.iastore, 1) := by decide +kernel
theorem dX9_goat_87 : decode cX9_goat 87 = .ok (.iconst 0, 1) := by decide +kernel
theorem dX9_goat_88 : decode cX9_goat 88 = .ok (.ireturn, 1) := by decide +kernel
theorem dX9_goat_89 : decode cX9_goat 89 = .ok (.aload_n 0, 1) := by decide +kernel
theorem dX9_goat_90 : decode cX9_goat 90 = .ok (.invokevirtual 412, 3) := by decide +kernel
theorem dX9_goat_93 : decode cX9_goat 93 = .ok (.aload_n 0, 1) := by decide +kernel
theorem dX9_goat_94 : decode cX9_goat 94 = .ok (.iload_n 1, 1) := by decide +kernel
theorem dX9_goat_95 : decode cX9_goat 95 = .ok (.bipush 8, 2) := by decide +kernel
theorem dX9_goat_97 : decode cX9_goat 97 = .ok (.aload_n 0, 1) := by decide +kernel
theorem dX9_goat_98 : decode cX9_goat 98 = .ok (.iload_n 1, 1) := by decide +kernel
theorem dX9_goat_99 : decode cX9_goat 99 = .ok (.bipush 8, 2) := by decide +kernel
theorem dX9_goat_101 : decode cX9_goat 101 = .ok (.invokevirtual 330, 3) := by decide +kernel
theorem dX9_goat_104 : decode cX9_goat 104 = .ok (.iconst 1, 1) := by decide +kernel
theorem dX9_goat_105 : decode cX9_goat 105 = .ok (.isub, 1) := by decide +kernel
theorem dX9_goat_106 : decode cX9_goat 106 = .ok (.invokevirtual 415, 3) := by decide +kernel
theorem dX9_goat_109 : decode cX9_goat 109 = .ok (.aload_n 0, 1) := by decide +kernel
theorem dX9_goat_110 : decode cX9_goat 110 = .ok (.iload_n 2, 1) := by decide +kernel
theorem dX9_goat_111 : decode cX9_goat 111 = .ok (.bipush 8, 2) := by decide +kernel
theorem dX9_goat_113 : decode cX9_goat 113 = .ok (.aload_n 0, 1) := by decide +kernel
theorem dX9_goat_114 : decode cX9_goat 114 = .ok (.iload_n 2, 1) := by decide +kernel
theorem dX9_goat_115 : decode cX9_goat 115 = .ok (.bipush 8, 2) := by decide +kernel
theorem dX9_goat_117 : decode cX9_goat 117 = .ok (.invokevirtual 330, 3) := by decide +kernel
theorem dX9_goat_120 : decode cX9_goat 120 = .ok (.iconst 1, 1) := by decide +kernel
theorem dX9_goat_121 : decode cX9_goat 121 = .ok (.iadd, 1) := by decide +kernel
theorem dX9_goat_122 : decode cX9_goat 122 = .ok (.invokevirtual 415, 3) := by decide +kernel
theorem dX9_goat_125 : decode cX9_goat 125 = .ok (.iconst 1, 1) := by decide +kernel
theorem dX9_goat_126 : decode cX9_goat 126 = .ok (.ireturn, 1) := by decide +kernel
theorem dX9_walk_0 : decode cX9_walk 0 = .ok (.aload_n 0, 1) := by decide +kernel
theorem dX9_walk_1 : decode cX9_walk 1 = .ok (.iconst 0, 1) := by decide +kernel
theorem dX9_walk_2 : decode cX9_walk 2 = .ok (.putfield 155, 3) := by decide +kernel
theorem dX9_walk_5 : decode cX9_walk 5 = .ok (.aload_n 0, 1) := by decide +kernel
theorem dX9_walk_6 : decode cX9_walk 6 = .ok (.iload_n 1, 1) := by decide +kernel
theorem dX9_walk_7 : decode cX9_walk 7 = .ok (.invokevirtual 384, 3) := by decide +kernel
theorem dX9_walk_10 : decode cX9_walk 10 = .ok (.ifCond .ne 9, 3) := by decide +kernel
theorem dX9_walk_13 : decode cX9_walk 13 = .ok (.aload_n 0, 1) := by decide +kernel
theorem dX9_walk_14 : decode cX9_walk 14 = .ok (.iconst 1, 1) := by decide +kernel
theorem dX9_walk_15 : decode cX9_walk 15 = .ok (.invokevirtual 297, 3) := by decide +kernel
theorem dX9_walk_18 : decode cX9_walk 18 = .ok (.ireturn, 1) := by decide +kernel
theorem dX9_walk_19 : decode cX9_walk 19 = .ok (.iload_n 2, 1) := by decide +kernel
theorem dX9_walk_20 : decode cX9_walk 20 = .ok (.i2l, 1) := by decide +kernel
theorem dX9_walk_21 : decode cX9_walk 21 = .ok (.lconst 0, 1) := by decide +kernel
theorem dX9_walk_22 : decode cX9_walk 22 = .ok (.ldc2_w 399, 3) := by decide +kernel
theorem dX9_walk_25 : decode cX9_walk 25 = .ok (.invokestatic 158, 3) := by decide +kernel
theorem dX9_walk_28 : decode cX9_walk 28 = .ok (.ifCond .eq 40, 3) := by decide +kernel
theorem dX9_walk_31 : decode cX9_walk 31 = .ok (.iload_n 3, 1) := by decide +kernel
theorem dX9_walk_32 : decode cX9_walk 32 = .ok (.i2l, 1) := by decide +kernel
theorem dX9_walk_33 : decode cX9_walk 33 = .ok (.lconst 0, 1) := by decide +kernel
theorem dX9_walk_34 : decode cX9_walk 34 = .ok (.ldc2_w 399, 3) := by decide +kernel
theorem dX9_walk_37 : decode cX9_walk 37 = .ok (.invokestatic 158, 3) := by decide +kernel
theorem dX9_walk_40 : decode cX9_walk 40 = .ok (.ifCond .eq 28, 3) := by decide +kernel
theorem dX9_walk_43 : decode cX9_walk 43 = .ok (.iload_n 2, 1) := by decide +kernel
theorem dX9_walk_44 : decode cX9_walk 44 = .ok (.iload_n 3, 1) := by decide +kernel
theorem dX9_walk_45 : decode cX9_walk 45 = .ok (.if_icmp .eq 23, 3) := by decide +kernel
theorem dX9_walk_48 : decode cX9_walk 48 = .ok (.iload 4, 2) := by decide +kernel
theorem dX9_walk_50 : decode cX9_walk 50 = .ok (.iconst 1, 1) := by decide +kernel
theorem dX9_walk_51 : decode cX9_walk 51 = .ok (.if_icmp .lt 17, 3) := by decide +kernel
theorem dX9_walk_54 : decode cX9_walk 54 = .ok (.iload 4, 2) := by decide +kernel
theorem dX9_walk_56 : decode cX9_walk 56 = .ok (.aload_n 0, 1) := by decide +kernel
theorem dX9_walk_57 : decode cX9_walk 57 = .ok (.iload_n 1, 1) := by decide +kernel
theorem dX9_walk_58 : decode cX9_walk 58 = .ok (.bipush 10, 2) := by decide +kernel
theorem dX9_walk_60 : decode cX9_walk 60 = .ok (.iload_n 2, 1) := by decide +kernel
theorem dX9_walk_61 : decode cX9_walk 61 = .ok (.iadd, 1) := by decide +kernel
theorem dX9_walk_62 : decode cX9_walk 62 = .ok (.invokevirtual 330, 3) := by decide +kernel
theorem dX9_walk_65 : decode cX9_walk 65 = .ok (.if_icmp .le 9, 3) := by decide +kernel
theorem dX9_walk_68 : decode cX9_walk 68 = .ok (.aload_n 0, 1) := by decide +kernel
theorem dX9_walk_69 : decode cX9_walk 69 = .ok (.iconst 1, 1) := by decide +kernel
theorem dX9_walk_70 : decode cX9_walk 70 = .ok (.invokevirtual 409, 3) := by decide +kernel
theorem dX9_walk_73 : decode cX9_walk 73 = .ok (.ireturn, 1) := by decide +kernel
theorem dX9_walk_74 : decode cX9_walk 74 = .ok (.aload_n 0, 1) := by decide +kernel
theorem dX9_walk_75 : decode cX9_walk 75 = .ok (.invokevirtual 412, 3) := by decide +kernel
theorem dX9_walk_78 : decode cX9_walk 78 = .ok (.aload_n 0, 1) := by decide +kernel
theorem dX9_walk_79 : decode cX9_walk 79 = .ok (.iload_n 1, 1) := by decide +kernel
theorem dX9_walk_80 : decode cX9_walk 80 = .ok (.bipush 10, 2) := by decide +kernel
theorem dX9_walk_82 : decode cX9_walk 82 = .ok (.iload_n 2, 1) := by decide +kernel
theorem dX9_walk_83 : decode cX9_walk 83 = .ok (.iadd, 1) := by decide +kernel
theorem dX9_walk_84 : decode cX9_walk 84 = .ok (.aload_n 0, 1) := by decide +kernel
theorem dX9_walk_85 : decode cX9_walk 85 = .ok (.iload_n 1, 1) := by decide +kernel
theorem dX9_walk_86 : decode cX9_walk 86 = .ok (.bipush 10, 2) := by decide +kernel
theorem dX9_walk_88 : decode cX9_walk 88 = .ok (.iload_n 2, 1) := by decide +kernel
theorem dX9_walk_89 : decode cX9_walk 89 = .ok (.iadd, 1) := by decide +kernel
theorem dX9_walk_90 : decode cX9_walk 90 = .ok (.invokevirtual 330, 3) := by decide +kernel
theorem dX9_walk_93 : decode cX9_walk 93 = .ok (.iload 4, 2) := by decide +kernel
theorem dX9_walk_95 : decode cX9_walk 95 = .ok (.isub, 1) := by decide +kernel
theorem dX9_walk_96 : decode cX9_walk 96 = .ok (.invokevirtual 415, 3) := by decide +kernel
theorem dX9_walk_99 : decode cX9_walk 99 = .ok (.aload_n 0, 1) := by decide +kernel
theorem dX9_walk_100 : decode cX9_walk 100 = .ok (.iload_n 1, 1) := by decide +kernel
theorem dX9_walk_101 : decode cX9_walk 101 = .ok (.bipush 10, 2) := by decide +kernel
theorem dX9_walk_103 : decode cX9_walk 103 = .ok (.iload_n 3, 1) := by decide +kernel
theorem dX9_walk_104 : decode cX9_walk 104 = .ok (.iadd, 1) := by decide +kernel
theorem dX9_walk_105 : decode cX9_walk 105 = .ok (.aload_n 0, 1) := by decide +kernel
theorem dX9_walk_106 : decode cX9_walk 106 = .ok (.iload_n 1, 1) := by decide +kernel
theorem dX9_walk_107 : decode cX9_walk 107 = .ok (.bipush 10, 2) := by decide +kernel
theorem dX9_walk_109 : decode cX9_walk 109 = .ok (.iload_n 3, 1) := by decide +kernel
theorem dX9_walk_110 : decode cX9_walk 110 = .ok (.iadd, 1) := by decide +kernel
theorem dX9_walk_111 : decode cX9_walk 111 = .ok (.invokevirtual 330, 3) := by decide +kernel
theorem dX9_walk_114 : decode cX9_walk 114 = .ok (.iload 4, 2) := by decide +kernel
theorem dX9_walk_116 : decode cX9_walk 116 = .ok (.iadd, 1) := by decide +kernel
theorem dX9_walk_117 : decode cX9_walk 117 = .ok (.invokevirtual 415, 3) := by decide +kernel
theorem dX9_walk_120 : decode cX9_walk 120 = .ok (.aload_n 0, 1) := by decide +kernel
theorem dX9_walk_121 : decode cX9_walk 121 = .ok (.iload_n 1, 1) := by decide +kernel
theorem dX9_walk_122 : decode cX9_walk 122 = .ok (.bipush 10, 2) := by decide +kernel
theorem dX9_walk_124 : decode cX9_walk 124 = .ok (.iload_n 3, 1) := by decide +kernel
theorem dX9_walk_125 : decode cX9_walk 125 = .ok (.iadd, 1) := by decide +kernel
theorem dX9_walk_126 : decode cX9_walk 126 = .ok (.invokevirtual 330, 3) := by decide +kernel
theorem dX9_walk_129 : decode cX9_walk 129 = .ok (.ireturn, 1) := by decide +kernel
theorem dX9_undo_0 : decode cX9_undo 0 = .ok (.aload_n 0, 1) := by decide +kernel
theorem dX9_undo_1 : decode cX9_undo 1 = .ok (.iconst 0, 1) := by decide +kernel
theorem dX9_undo_2 : decode cX9_undo 2 = .ok (.putfield 155, 3) := by decide +kernel
theorem dX9_undo_5 : decode cX9_undo 5 = .ok (.aload_n 0, 1) := by decide +kernel
theorem dX9_undo_6 : decode cX9_undo 6 = .ok (.getfield 310, 3) := by decide +kernel
theorem dX9_undo_9 : decode cX9_undo 9 = .ok (.ifCond .ne 5, 3) := by decide +kernel
theorem dX9_undo_12 : decode cX9_undo 12 = .ok (.iconst (-1), 1) := by decide +kernel
theorem dX9_undo_13 : decode cX9_undo 13 = .ok (.ireturn, 1) := by decide +kernel
theorem dX9_undo_14 : decode cX9_undo 14 = .ok (.aload_n 0, 1) := by decide +kernel
theorem dX9_undo_15 : decode cX9_undo 15 = .ok (.dup, 1) := by decide +kernel
theorem dX9_undo_16 : decode cX9_undo 16 = .ok (.getfield 310, 3) := by decide +kernel
theorem dX9_undo_19 : decode cX9_undo 19 = .ok (.iconst 1, 1) := by decide +kernel
theorem dX9_undo_20 : decode cX9_undo 20 = .ok (.isub, 1) := by decide +kernel
theorem dX9_undo_21 : decode cX9_undo 21 = .ok (.putfield 310, 3) := by decide +kernel
theorem dX9_undo_24 : decode cX9_undo 24 = .ok (.iconst 0, 1) := by decide +kernel
theorem dX9_undo_25 : decode cX9_undo 25 = .ok (.istore_n 1, 1) := by decide +kernel
theorem dX9_undo_26 : decode cX9_undo 26 = .ok (.iload_n 1, 1) := by decide +kernel
theorem dX9_undo_27 : decode cX9_undo 27 = .ok (.bipush 84, 2) := by decide +kernel
theorem dX9_undo_29 : decode cX9_undo 29 = .ok (.if_icmp .ge 29, 3) := by decide +kernel
theorem dX9_undo_32 : decode cX9_undo 32 = .ok (.aload_n 0, 1) := by decide +kernel
theorem dX9_undo_33 : decode cX9_undo 33 = .ok (.getfield 55, 3) := by decide +kernel
theorem dX9_undo_36 : decode cX9_undo 36 = .ok (.iload_n 1, 1) := by decide +kernel
theorem dX9_undo_37 : decode cX9_undo 37 = .ok (.aload_n 0, 1) := by decide +kernel
theorem dX9_undo_38 : decode cX9_undo 38 = .ok (.getfield 95, 3) := by decide +kernel
theorem dX9_undo_41 : decode cX9_undo 41 = .ok (.bipush 84, 2) := by decide +kernel
theorem dX9_undo_43 : decode cX9_undo 43 = .ok (.aload_n 0, 1) := by decide +kernel
theorem dX9_undo_44 : decode cX9_undo 44 = .ok (.getfield 310, 3) := by decide +kernel
theorem dX9_undo_47 : decode cX9_undo 47 = .ok (.imul, 1) := by decide +kernel
theorem dX9_undo_48 : decode cX9_undo 48 = .ok (.iload_n 1, 1) := by decide +kernel
theorem dX9_undo_49 : decode cX9_undo 49 = .ok (.iadd, 1) := by decide +kernel
theorem dX9_undo_50 : decode cX9_undo 50 = .ok (.iaload, 1) := by decide +kernel
theorem dX9_undo_51 : decode cX9_undo 51 = .ok (.iastore, 1) := by decide +kernel
theorem dX9_undo_52 : decode cX9_undo 52 = .ok (.iinc 1 1, 3) := by decide +kernel
theorem dX9_undo_55 : decode cX9_undo 55 = .ok (.goto (-29), 3) := by decide +kernel
theorem dX9_undo_58 : decode cX9_undo 58 = .ok (.aload_n 0, 1) := by decide +kernel
theorem dX9_undo_59 : decode cX9_undo 59 = .ok (.getfield 310, 3) := by decide +kernel
theorem dX9_undo_62 : decode cX9_undo 62 = .ok (.ireturn, 1) := by decide +kernel
theorem dX9_knock_0 : decode cX9_knock 0 = .ok (.aload_n 0, 1) := by decide +kernel
theorem dX9_knock_1 : decode cX9_knock 1 = .ok (.iconst 0, 1) := by decide +kernel
theorem dX9_knock_2 : decode cX9_knock 2 = .ok (.putfield 155, 3) := by decide +kernel
theorem dX9_knock_5 : decode cX9_knock 5 = .ok (.iload_n 3, 1) := by decide +kernel
theorem dX9_knock_6 : decode cX9_knock 6 = .ok (.ifCond .lt 8, 3) := by decide +kernel
theorem dX9_knock_9 : decode cX9_knock 9 = .ok (.iload_n 3, 1) := by decide +kernel
theorem dX9_knock_10 : decode cX9_knock 10 = .ok (.iconst 1, 1) := by decide +kernel
theorem dX9_knock_11 : decode cX9_knock 11 = .ok (.if_icmp .le 9, 3) := by decide +kernel
theorem dX9_knock_14 : decode cX9_knock 14 = .ok (.aload_n 0, 1) := by decide +kernel
theorem dX9_knock_15 : decode cX9_knock 15 = .ok (.iconst 1, 1) := by decide +kernel
theorem dX9_knock_16 : decode cX9_knock 16 = .ok (.invokevirtual 297, 3) := by decide +kernel
theorem dX9_knock_19 : decode cX9_knock 19 = .ok (.ireturn, 1) := by decide +kernel
theorem dX9_knock_20 : decode cX9_knock 20 = .ok (.iload_n 1, 1) := by decide +kernel
theorem dX9_knock_21 : decode cX9_knock 21 = .ok (.iload_n 2, 1) := by decide +kernel
theorem dX9_knock_22 : decode cX9_knock 22 = .ok (.invokestatic 418, 3) := by decide +kernel
theorem dX9_knock_25 : decode cX9_knock 25 = .ok (.ifCond .ne 9, 3) := by decide +kernel
theorem dX9_knock_28 : decode cX9_knock 28 = .ok (.aload_n 0, 1) := by decide +kernel
theorem dX9_knock_29 : decode cX9_knock 29 = .ok (.iconst 2, 1) := by decide +kernel
theorem dX9_knock_30 : decode cX9_knock 30 = .ok (.invokevirtual 297, 3) := by decide +kernel
theorem dX9_knock_33 : decode cX9_knock 33 = .ok (.ireturn, 1) := by decide +kernel
theorem dX9_knock_34 : decode cX9_knock 34 = .ok (.iload_n 1, 1) := by decide +kernel
theorem dX9_knock_35 : decode cX9_knock 35 = .ok (.istore 4, 2) := by decide +kernel
theorem dX9_knock_37 : decode cX9_knock 37 = .ok (.iload 4, 2) := by decide +kernel
theorem dX9_knock_39 : decode cX9_knock 39 = .ok (.iload_n 2, 1) := by decide +kernel
theorem dX9_knock_40 : decode cX9_knock 40 = .ok (.if_icmp .gt 40, 3) := by decide +kernel
theorem dX9_knock_43 : decode cX9_knock 43 = .ok (.aload_n 0, 1) := by decide +kernel
theorem dX9_knock_44 : decode cX9_knock 44 = .ok (.iload 4, 2) := by decide +kernel
theorem dX9_knock_46 : decode cX9_knock 46 = .ok (.iconst 0, 1) := by decide +kernel
theorem dX9_knock_47 : decode cX9_knock 47 = .ok (.invokevirtual 392, 3) := by decide +kernel
theorem dX9_knock_50 : decode cX9_knock 50 = .ok (.aload_n 0, 1) := by decide +kernel
theorem dX9_knock_51 : decode cX9_knock 51 = .ok (.invokevirtual 421, 3) := by decide +kernel
theorem dX9_knock_54 : decode cX9_knock 54 = .ok (.istore 5, 2) := by decide +kernel
theorem dX9_knock_56 : decode cX9_knock 56 = .ok (.iload 5, 2) := by decide +kernel
theorem dX9_knock_58 : decode cX9_knock 58 = .ok (.iconst (-1), 1) := by decide +kernel
theorem dX9_knock_59 : decode cX9_knock 59 = .ok (.if_icmp .eq 15, 3) := by decide +kernel
theorem dX9_knock_62 : decode cX9_knock 62 = .ok (.iload_n 3, 1) := by decide +kernel
theorem dX9_knock_63 : decode cX9_knock 63 = .ok (.ifCond .ne 8, 3) := by decide +kernel
theorem dX9_knock_66 : decode cX9_knock 66 = .ok (.iload 4, 2) := by decide +kernel
theorem dX9_knock_68 : decode cX9_knock 68 = .ok (.goto 5, 3) := by decide +kernel
theorem dX9_knock_71 : decode cX9_knock 71 = .ok (.iload 5, 2) := by decide +kernel
theorem dX9_knock_73 : decode cX9_knock 73 = .ok (.ireturn, 1) := by decide +kernel
theorem dX9_knock_74 : decode cX9_knock 74 = .ok (.iinc 4 1, 3) := by decide +kernel
theorem dX9_knock_77 : decode cX9_knock 77 = .ok (.goto (-40), 3) := by decide +kernel
theorem dX9_knock_80 : decode cX9_knock 80 = .ok (.iconst (-1), 1) := by decide +kernel
theorem dX9_knock_81 : decode cX9_knock 81 = .ok (.ireturn, 1) := by decide +kernel
theorem dX9_rained_0 : decode cX9_rained 0 = .ok (.iconst 0, 1) := by decide +kernel
theorem dX9_rained_1 : decode cX9_rained 1 = .ok (.istore 5, 2) := by decide +kernel
theorem dX9_rained_3 : decode cX9_rained 3 = .ok (.iload_n 3, 1) := by decide +kernel
theorem dX9_rained_4 : decode cX9_rained 4 = .ok (.istore 6, 2) := by decide +kernel
theorem dX9_rained_6 : decode cX9_rained 6 = .ok (.iload 6, 2) := by decide +kernel
theorem dX9_rained_8 : decode cX9_rained 8 = .ok (.iload 4, 2) := by decide +kernel
theorem dX9_rained_10 : decode cX9_rained 10 = .ok (.if_icmp .gt 50, 3) := by decide +kernel
theorem dX9_rained_13 : decode cX9_rained 13 = .ok (.aload_n 0, 1) := by decide +kernel
theorem dX9_rained_14 : decode cX9_rained 14 = .ok (.iload 6, 2) := by decide +kernel
theorem dX9_rained_16 : decode cX9_rained 16 = .ok (.iconst 0, 1) := by decide +kernel
theorem dX9_rained_17 : decode cX9_rained 17 = .ok (.invokevirtual 392, 3) := by decide +kernel
theorem dX9_rained_20 : decode cX9_rained 20 = .ok (.aload_n 0, 1) := by decide +kernel
theorem dX9_rained_21 : decode cX9_rained 21 = .ok (.iload_n 1, 1) := by decide +kernel
theorem dX9_rained_22 : decode cX9_rained 22 = .ok (.invokevirtual 404, 3) := by decide +kernel
theorem dX9_rained_25 : decode cX9_rained 25 = .ok (.istore 7, 2) := by decide +kernel
theorem dX9_rained_27 : decode cX9_rained 27 = .ok (.iload 5, 2) := by decide +kernel
theorem dX9_rained_29 : decode cX9_rained 29 = .ok (.iload 7, 2) := by decide +kernel
theorem dX9_rained_31 : decode cX9_rained 31 = .ok (.iconst (-1), 1) := by decide +kernel
theorem dX9_rained_32 : decode cX9_rained 32 = .ok (.if_icmp .eq 18, 3) := by decide +kernel
theorem dX9_rained_35 : decode cX9_rained 35 = .ok (.iload_n 2, 1) := by decide +kernel
theorem dX9_rained_36 : decode cX9_rained 36 = .ok (.iconst (-1), 1) := by decide +kernel
theorem dX9_rained_37 : decode cX9_rained 37 = .ok (.if_icmp .eq 9, 3) := by decide +kernel
theorem dX9_rained_40 : decode cX9_rained 40 = .ok (.iload_n 2, 1) := by decide +kernel
theorem dX9_rained_41 : decode cX9_rained 41 = .ok (.iload 7, 2) := by decide +kernel
theorem dX9_rained_43 : decode cX9_rained 43 = .ok (.if_icmp .ne 7, 3) := by decide +kernel
theorem dX9_rained_46 : decode cX9_rained 46 = .ok (.iconst 1, 1) := by decide +kernel
theorem dX9_rained_47 : decode cX9_rained 47 = .ok (.goto 4, 3) := by decide +kernel
theorem dX9_rained_50 : decode cX9_rained 50 = .ok (.iconst 0, 1) := by decide +kernel
theorem dX9_rained_51 : decode cX9_rained 51 = .ok (.iadd, 1) := by decide +kernel
theorem dX9_rained_52 : decode cX9_rained 52 = .ok (.istore 5, 2) := by decide +kernel
theorem dX9_rained_54 : decode cX9_rained 54 = .ok (.iinc 6 1, 3) := by decide +kernel
theorem dX9_rained_57 : decode cX9_rained 57 = .ok (.goto (-51), 3) := by decide +kernel
theorem dX9_rained_60 : decode cX9_rained 60 = .ok (.iload 5, 2) := by decide +kernel
theorem dX9_rained_62 : decode cX9_rained 62 = .ok (.ireturn, 1) := by decide +kernel
theorem dX9_shade_0 : decode cX9_shade 0 = .ok (.aload_n 0, 1) := by decide +kernel
theorem dX9_shade_1 : decode cX9_shade 1 = .ok (.iconst 0, 1) := by decide +kernel
theorem dX9_shade_2 : decode cX9_shade 2 = .ok (.putfield 155, 3) := by decide +kernel
theorem dX9_shade_5 : decode cX9_shade 5 = .ok (.aload_n 0, 1) := by decide +kernel
theorem dX9_shade_6 : decode cX9_shade 6 = .ok (.iload_n 1, 1) := by decide +kernel
theorem dX9_shade_7 : decode cX9_shade 7 = .ok (.invokevirtual 384, 3) := by decide +kernel
theorem dX9_shade_10 : decode cX9_shade 10 = .ok (.ifCond .ne 9, 3) := by decide +kernel
theorem dX9_shade_13 : decode cX9_shade 13 = .ok (.aload_n 0, 1) := by decide +kernel
theorem dX9_shade_14 : decode cX9_shade 14 = .ok (.iconst 1, 1) := by decide +kernel
theorem dX9_shade_15 : decode cX9_shade 15 = .ok (.invokevirtual 297, 3) := by decide +kernel
theorem dX9_shade_18 : decode cX9_shade 18 = .ok (.ireturn, 1) := by decide +kernel
theorem dX9_shade_19 : decode cX9_shade 19 = .ok (.iload_n 2, 1) := by decide +kernel
theorem dX9_shade_20 : decode cX9_shade 20 = .ok (.iload_n 3, 1) := by decide +kernel
theorem dX9_shade_21 : decode cX9_shade 21 = .ok (.invokestatic 418, 3) := by decide +kernel
theorem dX9_shade_24 : decode cX9_shade 24 = .ok (.ifCond .eq 14, 3) := by decide +kernel
theorem dX9_shade_27 : decode cX9_shade 27 = .ok (.aload_n 0, 1) := by decide +kernel
theorem dX9_shade_28 : decode cX9_shade 28 = .ok (.iload_n 1, 1) := by decide +kernel
theorem dX9_shade_29 : decode cX9_shade 29 = .ok (.iconst (-1), 1) := by decide +kernel
theorem dX9_shade_30 : decode cX9_shade 30 = .ok (.iload_n 2, 1) := by decide +kernel
theorem dX9_shade_31 : decode cX9_shade 31 = .ok (.iload_n 3, 1) := by decide +kernel
theorem dX9_shade_32 : decode cX9_shade 32 = .ok (.invokevirtual 424, 3) := by decide +kernel
theorem dX9_shade_35 : decode cX9_shade 35 = .ok (.goto 8, 3) := by decide +kernel
theorem dX9_shade_38 : decode cX9_shade 38 = .ok (.aload_n 0, 1) := by decide +kernel
theorem dX9_shade_39 : decode cX9_shade 39 = .ok (.iconst 2, 1) := by decide +kernel
theorem dX9_shade_40 : decode cX9_shade 40 = .ok (.invokevirtual 297, 3) := by decide +kernel
theorem dX9_shade_43 : decode cX9_shade 43 = .ok (.ireturn, 1) := by decide +kernel
theorem dX9_wet_0 : decode cX9_wet 0 = .ok (.aload_n 0, 1) := by decide +kernel
theorem dX9_wet_1 : decode cX9_wet 1 = .ok (.iconst 0, 1) := by decide +kernel
theorem dX9_wet_2 : decode cX9_wet 2 = .ok (.putfield 155, 3) := by decide +kernel
theorem dX9_wet_5 : decode cX9_wet 5 = .ok (.aload_n 0, 1) := by decide +kernel
theorem dX9_wet_6 : decode cX9_wet 6 = .ok (.iload_n 1, 1) := by decide +kernel
theorem dX9_wet_7 : decode cX9_wet 7 = .ok (.invokevirtual 384, 3) := by decide +kernel
theorem dX9_wet_10 : decode cX9_wet 10 = .ok (.ifCond .ne 9, 3) := by decide +kernel
theorem dX9_wet_13 : decode cX9_wet 13 = .ok (.aload_n 0, 1) := by decide +kernel
theorem dX9_wet_14 : decode cX9_wet 14 = .ok (.iconst 1, 1) := by decide +kernel
theorem dX9_wet_15 : decode cX9_wet 15 = .ok (.invokevirtual 297, 3) := by decide +kernel
theorem dX9_wet_18 : decode cX9_wet 18 = .ok (.ireturn, 1) := by decide +kernel
theorem dX9_wet_19 : decode cX9_wet 19 = .ok (.iload_n 2, 1) := by decide +kernel
theorem dX9_wet_20 : decode cX9_wet 20 = .ok (.iload_n 3, 1) := by decide +kernel
theorem dX9_wet_21 : decode cX9_wet 21 = .ok (.invokestatic 418, 3) := by decide +kernel
theorem dX9_wet_24 : decode cX9_wet 24 = .ok (.ifCond .ne 9, 3) := by decide +kernel
theorem dX9_wet_27 : decode cX9_wet 27 = .ok (.aload_n 0, 1) := by decide +kernel
theorem dX9_wet_28 : decode cX9_wet 28 = .ok (.iconst 2, 1) := by decide +kernel
theorem dX9_wet_29 : decode cX9_wet 29 = .ok (.invokevirtual 297, 3) := by decide +kernel
theorem dX9_wet_32 : decode cX9_wet 32 = .ok (.ireturn, 1) := by decide +kernel
theorem dX9_wet_33 : decode cX9_wet 33 = .ok (.iconst (-1), 1) := by decide +kernel
theorem dX9_wet_34 : decode cX9_wet 34 = .ok (.istore 4, 2) := by decide +kernel
theorem dX9_wet_36 : decode cX9_wet 36 = .ok (.iconst 0, 1) := by decide +kernel
theorem dX9_wet_37 : decode cX9_wet 37 = .ok (.istore 5, 2) := by decide +kernel
theorem dX9_wet_39 : decode cX9_wet 39 = .ok (.iconst 0, 1) := by decide +kernel
theorem dX9_wet_40 : decode cX9_wet 40 = .ok (.istore 6, 2) := by decide +kernel
theorem dX9_wet_42 : decode cX9_wet 42 = .ok (.iload 6, 2) := by decide +kernel
theorem dX9_wet_44 : decode cX9_wet 44 = .ok (.aload_n 0, 1) := by decide +kernel
theorem dX9_wet_45 : decode cX9_wet 45 = .ok (.getfield 51, 3) := by decide +kernel
theorem dX9_wet_48 : decode cX9_wet 48 = .ok (.iconst 0, 1) := by decide +kernel
theorem dX9_wet_49 : decode cX9_wet 49 = .ok (.iaload, 1) := by decide +kernel
theorem dX9_wet_50 : decode cX9_wet 50 = .ok (.if_icmp .ge 38, 3) := by decide +kernel
theorem dX9_wet_53 : decode cX9_wet 53 = .ok (.aload_n 0, 1) := by decide +kernel
theorem dX9_wet_54 : decode cX9_wet 54 = .ok (.iload_n 1, 1) := by decide +kernel
theorem dX9_wet_55 : decode cX9_wet 55 = .ok (.iload 6, 2) := by decide +kernel
theorem dX9_wet_57 : decode cX9_wet 57 = .ok (.iload_n 2, 1) := by decide +kernel
theorem dX9_wet_58 : decode cX9_wet 58 = .ok (.iload_n 3, 1) := by decide +kernel
theorem dX9_wet_59 : decode cX9_wet 59 = .ok (.invokevirtual 424, 3) := by decide +kernel
theorem dX9_wet_62 : decode cX9_wet 62 = .ok (.istore 7, 2) := by decide +kernel
theorem dX9_wet_64 : decode cX9_wet 64 = .ok (.iload 7, 2) := by decide +kernel
theorem dX9_wet_66 : decode cX9_wet 66 = .ok (.iload 5, 2) := by decide +kernel
theorem dX9_wet_68 : decode cX9_wet 68 = .ok (.if_icmp .gt 6, 3) := by decide +kernel
theorem dX9_wet_71 : decode cX9_wet 71 = .ok (.goto 11, 3) := by decide +kernel
theorem dX9_wet_74 : decode cX9_wet 74 = .ok (.iload 6, 2) := by decide +kernel
theorem dX9_wet_76 : decode cX9_wet 76 = .ok (.istore 4, 2) := by decide +kernel
theorem dX9_wet_78 : decode cX9_wet 78 = .ok (.iload 7, 2) := by decide +kernel
theorem dX9_wet_80 : decode cX9_wet 80 = .ok (.istore 5, 2) := by decide +kernel
theorem dX9_wet_82 : decode cX9_wet 82 = .ok (.iinc 6 1, 3) := by decide +kernel
theorem dX9_wet_85 : decode cX9_wet 85 = .ok (.goto (-43), 3) := by decide +kernel
theorem dX9_wet_88 : decode cX9_wet 88 = .ok (.iload 4, 2) := by decide +kernel
theorem dX9_wet_90 : decode cX9_wet 90 = .ok (.ireturn, 1) := by decide +kernel
theorem dX9_winds_0 : decode cX9_winds 0 = .ok (.aload_n 0, 1) := by decide +kernel
theorem dX9_winds_1 : decode cX9_winds 1 = .ok (.iconst 0, 1) := by decide +kernel
theorem dX9_winds_2 : decode cX9_winds 2 = .ok (.putfield 155, 3) := by decide +kernel
theorem dX9_winds_5 : decode cX9_winds 5 = .ok (.aload_n 0, 1) := by decide +kernel
theorem dX9_winds_6 : decode cX9_winds 6 = .ok (.iload_n 1, 1) := by decide +kernel
theorem dX9_winds_7 : decode cX9_winds 7 = .ok (.invokevirtual 384, 3) := by decide +kernel
theorem dX9_winds_10 : decode cX9_winds 10 = .ok (.ifCond .eq 11, 3) := by decide +kernel
theorem dX9_winds_13 : decode cX9_winds 13 = .ok (.aload_n 0, 1) := by decide +kernel
theorem dX9_winds_14 : decode cX9_winds 14 = .ok (.iload_n 2, 1) := by decide +kernel
theorem dX9_winds_15 : decode cX9_winds 15 = .ok (.invokevirtual 384, 3) := by decide +kernel
theorem dX9_winds_18 : decode cX9_winds 18 = .ok (.ifCond .ne 9, 3) := by decide +kernel
theorem dX9_winds_21 : decode cX9_winds 21 = .ok (.aload_n 0, 1) := by decide +kernel
theorem dX9_winds_22 : decode cX9_winds 22 = .ok (.iconst 1, 1) := by decide +kernel
theorem dX9_winds_23 : decode cX9_winds 23 = .ok (.invokevirtual 297, 3) := by decide +kernel
theorem dX9_winds_26 : decode cX9_winds 26 = .ok (.ireturn, 1) := by decide +kernel
theorem dX9_winds_27 : decode cX9_winds 27 = .ok (.iload_n 3, 1) := by decide +kernel
theorem dX9_winds_28 : decode cX9_winds 28 = .ok (.iload 4, 2) := by decide +kernel
theorem dX9_winds_30 : decode cX9_winds 30 = .ok (.invokestatic 418, 3) := by decide +kernel
theorem dX9_winds_33 : decode cX9_winds 33 = .ok (.ifCond .eq 8, 3) := by decide +kernel
theorem dX9_winds_36 : decode cX9_winds 36 = .ok (.iload_n 1, 1) := by decide +kernel
theorem dX9_winds_37 : decode cX9_winds 37 = .ok (.iload_n 2, 1) := by decide +kernel
theorem dX9_winds_38 : decode cX9_winds 38 = .ok (.if_icmp .ne 9, 3) := by decide +kernel
theorem dX9_winds_41 : decode cX9_winds 41 = .ok (.aload_n 0, 1) := by decide +kernel
theorem dX9_winds_42 : decode cX9_winds 42 = .ok (.iconst 2, 1) := by decide +kernel
theorem dX9_winds_43 : decode cX9_winds 43 = .ok (.invokevirtual 297, 3) := by decide +kernel
theorem dX9_winds_46 : decode cX9_winds 46 = .ok (.ireturn, 1) := by decide +kernel
theorem dX9_winds_47 : decode cX9_winds 47 = .ok (.iconst 0, 1) := by decide +kernel
theorem dX9_winds_48 : decode cX9_winds 48 = .ok (.istore 5, 2) := by decide +kernel
theorem dX9_winds_50 : decode cX9_winds 50 = .ok (.iconst 0, 1) := by decide +kernel
theorem dX9_winds_51 : decode cX9_winds 51 = .ok (.istore 6, 2) := by decide +kernel
theorem dX9_winds_53 : decode cX9_winds 53 = .ok (.iload_n 3, 1) := by decide +kernel
theorem dX9_winds_54 : decode cX9_winds 54 = .ok (.istore 7, 2) := by decide +kernel
theorem dX9_winds_56 : decode cX9_winds 56 = .ok (.iload 7, 2) := by decide +kernel
theorem dX9_winds_58 : decode cX9_winds 58 = .ok (.iload 4, 2) := by decide +kernel
theorem dX9_winds_60 : decode cX9_winds 60 = .ok (.if_icmp .gt 85, 3) := by decide +kernel
theorem dX9_winds_63 : decode cX9_winds 63 = .ok (.aload_n 0, 1) := by decide +kernel
theorem dX9_winds_64 : decode cX9_winds 64 = .ok (.iload 7, 2) := by decide +kernel
theorem dX9_winds_66 : decode cX9_winds 66 = .ok (.iconst 0, 1) := by decide +kernel
theorem dX9_winds_67 : decode cX9_winds 67 = .ok (.invokevirtual 392, 3) := by decide +kernel
theorem dX9_winds_70 : decode cX9_winds 70 = .ok (.aload_n 0, 1) := by decide +kernel
theorem dX9_winds_71 : decode cX9_winds 71 = .ok (.getfield 86, 3) := by decide +kernel
theorem dX9_winds_74 : decode cX9_winds 74 = .ok (.iload_n 2, 1) := by decide +kernel
theorem dX9_winds_75 : decode cX9_winds 75 = .ok (.iaload, 1) := by decide +kernel
theorem dX9_winds_76 : decode cX9_winds 76 = .ok (.aload_n 0, 1) := by decide +kernel
theorem dX9_winds_77 : decode cX9_winds 77 = .ok (.getfield 86, 3) := by decide +kernel
theorem dX9_winds_80 : decode cX9_winds 80 = .ok (.iload_n 1, 1) := by decide +kernel
theorem dX9_winds_81 : decode cX9_winds 81 = .ok (.iaload, 1) := by decide +kernel
theorem dX9_winds_82 : decode cX9_winds 82 = .ok (.if_icmp .ge 7, 3) := by decide +kernel
theorem dX9_winds_85 : decode cX9_winds 85 = .ok (.iconst 1, 1) := by decide +kernel
theorem dX9_winds_86 : decode cX9_winds 86 = .ok (.goto 4, 3) := by decide +kernel
theorem dX9_winds_89 : decode cX9_winds 89 = .ok (.iconst 0, 1) := by decide +kernel
theorem dX9_winds_90 : decode cX9_winds 90 = .ok (.istore 8, 2) := by decide +kernel
theorem dX9_winds_92 : decode cX9_winds 92 = .ok (.iload 7, 2) := by decide +kernel
theorem dX9_winds_94 : decode cX9_winds 94 = .ok (.iload_n 3, 1) := by decide +kernel
theorem dX9_winds_95 : decode cX9_winds 95 = .ok (.if_icmp .le 40, 3) := by decide +kernel
theorem dX9_winds_98 : decode cX9_winds 98 = .ok (.iload 8, 2) := by decide +kernel
theorem dX9_winds_100 : decode cX9_winds 100 = .ok (.iload 6, 2) := by decide +kernel
theorem dX9_winds_102 : decode cX9_winds 102 = .ok (.if_icmp .eq 33, 3) := by decide +kernel
theorem dX9_winds_105 : decode cX9_winds 105 = .ok (.aload_n 0, 1) := by decide +kernel
theorem dX9_winds_106 : decode cX9_winds 106 = .ok (.getfield 89, 3) := by decide +kernel
theorem dX9_winds_109 : decode cX9_winds 109 = .ok (.iload_n 2, 1) := by decide +kernel
theorem dX9_winds_110 : decode cX9_winds 110 = .ok (.iaload, 1) := by decide +kernel
theorem dX9_winds_111 : decode cX9_winds 111 = .ok (.aload_n 0, 1) := by decide +kernel
theorem dX9_winds_112 : decode cX9_winds 112 = .ok (.getfield 89, 3) := by decide +kernel
theorem dX9_winds_115 : decode cX9_winds 115 = .ok (.iload_n 1, 1) := by decide +kernel
theorem dX9_winds_116 : decode cX9_winds 116 = .ok (.iaload, 1) := by decide +kernel
theorem dX9_winds_117 : decode cX9_winds 117 = .ok (.if_icmp .le 18, 3) := by decide +kernel
theorem dX9_winds_120 : decode cX9_winds 120 = .ok (.iload 5, 2) := by decide +kernel
theorem dX9_winds_122 : decode cX9_winds 122 = .ok (.iload 8, 2) := by decide +kernel
theorem dX9_winds_124 : decode cX9_winds 124 = .ok (.ifCond .eq 7, 3) := by decide +kernel
theorem dX9_winds_127 : decode cX9_winds 127 = .ok (.iconst 1, 1) := by decide +kernel
theorem dX9_winds_128 : decode cX9_winds 128 = .ok (.goto 4, 3) := by decide +kernel
theorem dX9_winds_131 : decode cX9_winds 131 = .ok (.iconst (-1), 1) := by decide +kernel
theorem dX9_winds_132 : decode cX9_winds 132 = .ok (.iadd, 1) := by decide +kernel
theorem dX9_winds_133 : decode cX9_winds 133 = .ok (.istore 5, 2) := by decide +kernel
theorem dX9_winds_135 : decode cX9_winds 135 = .ok (.iload 8, 2) := by decide +kernel
theorem dX9_winds_137 : decode cX9_winds 137 = .ok (.istore 6, 2) := by decide +kernel
theorem dX9_winds_139 : decode cX9_winds 139 = .ok (.iinc 7 1, 3) := by decide +kernel
theorem dX9_winds_142 : decode cX9_winds 142 = .ok (.goto (-86), 3) := by decide +kernel
theorem dX9_winds_145 : decode cX9_winds 145 = .ok (.iload 5, 2) := by decide +kernel
theorem dX9_winds_147 : decode cX9_winds 147 = .ok (.ireturn, 1) := by decide +kernel
theorem dX9_isFine_0 : decode cX9_isFine 0 = .ok (.iconst 0, 1) := by decide +kernel
theorem dX9_isFine_1 : decode cX9_isFine 1 = .ok (.istore_n 1, 1) := by decide +kernel
theorem dX9_isFine_2 : decode cX9_isFine 2 = .ok (.iload_n 1, 1) := by decide +kernel
theorem dX9_isFine_3 : decode cX9_isFine 3 = .ok (.aload_n 0, 1) := by decide +kernel
theorem dX9_isFine_4 : decode cX9_isFine 4 = .ok (.getfield 51, 3) := by decide +kernel
theorem dX9_isFine_7 : decode cX9_isFine 7 = .ok (.iconst 0, 1) := by decide +kernel
theorem dX9_isFine_8 : decode cX9_isFine 8 = .ok (.iaload, 1) := by decide +kernel
theorem dX9_isFine_9 : decode cX9_isFine 9 = .ok (.if_icmp .ge 16, 3) := by decide +kernel
theorem dX9_isFine_12 : decode cX9_isFine 12 = .ok (.aload_n 0, 1) := by decide +kernel
theorem dX9_isFine_13 : decode cX9_isFine 13 = .ok (.getfield 104, 3) := by decide +kernel
theorem dX9_isFine_16 : decode cX9_isFine 16 = .ok (.iload_n 1, 1) := by decide +kernel
theorem dX9_isFine_17 : decode cX9_isFine 17 = .ok (.iconst 0, 1) := by decide +kernel
theorem dX9_isFine_18 : decode cX9_isFine 18 = .ok (.iastore, 1) := by decide +kernel
theorem dX9_isFine_19 : decode cX9_isFine 19 = .ok (.iinc 1 1, 3) := by decide +kernel
theorem dX9_isFine_22 : decode cX9_isFine 22 = .ok (.goto (-20), 3) := by decide +kernel
theorem dX9_isFine_25 : decode cX9_isFine 25 = .ok (.aload_n 0, 1) := by decide +kernel
theorem dX9_isFine_26 : decode cX9_isFine 26 = .ok (.getfield 428, 3) := by decide +kernel
theorem dX9_isFine_29 : decode cX9_isFine 29 = .ok (.istore_n 1, 1) := by decide +kernel
theorem dX9_isFine_30 : decode cX9_isFine 30 = .ok (.iload_n 1, 1) := by decide +kernel
theorem dX9_isFine_31 : decode cX9_isFine 31 = .ok (.aload_n 0, 1) := by decide +kernel
theorem dX9_isFine_32 : decode cX9_isFine 32 = .ok (.getfield 431, 3) := by decide +kernel
theorem dX9_isFine_35 : decode cX9_isFine 35 = .ok (.if_icmp .gt 97, 3) := by decide +kernel
theorem dX9_isFine_38 : decode cX9_isFine 38 = .ok (.aload_n 0, 1) := by decide +kernel
theorem dX9_isFine_39 : decode cX9_isFine 39 = .ok (.iload_n 1, 1) := by decide +kernel
theorem dX9_isFine_40 : decode cX9_isFine 40 = .ok (.iconst 0, 1) := by decide +kernel
theorem dX9_isFine_41 : decode cX9_isFine 41 = .ok (.invokevirtual 392, 3) := by decide +kernel
theorem dX9_isFine_44 : decode cX9_isFine 44 = .ok (.aload_n 0, 1) := by decide +kernel
theorem dX9_isFine_45 : decode cX9_isFine 45 = .ok (.getfield 434, 3) := by decide +kernel
theorem dX9_isFine_48 : decode cX9_isFine 48 = .ok (.ifCond .ne 13, 3) := by decide +kernel
theorem dX9_isFine_51 : decode cX9_isFine 51 = .ok (.aload_n 0, 1) := by decide +kernel
theorem dX9_isFine_52 : decode cX9_isFine 52 = .ok (.invokevirtual 421, 3) := by decide +kernel
theorem dX9_isFine_55 : decode cX9_isFine 55 = .ok (.iconst (-1), 1) := by decide +kernel
theorem dX9_isFine_56 : decode cX9_isFine 56 = .ok (.if_icmp .eq 5, 3) := by decide +kernel
theorem dX9_isFine_59 : decode cX9_isFine 59 = .ok (.iconst 0, 1) := by decide +kernel
theorem dX9_isFine_60 : decode cX9_isFine 60 = .ok (.ireturn, 1) := by decide +kernel
theorem dX9_isFine_61 : decode cX9_isFine 61 = .ok (.iconst 0, 1) := by decide +kernel
theorem dX9_isFine_62 : decode cX9_isFine 62 = .ok (.istore_n 2, 1) := by decide +kernel
theorem dX9_isFine_63 : decode cX9_isFine 63 = .ok (.iload_n 2, 1) := by decide +kernel
theorem dX9_isFine_64 : decode cX9_isFine 64 = .ok (.aload_n 0, 1) := by decide +kernel
theorem dX9_isFine_65 : decode cX9_isFine 65 = .ok (.getfield 51, 3) := by decide +kernel
theorem dX9_isFine_68 : decode cX9_isFine 68 = .ok (.iconst 0, 1) := by decide +kernel
theorem dX9_isFine_69 : decode cX9_isFine 69 = .ok (.iaload, 1) := by decide +kernel
theorem dX9_isFine_70 : decode cX9_isFine 70 = .ok (.if_icmp .ge 56, 3) := by decide +kernel
theorem dX9_isFine_73 : decode cX9_isFine 73 = .ok (.aload_n 0, 1) := by decide +kernel
theorem dX9_isFine_74 : decode cX9_isFine 74 = .ok (.getfield 434, 3) := by decide +kernel
theorem dX9_isFine_77 : decode cX9_isFine 77 = .ok (.ifCond .eq 49, 3) := by decide +kernel
theorem dX9_isFine_80 : decode cX9_isFine 80 = .ok (.aload_n 0, 1) := by decide +kernel
theorem dX9_isFine_81 : decode cX9_isFine 81 = .ok (.getfield 104, 3) := by decide +kernel
theorem dX9_isFine_84 : decode cX9_isFine 84 = .ok (.iload_n 2, 1) := by decide +kernel
theorem dX9_isFine_85 : decode cX9_isFine 85 = .ok (.dup2, 1) := by decide +kernel
theorem dX9_isFine_86 : decode cX9_isFine 86 = .ok (.iaload, 1) := by decide +kernel
theorem dX9_isFine_87 : decode cX9_isFine 87 = .ok (.aload_n 0, 1) := by decide +kernel
theorem dX9_isFine_88 : decode cX9_isFine 88 = .ok (.iload_n 2, 1) := by decide +kernel
theorem dX9_isFine_89 : decode cX9_isFine 89 = .ok (.invokevirtual 404, 3) := by decide +kernel
theorem dX9_isFine_92 : decode cX9_isFine 92 = .ok (.iconst (-1), 1) := by decide +kernel
theorem dX9_isFine_93 : decode cX9_isFine 93 = .ok (.if_icmp .ne 7, 3) := by decide +kernel
theorem dX9_isFine_96 : decode cX9_isFine 96 = .ok (.iconst 0, 1) := by decide +kernel
theorem dX9_isFine_97 : decode cX9_isFine 97 = .ok (.goto 4, 3) := by decide +kernel
theorem dX9_isFine_100 : decode cX9_isFine 100 = .ok (.iconst 1, 1) := by decide +kernel
theorem dX9_isFine_101 : decode cX9_isFine 101 = .ok (.iadd, 1) := by decide +kernel
theorem dX9_isFine_102 : decode cX9_isFine 102 = .ok (.iastore, 1) := by decide +kernel
theorem dX9_isFine_103 : decode cX9_isFine 103 = .ok (.aload_n 0, 1) := by decide +kernel
theorem dX9_isFine_104 : decode cX9_isFine 104 = .ok (.getfield 104, 3) := by decide +kernel
theorem dX9_isFine_107 : decode cX9_isFine 107 = .ok (.iload_n 2, 1) := by decide +kernel
theorem dX9_isFine_108 : decode cX9_isFine 108 = .ok (.iaload, 1) := by decide +kernel
theorem dX9_isFine_109 : decode cX9_isFine 109 = .ok (.aload_n 0, 1) := by decide +kernel
theorem dX9_isFine_110 : decode cX9_isFine 110 = .ok (.getfield 51, 3) := by decide +kernel
theorem dX9_isFine_113 : decode cX9_isFine 113 = .ok (.iconst 4, 1) := by decide +kernel
theorem dX9_isFine_114 : decode cX9_isFine 114 = .ok (.iaload, 1) := by decide +kernel
theorem dX9_isFine_115 : decode cX9_isFine 115 = .ok (.if_icmp .le 5, 3) := by decide +kernel
theorem dX9_isFine_118 : decode cX9_isFine 118 = .ok (.iconst 0, 1) := by decide +kernel
theorem dX9_isFine_119 : decode cX9_isFine 119 = .ok (.ireturn, 1) := by decide +kernel
theorem dX9_isFine_120 : decode cX9_isFine 120 = .ok (.iinc 2 1, 3) := by decide +kernel
theorem dX9_isFine_123 : decode cX9_isFine 123 = .ok (.goto (-60), 3) := by decide +kernel
theorem dX9_isFine_126 : decode cX9_isFine 126 = .ok (.iinc 1 1, 3) := by decide +kernel
theorem dX9_isFine_129 : decode cX9_isFine 129 = .ok (.goto (-99), 3) := by decide +kernel
theorem dX9_isFine_132 : decode cX9_isFine 132 = .ok (.iconst 1, 1) := by decide +kernel
theorem dX9_isFine_133 : decode cX9_isFine 133 = .ok (.ireturn, 1) := by decide +kernel
theorem dX9_winchOn_0 : decode cX9_winchOn 0 = .ok (.aload_n 0, 1) := by decide +kernel
theorem dX9_winchOn_1 : decode cX9_winchOn 1 = .ok (.getfield 437, 3) := by decide +kernel
theorem dX9_winchOn_4 : decode cX9_winchOn 4 = .ok (.iconst (-1), 1) := by decide +kernel
theorem dX9_winchOn_5 : decode cX9_winchOn 5 = .ok (.if_icmp .eq 12, 3) := by decide +kernel
theorem dX9_winchOn_8 : decode cX9_winchOn 8 = .ok (.iload_n 2, 1) := by decide +kernel
theorem dX9_winchOn_9 : decode cX9_winchOn 9 = .ok (.aload_n 0, 1) := by decide +kernel
theorem dX9_winchOn_10 : decode cX9_winchOn 10 = .ok (.getfield 437, 3) := by decide +kernel
theorem dX9_winchOn_13 : decode cX9_winchOn 13 = .ok (.if_icmp .lt 4, 3) := by decide +kernel
theorem dX9_winchOn_16 : decode cX9_winchOn 16 = .ok (.return_, 1) := by decide +kernel
theorem dX9_winchOn_17 : decode cX9_winchOn 17 = .ok (.iload_n 1, 1) := by decide +kernel
theorem dX9_winchOn_18 : decode cX9_winchOn 18 = .ok (.aload_n 0, 1) := by decide +kernel
theorem dX9_winchOn_19 : decode cX9_winchOn 19 = .ok (.getfield 51, 3) := by decide +kernel
theorem dX9_winchOn_22 : decode cX9_winchOn 22 = .ok (.iconst 0, 1) := by decide +kernel
theorem dX9_winchOn_23 : decode cX9_winchOn 23 = .ok (.iaload, 1) := by decide +kernel
theorem dX9_winchOn_24 : decode cX9_winchOn 24 = .ok (.if_icmp .ge 85, 3) := by decide +kernel
theorem dX9_winchOn_27 : decode cX9_winchOn 27 = .ok (.aload_n 0, 1) := by decide +kernel
theorem dX9_winchOn_28 : decode cX9_winchOn 28 = .ok (.getfield 440, 3) := by decide +kernel
theorem dX9_winchOn_31 : decode cX9_winchOn 31 = .ok (.ineg, 1) := by decide +kernel
theorem dX9_winchOn_32 : decode cX9_winchOn 32 = .ok (.istore_n 3, 1) := by decide +kernel
theorem dX9_winchOn_33 : decode cX9_winchOn 33 = .ok (.iload_n 3, 1) := by decide +kernel
theorem dX9_winchOn_34 : decode cX9_winchOn 34 = .ok (.aload_n 0, 1) := by decide +kernel
theorem dX9_winchOn_35 : decode cX9_winchOn 35 = .ok (.getfield 440, 3) := by decide +kernel
theorem dX9_winchOn_38 : decode cX9_winchOn 38 = .ok (.if_icmp .gt 58, 3) := by decide +kernel
theorem dX9_winchOn_41 : decode cX9_winchOn 41 = .ok (.aload_n 0, 1) := by decide +kernel
theorem dX9_winchOn_42 : decode cX9_winchOn 42 = .ok (.getfield 98, 3) := by decide +kernel
theorem dX9_winchOn_45 : decode cX9_winchOn 45 = .ok (.iload_n 1, 1) := by decide +kernel
theorem dX9_winchOn_46 : decode cX9_winchOn 46 = .ok (.iaload, 1) := by decide +kernel
theorem dX9_winchOn_47 : decode cX9_winchOn 47 = .ok (.iload_n 3, 1) := by decide +kernel
theorem dX9_winchOn_48 : decode cX9_winchOn 48 = .ok (.iadd, 1) := by decide +kernel
theorem dX9_winchOn_49 : decode cX9_winchOn 49 = .ok (.i2l, 1) := by decide +kernel
theorem dX9_winchOn_50 : decode cX9_winchOn 50 = .ok (.lconst 1, 1) := by decide +kernel
theorem dX9_winchOn_51 : decode cX9_winchOn 51 = .ok (.ldc2_w 407, 3) := by decide +kernel
theorem dX9_winchOn_54 : decode cX9_winchOn 54 = .ok (.invokestatic 158, 3) := by decide +kernel
theorem dX9_winchOn_57 : decode cX9_winchOn 57 = .ok (.ifCond .ne 6, 3) := by decide +kernel
theorem dX9_winchOn_60 : decode cX9_winchOn 60 = .ok (.goto 30, 3) := by decide +kernel
theorem dX9_winchOn_63 : decode cX9_winchOn 63 = .ok (.aload_n 0, 1) := by decide +kernel
theorem dX9_winchOn_64 : decode cX9_winchOn 64 = .ok (.iload_n 1, 1) := by decide +kernel
theorem dX9_winchOn_65 : decode cX9_winchOn 65 = .ok (.iconst 3, 1) := by decide +kernel
theorem dX9_winchOn_66 : decode cX9_winchOn 66 = .ok (.aload_n 0, 1) := by decide +kernel
theorem dX9_winchOn_67 : decode cX9_winchOn 67 = .ok (.getfield 98, 3) := by decide +kernel
theorem dX9_winchOn_70 : decode cX9_winchOn 70 = .ok (.iload_n 1, 1) := by decide +kernel
theorem dX9_winchOn_71 : decode cX9_winchOn 71 = .ok (.iaload, 1) := by decide +kernel
theorem dX9_winchOn_72 : decode cX9_winchOn 72 = .ok (.iload_n 3, 1) := by decide +kernel
theorem dX9_winchOn_73 : decode cX9_winchOn 73 = .ok (.iadd, 1) := by decide +kernel
theorem dX9_winchOn_74 : decode cX9_winchOn 74 = .ok (.invokevirtual 415, 3) := by decide +kernel
theorem dX9_winchOn_77 : decode cX9_winchOn 77 = .ok (.aload_n 0, 1) := by decide +kernel
theorem dX9_winchOn_78 : decode cX9_winchOn 78 = .ok (.iload_n 1, 1) := by decide +kernel
theorem dX9_winchOn_79 : decode cX9_winchOn 79 = .ok (.iconst 1, 1) := by decide +kernel
theorem dX9_winchOn_80 : decode cX9_winchOn 80 = .ok (.iadd, 1) := by decide +kernel
theorem dX9_winchOn_81 : decode cX9_winchOn 81 = .ok (.iload_n 2, 1) := by decide +kernel
theorem dX9_winchOn_82 : decode cX9_winchOn 82 = .ok (.iload_n 3, 1) := by decide +kernel
theorem dX9_winchOn_83 : decode cX9_winchOn 83 = .ok (.invokestatic 357, 3) := by decide +kernel
theorem dX9_winchOn_86 : decode cX9_winchOn 86 = .ok (.iadd, 1) := by decide +kernel
theorem dX9_winchOn_87 : decode cX9_winchOn 87 = .ok (.invokevirtual 442, 3) := by decide +kernel
theorem dX9_winchOn_90 : decode cX9_winchOn 90 = .ok (.iinc 3 1, 3) := by decide +kernel
theorem dX9_winchOn_93 : decode cX9_winchOn 93 = .ok (.goto (-60), 3) := by decide +kernel
theorem dX9_winchOn_96 : decode cX9_winchOn 96 = .ok (.aload_n 0, 1) := by decide +kernel
theorem dX9_winchOn_97 : decode cX9_winchOn 97 = .ok (.iload_n 1, 1) := by decide +kernel
theorem dX9_winchOn_98 : decode cX9_winchOn 98 = .ok (.iconst 3, 1) := by decide +kernel
theorem dX9_winchOn_99 : decode cX9_winchOn 99 = .ok (.aload_n 0, 1) := by decide +kernel
theorem dX9_winchOn_100 : decode cX9_winchOn 100 = .ok (.getfield 98, 3) := by decide +kernel
theorem dX9_winchOn_103 : decode cX9_winchOn 103 = .ok (.iload_n 1, 1) := by decide +kernel
theorem dX9_winchOn_104 : decode cX9_winchOn 104 = .ok (.iaload, 1) := by decide +kernel
theorem dX9_winchOn_105 : decode cX9_winchOn 105 = .ok (.invokevirtual 415, 3) := by decide +kernel
theorem dX9_winchOn_108 : decode cX9_winchOn 108 = .ok (.return_, 1) := by decide +kernel
theorem dX9_winchOn_109 : decode cX9_winchOn 109 = .ok (.aload_n 0, 1) := by decide +kernel
theorem dX9_winchOn_110 : decode cX9_winchOn 110 = .ok (.invokevirtual 445, 3) := by decide +kernel
theorem dX9_winchOn_113 : decode cX9_winchOn 113 = .ok (.ifCond .ne 4, 3) := by decide +kernel
theorem dX9_winchOn_116 : decode cX9_winchOn 116 = .ok (.return_, 1) := by decide +kernel
theorem dX9_winchOn_117 : decode cX9_winchOn 117 = .ok (.aload_n 0, 1) := by decide +kernel
theorem dX9_winchOn_118 : decode cX9_winchOn 118 = .ok (.iload_n 2, 1) := by decide +kernel
theorem dX9_winchOn_119 : decode cX9_winchOn 119 = .ok (.putfield 437, 3) := by decide +kernel
theorem dX9_winchOn_122 : decode cX9_winchOn 122 = .ok (.iconst 0, 1) := by decide +kernel
theorem dX9_winchOn_123 : decode cX9_winchOn 123 = .ok (.istore_n 3, 1) := by decide +kernel
theorem dX9_winchOn_124 : decode cX9_winchOn 124 = .ok (.iload_n 3, 1) := by decide +kernel
theorem dX9_winchOn_125 : decode cX9_winchOn 125 = .ok (.aload_n 0, 1) := by decide +kernel
theorem dX9_winchOn_126 : decode cX9_winchOn 126 = .ok (.getfield 51, 3) := by decide +kernel
theorem dX9_winchOn_129 : decode cX9_winchOn 129 = .ok (.iconst 0, 1) := by decide +kernel
theorem dX9_winchOn_130 : decode cX9_winchOn 130 = .ok (.iaload, 1) := by decide +kernel
theorem dX9_winchOn_131 : decode cX9_winchOn 131 = .ok (.if_icmp .ge 21, 3) := by decide +kernel
theorem dX9_winchOn_134 : decode cX9_winchOn 134 = .ok (.aload_n 0, 1) := by decide +kernel
theorem dX9_winchOn_135 : decode cX9_winchOn 135 = .ok (.getfield 101, 3) := by decide +kernel
theorem dX9_winchOn_138 : decode cX9_winchOn 138 = .ok (.iload_n 3, 1) := by decide +kernel
theorem dX9_winchOn_139 : decode cX9_winchOn 139 = .ok (.aload_n 0, 1) := by decide +kernel
theorem dX9_winchOn_140 : decode cX9_winchOn 140 = .ok (.iload_n 3, 1) := by decide +kernel
theorem dX9_winchOn_141 : decode cX9_winchOn 141 = .ok (.iconst 3, 1) := by decide +kernel
theorem dX9_winchOn_142 : decode cX9_winchOn 142 = .ok (.invokevirtual 330, 3) := by decide +kernel
theorem dX9_winchOn_145 : decode cX9_winchOn 145 = .ok (.iastore, 1) := by decide +kernel
theorem dX9_winchOn_146 : decode cX9_winchOn 146 = .ok (.iinc 3 1, 3) := by decide +kernel
theorem dX9_winchOn_149 : decode cX9_winchOn 149 = .ok (.goto (-25), 3) := by decide +kernel
theorem dX9_winchOn_152 : decode cX9_winchOn 152 = .ok (.return_, 1) := by decide +kernel
theorem dX9_least_0 : decode cX9_least 0 = .ok (.aload_n 0, 1) := by decide +kernel
theorem dX9_least_1 : decode cX9_least 1 = .ok (.iconst 0, 1) := by decide +kernel
theorem dX9_least_2 : decode cX9_least 2 = .ok (.putfield 155, 3) := by decide +kernel
theorem dX9_least_5 : decode cX9_least 5 = .ok (.iload_n 1, 1) := by decide +kernel
theorem dX9_least_6 : decode cX9_least 6 = .ok (.iload_n 2, 1) := by decide +kernel
theorem dX9_least_7 : decode cX9_least 7 = .ok (.invokestatic 418, 3) := by decide +kernel
theorem dX9_least_10 : decode cX9_least 10 = .ok (.ifCond .eq 23, 3) := by decide +kernel
theorem dX9_least_13 : decode cX9_least 13 = .ok (.iload_n 2, 1) := by decide +kernel
theorem dX9_least_14 : decode cX9_least 14 = .ok (.iload_n 1, 1) := by decide +kernel
theorem dX9_least_15 : decode cX9_least 15 = .ok (.isub, 1) := by decide +kernel
theorem dX9_least_16 : decode cX9_least 16 = .ok (.bipush 24, 2) := by decide +kernel
theorem dX9_least_18 : decode cX9_least 18 = .ok (.if_icmp .ge 15, 3) := by decide +kernel
theorem dX9_least_21 : decode cX9_least 21 = .ok (.iload_n 3, 1) := by decide +kernel
theorem dX9_least_22 : decode cX9_least 22 = .ok (.i2l, 1) := by decide +kernel
theorem dX9_least_23 : decode cX9_least 23 = .ok (.lconst 0, 1) := by decide +kernel
theorem dX9_least_24 : decode cX9_least 24 = .ok (.ldc2_w 382, 3) := by decide +kernel
theorem dX9_least_27 : decode cX9_least 27 = .ok (.invokestatic 158, 3) := by decide +kernel
theorem dX9_least_30 : decode cX9_least 30 = .ok (.ifCond .ne 9, 3) := by decide +kernel
theorem dX9_least_33 : decode cX9_least 33 = .ok (.aload_n 0, 1) := by decide +kernel
theorem dX9_least_34 : decode cX9_least 34 = .ok (.iconst 1, 1) := by decide +kernel
theorem dX9_least_35 : decode cX9_least 35 = .ok (.invokevirtual 297, 3) := by decide +kernel
theorem dX9_least_38 : decode cX9_least 38 = .ok (.ireturn, 1) := by decide +kernel
theorem dX9_least_39 : decode cX9_least 39 = .ok (.aload_n 0, 1) := by decide +kernel
theorem dX9_least_40 : decode cX9_least 40 = .ok (.getfield 51, 3) := by decide +kernel
theorem dX9_least_43 : decode cX9_least 43 = .ok (.iconst 0, 1) := by decide +kernel
theorem dX9_least_44 : decode cX9_least 44 = .ok (.iaload, 1) := by decide +kernel
theorem dX9_least_45 : decode cX9_least 45 = .ok (.iconst 4, 1) := by decide +kernel
theorem dX9_least_46 : decode cX9_least 46 = .ok (.if_icmp .le 6, 3) := by decide +kernel
theorem dX9_least_49 : decode cX9_least 49 = .ok (.bipush (-2), 2) := by decide +kernel
theorem dX9_least_51 : decode cX9_least 51 = .ok (.ireturn, 1) := by decide +kernel
theorem dX9_least_52 : decode cX9_least 52 = .ok (.aload_n 0, 1) := by decide +kernel
theorem dX9_least_53 : decode cX9_least 53 = .ok (.iload_n 1, 1) := by decide +kernel
theorem dX9_least_54 : decode cX9_least 54 = .ok (.putfield 428, 3) := by decide +kernel
theorem dX9_least_57 : decode cX9_least 57 = .ok (.aload_n 0, 1) := by decide +kernel
theorem dX9_least_58 : decode cX9_least 58 = .ok (.iload_n 2, 1) := by decide +kernel
theorem dX9_least_59 : decode cX9_least 59 = .ok (.putfield 431, 3) := by decide +kernel
theorem dX9_least_62 : decode cX9_least 62 = .ok (.aload_n 0, 1) := by decide +kernel
theorem dX9_least_63 : decode cX9_least 63 = .ok (.iload_n 3, 1) := by decide +kernel
theorem dX9_least_64 : decode cX9_least 64 = .ok (.putfield 440, 3) := by decide +kernel
theorem dX9_least_67 : decode cX9_least 67 = .ok (.aload_n 0, 1) := by decide +kernel
theorem dX9_least_68 : decode cX9_least 68 = .ok (.iload 4, 2) := by decide +kernel
theorem dX9_least_70 : decode cX9_least 70 = .ok (.putfield 434, 3) := by decide +kernel
theorem dX9_least_73 : decode cX9_least 73 = .ok (.aload_n 0, 1) := by decide +kernel
theorem dX9_least_74 : decode cX9_least 74 = .ok (.iconst (-1), 1) := by decide +kernel
theorem dX9_least_75 : decode cX9_least 75 = .ok (.putfield 437, 3) := by decide +kernel
theorem dX9_least_78 : decode cX9_least 78 = .ok (.iconst 0, 1) := by decide +kernel
theorem dX9_least_79 : decode cX9_least 79 = .ok (.istore 5, 2) := by decide +kernel
theorem dX9_least_81 : decode cX9_least 81 = .ok (.iload 5, 2) := by decide +kernel
theorem dX9_least_83 : decode cX9_least 83 = .ok (.aload_n 0, 1) := by decide +kernel
theorem dX9_least_84 : decode cX9_least 84 = .ok (.getfield 51, 3) := by decide +kernel
theorem dX9_least_87 : decode cX9_least 87 = .ok (.iconst 0, 1) := by decide +kernel
theorem dX9_least_88 : decode cX9_least 88 = .ok (.iaload, 1) := by decide +kernel
theorem dX9_least_89 : decode cX9_least 89 = .ok (.if_icmp .ge 37, 3) := by decide +kernel
theorem dX9_least_92 : decode cX9_least 92 = .ok (.aload_n 0, 1) := by decide +kernel
theorem dX9_least_93 : decode cX9_least 93 = .ok (.getfield 98, 3) := by decide +kernel
theorem dX9_least_96 : decode cX9_least 96 = .ok (.iload 5, 2) := by decide +kernel
theorem dX9_least_98 : decode cX9_least 98 = .ok (.aload_n 0, 1) := by decide +kernel
theorem dX9_least_99 : decode cX9_least 99 = .ok (.iload 5, 2) := by decide +kernel
theorem dX9_least_101 : decode cX9_least 101 = .ok (.iconst 3, 1) := by decide +kernel
theorem dX9_least_102 : decode cX9_least 102 = .ok (.invokevirtual 330, 3) := by decide +kernel
theorem dX9_least_105 : decode cX9_least 105 = .ok (.iastore, 1) := by decide +kernel
theorem dX9_least_106 : decode cX9_least 106 = .ok (.aload_n 0, 1) := by decide +kernel
theorem dX9_least_107 : decode cX9_least 107 = .ok (.getfield 107, 3) := by decide +kernel
theorem dX9_least_110 : decode cX9_least 110 = .ok (.iload 5, 2) := by decide +kernel
theorem dX9_least_112 : decode cX9_least 112 = .ok (.aload_n 0, 1) := by decide +kernel
theorem dX9_least_113 : decode cX9_least 113 = .ok (.getfield 101, 3) := by decide +kernel
theorem dX9_least_116 : decode cX9_least 116 = .ok (.iload 5, 2) := by decide +kernel
theorem dX9_least_118 : decode cX9_least 118 = .ok (.iaload, 1) := by decide +kernel
theorem dX9_least_119 : decode cX9_least 119 = .ok (.iastore, 1) := by decide +kernel
theorem dX9_least_120 : decode cX9_least 120 = .ok (.iinc 5 1, 3) := by decide +kernel
theorem dX9_least_123 : decode cX9_least 123 = .ok (.goto (-42), 3) := by decide +kernel
theorem dX9_least_126 : decode cX9_least 126 = .ok (.aload_n 0, 1) := by decide +kernel
theorem dX9_least_127 : decode cX9_least 127 = .ok (.iconst 0, 1) := by decide +kernel
theorem dX9_least_128 : decode cX9_least 128 = .ok (.iconst 0, 1) := by decide +kernel
theorem dX9_least_129 : decode cX9_least 129 = .ok (.invokevirtual 442, 3) := by decide +kernel
theorem dX9_least_132 : decode cX9_least 132 = .ok (.aload_n 0, 1) := by decide +kernel
theorem dX9_least_133 : decode cX9_least 133 = .ok (.getfield 437, 3) := by decide +kernel
theorem dX9_least_136 : decode cX9_least 136 = .ok (.iconst (-1), 1) := by decide +kernel
theorem dX9_least_137 : decode cX9_least 137 = .ok (.if_icmp .ne 39, 3) := by decide +kernel
theorem dX9_least_140 : decode cX9_least 140 = .ok (.iconst 0, 1) := by decide +kernel
theorem dX9_least_141 : decode cX9_least 141 = .ok (.istore 5, 2) := by decide +kernel
theorem dX9_least_143 : decode cX9_least 143 = .ok (.iload 5, 2) := by decide +kernel
theorem dX9_least_145 : decode cX9_least 145 = .ok (.aload_n 0, 1) := by decide +kernel
theorem dX9_least_146 : decode cX9_least 146 = .ok (.getfield 51, 3) := by decide +kernel
theorem dX9_least_149 : decode cX9_least 149 = .ok (.iconst 0, 1) := by decide +kernel
theorem dX9_least_150 : decode cX9_least 150 = .ok (.iaload, 1) := by decide +kernel
theorem dX9_least_151 : decode cX9_least 151 = .ok (.if_icmp .ge 23, 3) := by decide +kernel
theorem dX9_least_154 : decode cX9_least 154 = .ok (.aload_n 0, 1) := by decide +kernel
theorem dX9_least_155 : decode cX9_least 155 = .ok (.getfield 101, 3) := by decide +kernel
theorem dX9_least_158 : decode cX9_least 158 = .ok (.iload 5, 2) := by decide +kernel
theorem dX9_least_160 : decode cX9_least 160 = .ok (.aload_n 0, 1) := by decide +kernel
theorem dX9_least_161 : decode cX9_least 161 = .ok (.getfield 107, 3) := by decide +kernel
theorem dX9_least_164 : decode cX9_least 164 = .ok (.iload 5, 2) := by decide +kernel
theorem dX9_least_166 : decode cX9_least 166 = .ok (.iaload, 1) := by decide +kernel
theorem dX9_least_167 : decode cX9_least 167 = .ok (.iastore, 1) := by decide +kernel
theorem dX9_least_168 : decode cX9_least 168 = .ok (.iinc 5 1, 3) := by decide +kernel
theorem dX9_least_171 : decode cX9_least 171 = .ok (.goto (-28), 3) := by decide +kernel
theorem dX9_least_174 : decode cX9_least 174 = .ok (.iconst (-1), 1) := by decide +kernel
theorem dX9_least_175 : decode cX9_least 175 = .ok (.ireturn, 1) := by decide +kernel
theorem dX9_least_176 : decode cX9_least 176 = .ok (.aload_n 0, 1) := by decide +kernel
theorem dX9_least_177 : decode cX9_least 177 = .ok (.iconst 1, 1) := by decide +kernel
theorem dX9_least_178 : decode cX9_least 178 = .ok (.putfield 319, 3) := by decide +kernel
theorem dX9_least_181 : decode cX9_least 181 = .ok (.aload_n 0, 1) := by decide +kernel
theorem dX9_least_182 : decode cX9_least 182 = .ok (.getfield 437, 3) := by decide +kernel
theorem dX9_least_185 : decode cX9_least 185 = .ok (.ireturn, 1) := by decide +kernel
theorem dX9_rope_0 : decode cX9_rope 0 = .ok (.aload_n 0, 1) := by decide +kernel
theorem dX9_rope_1 : decode cX9_rope 1 = .ok (.iconst 0, 1) := by decide +kernel
theorem dX9_rope_2 : decode cX9_rope 2 = .ok (.putfield 155, 3) := by decide +kernel
theorem dX9_rope_5 : decode cX9_rope 5 = .ok (.aload_n 0, 1) := by decide +kernel
theorem dX9_rope_6 : decode cX9_rope 6 = .ok (.iload_n 1, 1) := by decide +kernel
theorem dX9_rope_7 : decode cX9_rope 7 = .ok (.invokevirtual 384, 3) := by decide +kernel
theorem dX9_rope_10 : decode cX9_rope 10 = .ok (.ifCond .eq 19, 3) := by decide +kernel
theorem dX9_rope_13 : decode cX9_rope 13 = .ok (.aload_n 0, 1) := by decide +kernel
theorem dX9_rope_14 : decode cX9_rope 14 = .ok (.getfield 319, 3) := by decide +kernel
theorem dX9_rope_17 : decode cX9_rope 17 = .ok (.ifCond .eq 12, 3) := by decide +kernel
theorem dX9_rope_20 : decode cX9_rope 20 = .ok (.aload_n 0, 1) := by decide +kernel
theorem dX9_rope_21 : decode cX9_rope 21 = .ok (.getfield 101, 3) := by decide +kernel
theorem dX9_rope_24 : decode cX9_rope 24 = .ok (.iload_n 1, 1) := by decide +kernel
theorem dX9_rope_25 : decode cX9_rope 25 = .ok (.iaload, 1) := by decide +kernel
theorem dX9_rope_26 : decode cX9_rope 26 = .ok (.goto 8, 3) := by decide +kernel
theorem dX9_rope_29 : decode cX9_rope 29 = .ok (.aload_n 0, 1) := by decide +kernel
theorem dX9_rope_30 : decode cX9_rope 30 = .ok (.iconst 1, 1) := by decide +kernel
theorem dX9_rope_31 : decode cX9_rope 31 = .ok (.invokevirtual 297, 3) := by decide +kernel
theorem dX9_rope_34 : decode cX9_rope 34 = .ok (.ireturn, 1) := by decide +kernel
theorem dX9_goOver_0 : decode cX9_goOver 0 = .ok (.iconst 1, 1) := by decide +kernel
theorem dX9_goOver_1 : decode cX9_goOver 1 = .ok (.istore_n 1, 1) := by decide +kernel
theorem dX9_goOver_2 : decode cX9_goOver 2 = .ok (.iload_n 1, 1) := by decide +kernel
theorem dX9_goOver_3 : decode cX9_goOver 3 = .ok (.ifCond .eq 114, 3) := by decide +kernel
theorem dX9_goOver_6 : decode cX9_goOver 6 = .ok (.iconst 0, 1) := by decide +kernel
theorem dX9_goOver_7 : decode cX9_goOver 7 = .ok (.istore_n 1, 1) := by decide +kernel
theorem dX9_goOver_8 : decode cX9_goOver 8 = .ok (.iconst 0, 1) := by decide +kernel
theorem dX9_goOver_9 : decode cX9_goOver 9 = .ok (.istore_n 2, 1) := by decide +kernel
theorem dX9_goOver_10 : decode cX9_goOver 10 = .ok (.iload_n 2, 1) := by decide +kernel
theorem dX9_goOver_11 : decode cX9_goOver 11 = .ok (.aload_n 0, 1) := by decide +kernel
theorem dX9_goOver_12 : decode cX9_goOver 12 = .ok (.getfield 51, 3) := by decide +kernel
theorem dX9_goOver_15 : decode cX9_goOver 15 = .ok (.iconst 0, 1) := by decide +kernel
theorem dX9_goOver_16 : decode cX9_goOver 16 = .ok (.iaload, 1) := by decide +kernel
theorem dX9_goOver_17 : decode cX9_goOver 17 = .ok (.if_icmp .ge 97, 3) := by decide +kernel
theorem dX9_goOver_20 : decode cX9_goOver 20 = .ok (.iconst 0, 1) := by decide +kernel
theorem dX9_goOver_21 : decode cX9_goOver 21 = .ok (.istore_n 3, 1) := by decide +kernel
theorem dX9_goOver_22 : decode cX9_goOver 22 = .ok (.iload_n 3, 1) := by decide +kernel
theorem dX9_goOver_23 : decode cX9_goOver 23 = .ok (.aload_n 0, 1) := by decide +kernel
theorem dX9_goOver_24 : decode cX9_goOver 24 = .ok (.getfield 51, 3) := by decide +kernel
theorem dX9_goOver_27 : decode cX9_goOver 27 = .ok (.iconst 0, 1) := by decide +kernel
theorem dX9_goOver_28 : decode cX9_goOver 28 = .ok (.iaload, 1) := by decide +kernel
theorem dX9_goOver_29 : decode cX9_goOver 29 = .ok (.if_icmp .ge 79, 3) := by decide +kernel
theorem dX9_goOver_32 : decode cX9_goOver 32 = .ok (.iload_n 2, 1) := by decide +kernel
theorem dX9_goOver_33 : decode cX9_goOver 33 = .ok (.iload_n 3, 1) := by decide +kernel
theorem dX9_goOver_34 : decode cX9_goOver 34 = .ok (.if_icmp .eq 68, 3) := by decide +kernel
theorem dX9_goOver_37 : decode cX9_goOver 37 = .ok (.aload_n 0, 1) := by decide +kernel
theorem dX9_goOver_38 : decode cX9_goOver 38 = .ok (.getfield 110, 3) := by decide +kernel
theorem dX9_goOver_41 : decode cX9_goOver 41 = .ok (.iload_n 2, 1) := by decide +kernel
theorem dX9_goOver_42 : decode cX9_goOver 42 = .ok (.iaload, 1) := by decide +kernel
theorem dX9_goOver_43 : decode cX9_goOver 43 = .ok (.iconst (-1), 1) := by decide +kernel
theorem dX9_goOver_44 : decode cX9_goOver 44 = .ok (.if_icmp .eq 58, 3) := by decide +kernel
theorem dX9_goOver_47 : decode cX9_goOver 47 = .ok (.aload_n 0, 1) := by decide +kernel
theorem dX9_goOver_48 : decode cX9_goOver 48 = .ok (.iload_n 2, 1) := by decide +kernel
theorem dX9_goOver_49 : decode cX9_goOver 49 = .ok (.iload_n 3, 1) := by decide +kernel
theorem dX9_goOver_50 : decode cX9_goOver 50 = .ok (.invokevirtual 401, 3) := by decide +kernel
theorem dX9_goOver_53 : decode cX9_goOver 53 = .ok (.ifCond .eq 49, 3) := by decide +kernel
theorem dX9_goOver_56 : decode cX9_goOver 56 = .ok (.aload_n 0, 1) := by decide +kernel
theorem dX9_goOver_57 : decode cX9_goOver 57 = .ok (.getfield 110, 3) := by decide +kernel
theorem dX9_goOver_60 : decode cX9_goOver 60 = .ok (.iload_n 3, 1) := by decide +kernel
theorem dX9_goOver_61 : decode cX9_goOver 61 = .ok (.iaload, 1) := by decide +kernel
theorem dX9_goOver_62 : decode cX9_goOver 62 = .ok (.iconst (-1), 1) := by decide +kernel
theorem dX9_goOver_63 : decode cX9_goOver 63 = .ok (.if_icmp .eq 23, 3) := by decide +kernel
theorem dX9_goOver_66 : decode cX9_goOver 66 = .ok (.aload_n 0, 1) := by decide +kernel
theorem dX9_goOver_67 : decode cX9_goOver 67 = .ok (.getfield 110, 3) := by decide +kernel
theorem dX9_goOver_70 : decode cX9_goOver 70 = .ok (.iload_n 3, 1) := by decide +kernel
theorem dX9_goOver_71 : decode cX9_goOver 71 = .ok (.iaload, 1) := by decide +kernel
theorem dX9_goOver_72 : decode cX9_goOver 72 = .ok (.aload_n 0, 1) := by decide +kernel
theorem dX9_goOver_73 : decode cX9_goOver 73 = .ok (.getfield 110, 3) := by decide +kernel
theorem dX9_goOver_76 : decode cX9_goOver 76 = .ok (.iload_n 2, 1) := by decide +kernel
theorem dX9_goOver_77 : decode cX9_goOver 77 = .ok (.iaload, 1) := by decide +kernel
theorem dX9_goOver_78 : decode cX9_goOver 78 = .ok (.iconst 1, 1) := by decide +kernel
theorem dX9_goOver_79 : decode cX9_goOver 79 = .ok (.iadd, 1) := by decide +kernel
theorem dX9_goOver_80 : decode cX9_goOver 80 = .ok (.if_icmp .gt 6, 3) := by decide +kernel
theorem dX9_goOver_83 : decode cX9_goOver 83 = .ok (.goto 19, 3) := by decide +kernel
theorem dX9_goOver_86 : decode cX9_goOver 86 = .ok (.aload_n 0, 1) := by decide +kernel
theorem dX9_goOver_87 : decode cX9_goOver 87 = .ok (.getfield 110, 3) := by decide +kernel
theorem dX9_goOver_90 : decode cX9_goOver 90 = .ok (.iload_n 3, 1) := by decide +kernel
theorem dX9_goOver_91 : decode cX9_goOver 91 = .ok (.aload_n 0, 1) := by decide +kernel
theorem dX9_goOver_92 : decode cX9_goOver 92 = .ok (.getfield 110, 3) := by decide +kernel
theorem dX9_goOver_95 : decode cX9_goOver 95 = .ok (.iload_n 2, 1) := by decide +kernel
theorem dX9_goOver_96 : decode cX9_goOver 96 = .ok (.iaload, 1) := by decide +kernel
theorem dX9_goOver_97 : decode cX9_goOver 97 = .ok (.iconst 1, 1) := by decide +kernel
theorem dX9_goOver_98 : decode cX9_goOver 98 = .ok (.iadd, 1) := by decide +kernel
theorem dX9_goOver_99 : decode cX9_goOver 99 = .ok (.iastore, 1) := by decide +kernel
theorem dX9_goOver_100 : decode cX9_goOver 100 = .ok (.iconst 1, 1) := by decide +kernel
theorem dX9_goOver_101 : decode cX9_goOver 101 = .ok (.istore_n 1, 1) := by decide +kernel
theorem dX9_goOver_102 : decode cX9_goOver 102 = .ok (.iinc 3 1, 3) := by decide +kernel
theorem dX9_goOver_105 : decode cX9_goOver 105 = .ok (.goto (-83), 3) := by decide +kernel
theorem dX9_goOver_108 : decode cX9_goOver 108 = .ok (.iinc 2 1, 3) := by decide +kernel
theorem dX9_goOver_111 : decode cX9_goOver 111 = .ok (.goto (-101), 3) := by decide +kernel
theorem dX9_goOver_114 : decode cX9_goOver 114 = .ok (.goto (-112), 3) := by decide +kernel
theorem dX9_goOver_117 : decode cX9_goOver 117 = .ok (.return_, 1) := by decide +kernel
theorem dX9_way_0 : decode cX9_way 0 = .ok (.aload_n 0, 1) := by decide +kernel
theorem dX9_way_1 : decode cX9_way 1 = .ok (.iconst 0, 1) := by decide +kernel
theorem dX9_way_2 : decode cX9_way 2 = .ok (.putfield 155, 3) := by decide +kernel
theorem dX9_way_5 : decode cX9_way 5 = .ok (.aload_n 0, 1) := by decide +kernel
theorem dX9_way_6 : decode cX9_way 6 = .ok (.iload_n 1, 1) := by decide +kernel
theorem dX9_way_7 : decode cX9_way 7 = .ok (.invokevirtual 384, 3) := by decide +kernel
theorem dX9_way_10 : decode cX9_way 10 = .ok (.ifCond .eq 29, 3) := by decide +kernel
theorem dX9_way_13 : decode cX9_way 13 = .ok (.aload_n 0, 1) := by decide +kernel
theorem dX9_way_14 : decode cX9_way 14 = .ok (.iload_n 2, 1) := by decide +kernel
theorem dX9_way_15 : decode cX9_way 15 = .ok (.invokevirtual 384, 3) := by decide +kernel
theorem dX9_way_18 : decode cX9_way 18 = .ok (.ifCond .eq 21, 3) := by decide +kernel
theorem dX9_way_21 : decode cX9_way 21 = .ok (.iload_n 3, 1) := by decide +kernel
theorem dX9_way_22 : decode cX9_way 22 = .ok (.invokestatic 389, 3) := by decide +kernel
theorem dX9_way_25 : decode cX9_way 25 = .ok (.ifCond .eq 14, 3) := by decide +kernel
theorem dX9_way_28 : decode cX9_way 28 = .ok (.iload 4, 2) := by decide +kernel
theorem dX9_way_30 : decode cX9_way 30 = .ok (.ifCond .lt 9, 3) := by decide +kernel
theorem dX9_way_33 : decode cX9_way 33 = .ok (.iload 4, 2) := by decide +kernel
theorem dX9_way_35 : decode cX9_way 35 = .ok (.iconst 1, 1) := by decide +kernel
theorem dX9_way_36 : decode cX9_way 36 = .ok (.if_icmp .le 9, 3) := by decide +kernel
theorem dX9_way_39 : decode cX9_way 39 = .ok (.aload_n 0, 1) := by decide +kernel
theorem dX9_way_40 : decode cX9_way 40 = .ok (.iconst 1, 1) := by decide +kernel
theorem dX9_way_41 : decode cX9_way 41 = .ok (.invokevirtual 297, 3) := by decide +kernel
theorem dX9_way_44 : decode cX9_way 44 = .ok (.ireturn, 1) := by decide +kernel
theorem dX9_way_45 : decode cX9_way 45 = .ok (.iconst 0, 1) := by decide +kernel
theorem dX9_way_46 : decode cX9_way 46 = .ok (.istore 5, 2) := by decide +kernel
theorem dX9_way_48 : decode cX9_way 48 = .ok (.iload 5, 2) := by decide +kernel
theorem dX9_way_50 : decode cX9_way 50 = .ok (.aload_n 0, 1) := by decide +kernel
theorem dX9_way_51 : decode cX9_way 51 = .ok (.getfield 51, 3) := by decide +kernel
theorem dX9_way_54 : decode cX9_way 54 = .ok (.iconst 0, 1) := by decide +kernel
theorem dX9_way_55 : decode cX9_way 55 = .ok (.iaload, 1) := by decide +kernel
theorem dX9_way_56 : decode cX9_way 56 = .ok (.if_icmp .ge 27, 3) := by decide +kernel
theorem dX9_way_59 : decode cX9_way 59 = .ok (.aload_n 0, 1) := by decide +kernel
theorem dX9_way_60 : decode cX9_way 60 = .ok (.getfield 110, 3) := by decide +kernel
theorem dX9_way_63 : decode cX9_way 63 = .ok (.iload 5, 2) := by decide +kernel
theorem dX9_way_65 : decode cX9_way 65 = .ok (.iload 5, 2) := by decide +kernel
theorem dX9_way_67 : decode cX9_way 67 = .ok (.iload_n 1, 1) := by decide +kernel
theorem dX9_way_68 : decode cX9_way 68 = .ok (.if_icmp .ne 7, 3) := by decide +kernel
theorem dX9_way_71 : decode cX9_way 71 = .ok (.iconst 0, 1) := by decide +kernel
theorem dX9_way_72 : decode cX9_way 72 = .ok (.goto 4, 3) := by decide +kernel
theorem dX9_way_75 : decode cX9_way 75 = .ok (.iconst (-1), 1) := by decide +kernel
theorem dX9_way_76 : decode cX9_way 76 = .ok (.iastore, 1) := by decide +kernel
theorem dX9_way_77 : decode cX9_way 77 = .ok (.iinc 5 1, 3) := by decide +kernel
theorem dX9_way_80 : decode cX9_way 80 = .ok (.goto (-32), 3) := by decide +kernel
theorem dX9_way_83 : decode cX9_way 83 = .ok (.iload_n 3, 1) := by decide +kernel
theorem dX9_way_84 : decode cX9_way 84 = .ok (.istore 5, 2) := by decide +kernel
theorem dX9_way_86 : decode cX9_way 86 = .ok (.iload 5, 2) := by decide +kernel
theorem dX9_way_88 : decode cX9_way 88 = .ok (.sipush 168, 3) := by decide +kernel
theorem dX9_way_91 : decode cX9_way 91 = .ok (.if_icmp .ge 47, 3) := by decide +kernel
theorem dX9_way_94 : decode cX9_way 94 = .ok (.aload_n 0, 1) := by decide +kernel
theorem dX9_way_95 : decode cX9_way 95 = .ok (.iload 5, 2) := by decide +kernel
theorem dX9_way_97 : decode cX9_way 97 = .ok (.iconst 0, 1) := by decide +kernel
theorem dX9_way_98 : decode cX9_way 98 = .ok (.invokevirtual 392, 3) := by decide +kernel
theorem dX9_way_101 : decode cX9_way 101 = .ok (.aload_n 0, 1) := by decide +kernel
theorem dX9_way_102 : decode cX9_way 102 = .ok (.invokevirtual 449, 3) := by decide +kernel
theorem dX9_way_105 : decode cX9_way 105 = .ok (.aload_n 0, 1) := by decide +kernel
theorem dX9_way_106 : decode cX9_way 106 = .ok (.getfield 110, 3) := by decide +kernel
theorem dX9_way_109 : decode cX9_way 109 = .ok (.iload_n 2, 1) := by decide +kernel
theorem dX9_way_110 : decode cX9_way 110 = .ok (.iaload, 1) := by decide +kernel
theorem dX9_way_111 : decode cX9_way 111 = .ok (.iconst (-1), 1) := by decide +kernel
theorem dX9_way_112 : decode cX9_way 112 = .ok (.if_icmp .eq 20, 3) := by decide +kernel
theorem dX9_way_115 : decode cX9_way 115 = .ok (.iload 4, 2) := by decide +kernel
theorem dX9_way_117 : decode cX9_way 117 = .ok (.ifCond .ne 8, 3) := by decide +kernel
theorem dX9_way_120 : decode cX9_way 120 = .ok (.iload 5, 2) := by decide +kernel
theorem dX9_way_122 : decode cX9_way 122 = .ok (.goto 9, 3) := by decide +kernel
theorem dX9_way_125 : decode cX9_way 125 = .ok (.aload_n 0, 1) := by decide +kernel
theorem dX9_way_126 : decode cX9_way 126 = .ok (.getfield 110, 3) := by decide +kernel
theorem dX9_way_129 : decode cX9_way 129 = .ok (.iload_n 2, 1) := by decide +kernel
theorem dX9_way_130 : decode cX9_way 130 = .ok (.iaload, 1) := by decide +kernel
theorem dX9_way_131 : decode cX9_way 131 = .ok (.ireturn, 1) := by decide +kernel
theorem dX9_way_132 : decode cX9_way 132 = .ok (.iinc 5 1, 3) := by decide +kernel
theorem dX9_way_135 : decode cX9_way 135 = .ok (.goto (-49), 3) := by decide +kernel
theorem dX9_way_138 : decode cX9_way 138 = .ok (.iconst (-1), 1) := by decide +kernel
theorem dX9_way_139 : decode cX9_way 139 = .ok (.ireturn, 1) := by decide +kernel
theorem dX9_cross_0 : decode cX9_cross 0 = .ok (.aload_n 0, 1) := by decide +kernel
theorem dX9_cross_1 : decode cX9_cross 1 = .ok (.iconst 0, 1) := by decide +kernel
theorem dX9_cross_2 : decode cX9_cross 2 = .ok (.putfield 155, 3) := by decide +kernel
theorem dX9_cross_5 : decode cX9_cross 5 = .ok (.aload_n 0, 1) := by decide +kernel
theorem dX9_cross_6 : decode cX9_cross 6 = .ok (.getfield 313, 3) := by decide +kernel
theorem dX9_cross_9 : decode cX9_cross 9 = .ok (.bipush 40, 2) := by decide +kernel
theorem dX9_cross_11 : decode cX9_cross 11 = .ok (.if_icmp .eq 21, 3) := by decide +kernel
theorem dX9_cross_14 : decode cX9_cross 14 = .ok (.iload_n 1, 1) := by decide +kernel
theorem dX9_cross_15 : decode cX9_cross 15 = .ok (.i2l, 1) := by decide +kernel
theorem dX9_cross_16 : decode cX9_cross 16 = .ok (.lconst 0, 1) := by decide +kernel
theorem dX9_cross_17 : decode cX9_cross 17 = .ok (.aload_n 0, 1) := by decide +kernel
theorem dX9_cross_18 : decode cX9_cross 18 = .ok (.getfield 51, 3) := by decide +kernel
theorem dX9_cross_21 : decode cX9_cross 21 = .ok (.iconst 0, 1) := by decide +kernel
theorem dX9_cross_22 : decode cX9_cross 22 = .ok (.iaload, 1) := by decide +kernel
theorem dX9_cross_23 : decode cX9_cross 23 = .ok (.iconst 2, 1) := by decide +kernel
theorem dX9_cross_24 : decode cX9_cross 24 = .ok (.isub, 1) := by decide +kernel
theorem dX9_cross_25 : decode cX9_cross 25 = .ok (.i2l, 1) := by decide +kernel
theorem dX9_cross_26 : decode cX9_cross 26 = .ok (.invokestatic 158, 3) := by decide +kernel
theorem dX9_cross_29 : decode cX9_cross 29 = .ok (.ifCond .ne 9, 3) := by decide +kernel
theorem dX9_cross_32 : decode cX9_cross 32 = .ok (.aload_n 0, 1) := by decide +kernel
theorem dX9_cross_33 : decode cX9_cross 33 = .ok (.iconst 2, 1) := by decide +kernel
theorem dX9_cross_34 : decode cX9_cross 34 = .ok (.invokevirtual 409, 3) := by decide +kernel
theorem dX9_cross_37 : decode cX9_cross 37 = .ok (.ireturn, 1) := by decide +kernel
theorem dX9_cross_38 : decode cX9_cross 38 = .ok (.aload_n 0, 1) := by decide +kernel
theorem dX9_cross_39 : decode cX9_cross 39 = .ok (.getfield 113, 3) := by decide +kernel
theorem dX9_cross_42 : decode cX9_cross 42 = .ok (.aload_n 0, 1) := by decide +kernel
theorem dX9_cross_43 : decode cX9_cross 43 = .ok (.getfield 313, 3) := by decide +kernel
theorem dX9_cross_46 : decode cX9_cross 46 = .ok (.iconst 2, 1) := by decide +kernel
theorem dX9_cross_47 : decode cX9_cross 47 = .ok (.iload_n 1, 1) := by decide +kernel
theorem dX9_cross_48 : decode cX9_cross 48 = .ok (.imul, 1) := by decide +kernel
theorem dX9_cross_49 : decode cX9_cross 49 = .ok (.iload_n 2, 1) := by decide +kernel
theorem dX9_cross_50 : decode cX9_cross 50 = .ok (.ifCond .eq 7, 3) := by decide +kernel
theorem dX9_cross_53 : decode cX9_cross 53 = .ok (.iconst 1, 1) := by decide +kernel
theorem dX9_cross_54 : decode cX9_cross 54 = .ok (.goto 4, 3) := by decide +kernel
theorem dX9_cross_57 : decode cX9_cross 57 = .ok (.iconst 0, 1) := by decide +kernel
theorem dX9_cross_58 : decode cX9_cross 58 = .ok (.iadd, 1) := by decide +kernel
theorem dX9_cross_59 : decode cX9_cross 59 = .ok (.iastore, 1) := by decide +kernel
theorem dX9_cross_60 : decode cX9_cross 60 = .ok (.aload_n 0, 1) := by decide +kernel
theorem dX9_cross_61 : decode cX9_cross 61 = .ok (.dup, 1) := by decide +kernel
theorem dX9_cross_62 : decode cX9_cross 62 = .ok (.getfield 313, 3) := by decide +kernel
theorem dX9_cross_65 : decode cX9_cross 65 = .ok (.iconst 1, 1) := by decide +kernel
theorem dX9_cross_66 : decode cX9_cross 66 = .ok (.iadd, 1) := by decide +kernel
theorem dX9_cross_67 : decode cX9_cross 67 = .ok (.putfield 313, 3) := by decide +kernel
theorem dX9_cross_70 : decode cX9_cross 70 = .ok (.aload_n 0, 1) := by decide +kernel
theorem dX9_cross_71 : decode cX9_cross 71 = .ok (.getfield 313, 3) := by decide +kernel
theorem dX9_cross_74 : decode cX9_cross 74 = .ok (.ireturn, 1) := by decide +kernel
theorem dX9_uncross_0 : decode cX9_uncross 0 = .ok (.aload_n 0, 1) := by decide +kernel
theorem dX9_uncross_1 : decode cX9_uncross 1 = .ok (.iconst 0, 1) := by decide +kernel
theorem dX9_uncross_2 : decode cX9_uncross 2 = .ok (.putfield 155, 3) := by decide +kernel
theorem dX9_uncross_5 : decode cX9_uncross 5 = .ok (.aload_n 0, 1) := by decide +kernel
theorem dX9_uncross_6 : decode cX9_uncross 6 = .ok (.getfield 313, 3) := by decide +kernel
theorem dX9_uncross_9 : decode cX9_uncross 9 = .ok (.ifCond .ne 5, 3) := by decide +kernel
theorem dX9_uncross_12 : decode cX9_uncross 12 = .ok (.iconst (-1), 1) := by decide +kernel
theorem dX9_uncross_13 : decode cX9_uncross 13 = .ok (.ireturn, 1) := by decide +kernel
theorem dX9_uncross_14 : decode cX9_uncross 14 = .ok (.aload_n 0, 1) := by decide +kernel
theorem dX9_uncross_15 : decode cX9_uncross 15 = .ok (.dup, 1) := by decide +kernel
theorem dX9_uncross_16 : decode cX9_uncross 16 = .ok (.getfield 313, 3) := by decide +kernel
theorem dX9_uncross_19 : decode cX9_uncross 19 = .ok (.iconst 1, 1) := by decide +kernel
theorem dX9_uncross_20 : decode cX9_uncross 20 = .ok (.isub, 1) := by decide +kernel
theorem dX9_uncross_21 : decode cX9_uncross 21 = .ok (.putfield 313, 3) := by decide +kernel
theorem dX9_uncross_24 : decode cX9_uncross 24 = .ok (.aload_n 0, 1) := by decide +kernel
theorem dX9_uncross_25 : decode cX9_uncross 25 = .ok (.getfield 313, 3) := by decide +kernel
theorem dX9_uncross_28 : decode cX9_uncross 28 = .ok (.ireturn, 1) := by decide +kernel
theorem dX9_tellLeft_0 : decode cX9_tellLeft 0 = .ok (.iconst 0, 1) := by decide +kernel
theorem dX9_tellLeft_1 : decode cX9_tellLeft 1 = .ok (.istore_n 1, 1) := by decide +kernel
theorem dX9_tellLeft_2 : decode cX9_tellLeft 2 = .ok (.iconst 0, 1) := by decide +kernel
theorem dX9_tellLeft_3 : decode cX9_tellLeft 3 = .ok (.istore_n 2, 1) := by decide +kernel
theorem dX9_tellLeft_4 : decode cX9_tellLeft 4 = .ok (.iload_n 2, 1) := by decide +kernel
theorem dX9_tellLeft_5 : decode cX9_tellLeft 5 = .ok (.aload_n 0, 1) := by decide +kernel
theorem dX9_tellLeft_6 : decode cX9_tellLeft 6 = .ok (.getfield 313, 3) := by decide +kernel
theorem dX9_tellLeft_9 : decode cX9_tellLeft 9 = .ok (.if_icmp .ge 53, 3) := by decide +kernel
theorem dX9_tellLeft_12 : decode cX9_tellLeft 12 = .ok (.iload_n 1, 1) := by decide +kernel
theorem dX9_tellLeft_13 : decode cX9_tellLeft 13 = .ok (.ifCond .le 28, 3) := by decide +kernel
theorem dX9_tellLeft_16 : decode cX9_tellLeft 16 = .ok (.aload_n 0, 1) := by decide +kernel
theorem dX9_tellLeft_17 : decode cX9_tellLeft 17 = .ok (.getfield 116, 3) := by decide +kernel
theorem dX9_tellLeft_20 : decode cX9_tellLeft 20 = .ok (.iload_n 1, 1) := by decide +kernel
theorem dX9_tellLeft_21 : decode cX9_tellLeft 21 = .ok (.iconst 1, 1) := by decide +kernel
theorem dX9_tellLeft_22 : decode cX9_tellLeft 22 = .ok (.isub, 1) := by decide +kernel
theorem dX9_tellLeft_23 : decode cX9_tellLeft 23 = .ok (.iaload, 1) := by decide +kernel
theorem dX9_tellLeft_24 : decode cX9_tellLeft 24 = .ok (.aload_n 0, 1) := by decide +kernel
theorem dX9_tellLeft_25 : decode cX9_tellLeft 25 = .ok (.getfield 113, 3) := by decide +kernel
theorem dX9_tellLeft_28 : decode cX9_tellLeft 28 = .ok (.iload_n 2, 1) := by decide +kernel
theorem dX9_tellLeft_29 : decode cX9_tellLeft 29 = .ok (.iaload, 1) := by decide +kernel
theorem dX9_tellLeft_30 : decode cX9_tellLeft 30 = .ok (.iconst 1, 1) := by decide +kernel
theorem dX9_tellLeft_31 : decode cX9_tellLeft 31 = .ok (.ixor, 1) := by decide +kernel
theorem dX9_tellLeft_32 : decode cX9_tellLeft 32 = .ok (.if_icmp .ne 9, 3) := by decide +kernel
theorem dX9_tellLeft_35 : decode cX9_tellLeft 35 = .ok (.iinc 1 (-1), 3) := by decide +kernel
theorem dX9_tellLeft_38 : decode cX9_tellLeft 38 = .ok (.goto 18, 3) := by decide +kernel
theorem dX9_tellLeft_41 : decode cX9_tellLeft 41 = .ok (.aload_n 0, 1) := by decide +kernel
theorem dX9_tellLeft_42 : decode cX9_tellLeft 42 = .ok (.getfield 116, 3) := by decide +kernel
theorem dX9_tellLeft_45 : decode cX9_tellLeft 45 = .ok (.iload_n 1, 1) := by decide +kernel
theorem dX9_tellLeft_46 : decode cX9_tellLeft 46 = .ok (.aload_n 0, 1) := by decide +kernel
theorem dX9_tellLeft_47 : decode cX9_tellLeft 47 = .ok (.getfield 113, 3) := by decide +kernel
theorem dX9_tellLeft_50 : decode cX9_tellLeft 50 = .ok (.iload_n 2, 1) := by decide +kernel
theorem dX9_tellLeft_51 : decode cX9_tellLeft 51 = .ok (.iaload, 1) := by decide +kernel
theorem dX9_tellLeft_52 : decode cX9_tellLeft 52 = .ok (.iastore, 1) := by decide +kernel
theorem dX9_tellLeft_53 : decode cX9_tellLeft 53 = .ok (.iinc 1 1, 3) := by decide +kernel
theorem dX9_tellLeft_56 : decode cX9_tellLeft 56 = .ok (.iinc 2 1, 3) := by decide +kernel
theorem dX9_tellLeft_59 : decode cX9_tellLeft 59 = .ok (.goto (-55), 3) := by decide +kernel
theorem dX9_tellLeft_62 : decode cX9_tellLeft 62 = .ok (.iload_n 1, 1) := by decide +kernel
theorem dX9_tellLeft_63 : decode cX9_tellLeft 63 = .ok (.ireturn, 1) := by decide +kernel
theorem dX9_freed_0 : decode cX9_freed 0 = .ok (.aload_n 0, 1) := by decide +kernel
theorem dX9_freed_1 : decode cX9_freed 1 = .ok (.iconst 0, 1) := by decide +kernel
theorem dX9_freed_2 : decode cX9_freed 2 = .ok (.putfield 155, 3) := by decide +kernel
theorem dX9_freed_5 : decode cX9_freed 5 = .ok (.aload_n 0, 1) := by decide +kernel
theorem dX9_freed_6 : decode cX9_freed 6 = .ok (.invokevirtual 452, 3) := by decide +kernel
theorem dX9_freed_9 : decode cX9_freed 9 = .ok (.istore_n 2, 1) := by decide +kernel
theorem dX9_freed_10 : decode cX9_freed 10 = .ok (.iload_n 1, 1) := by decide +kernel
theorem dX9_freed_11 : decode cX9_freed 11 = .ok (.i2l, 1) := by decide +kernel
theorem dX9_freed_12 : decode cX9_freed 12 = .ok (.ldc2_w 455, 3) := by decide +kernel
theorem dX9_freed_15 : decode cX9_freed 15 = .ok (.iload_n 2, 1) := by decide +kernel
theorem dX9_freed_16 : decode cX9_freed 16 = .ok (.iconst 1, 1) := by decide +kernel
theorem dX9_freed_17 : decode cX9_freed 17 = .ok (.isub, 1) := by decide +kernel
theorem dX9_freed_18 : decode cX9_freed 18 = .ok (.i2l, 1) := by decide +kernel
theorem dX9_freed_19 : decode cX9_freed 19 = .ok (.invokestatic 158, 3) := by decide +kernel
theorem dX9_freed_22 : decode cX9_freed 22 = .ok (.ifCond .ne 9, 3) := by decide +kernel
theorem dX9_freed_25 : decode cX9_freed 25 = .ok (.aload_n 0, 1) := by decide +kernel
theorem dX9_freed_26 : decode cX9_freed 26 = .ok (.iconst 1, 1) := by decide +kernel
theorem dX9_freed_27 : decode cX9_freed 27 = .ok (.invokevirtual 297, 3) := by decide +kernel
theorem dX9_freed_30 : decode cX9_freed 30 = .ok (.ireturn, 1) := by decide +kernel
theorem dX9_freed_31 : decode cX9_freed 31 = .ok (.iload_n 1, 1) := by decide +kernel
theorem dX9_freed_32 : decode cX9_freed 32 = .ok (.iconst (-1), 1) := by decide +kernel
theorem dX9_freed_33 : decode cX9_freed 33 = .ok (.if_icmp .ne 7, 3) := by decide +kernel
theorem dX9_freed_36 : decode cX9_freed 36 = .ok (.iload_n 2, 1) := by decide +kernel
theorem dX9_freed_37 : decode cX9_freed 37 = .ok (.goto 23, 3) := by decide +kernel
theorem dX9_freed_40 : decode cX9_freed 40 = .ok (.aload_n 0, 1) := by decide +kernel
theorem dX9_freed_41 : decode cX9_freed 41 = .ok (.getfield 116, 3) := by decide +kernel
theorem dX9_freed_44 : decode cX9_freed 44 = .ok (.iload_n 1, 1) := by decide +kernel
theorem dX9_freed_45 : decode cX9_freed 45 = .ok (.iaload, 1) := by decide +kernel
theorem dX9_freed_46 : decode cX9_freed 46 = .ok (.iconst 2, 1) := by decide +kernel
theorem dX9_freed_47 : decode cX9_freed 47 = .ok (.idiv, 1) := by decide +kernel
theorem dX9_freed_48 : decode cX9_freed 48 = .ok (.bipush 10, 2) := by decide +kernel
theorem dX9_freed_50 : decode cX9_freed 50 = .ok (.aload_n 0, 1) := by decide +kernel
theorem dX9_freed_51 : decode cX9_freed 51 = .ok (.getfield 116, 3) := by decide +kernel
theorem dX9_freed_54 : decode cX9_freed 54 = .ok (.iload_n 1, 1) := by decide +kernel
theorem dX9_freed_55 : decode cX9_freed 55 = .ok (.iaload, 1) := by decide +kernel
theorem dX9_freed_56 : decode cX9_freed 56 = .ok (.iconst 2, 1) := by decide +kernel
theorem dX9_freed_57 : decode cX9_freed 57 = .ok (.irem, 1) := by decide +kernel
theorem dX9_freed_58 : decode cX9_freed 58 = .ok (.imul, 1) := by decide +kernel
theorem dX9_freed_59 : decode cX9_freed 59 = .ok (.iadd, 1) := by decide +kernel
theorem dX9_freed_60 : decode cX9_freed 60 = .ok (.ireturn, 1) := by decide +kernel
theorem dX9_tellPlaces_0 : decode cX9_tellPlaces 0 = .ok (.iconst 0, 1) := by decide +kernel
theorem dX9_tellPlaces_1 : decode cX9_tellPlaces 1 = .ok (.istore_n 1, 1) := by decide +kernel
theorem dX9_tellPlaces_2 : decode cX9_tellPlaces 2 = .ok (.iload_n 1, 1) := by decide +kernel
theorem dX9_tellPlaces_3 : decode cX9_tellPlaces 3 = .ok (.aload_n 0, 1) := by decide +kernel
theorem dX9_tellPlaces_4 : decode cX9_tellPlaces 4 = .ok (.getfield 51, 3) := by decide +kernel
theorem dX9_tellPlaces_7 : decode cX9_tellPlaces 7 = .ok (.iconst 0, 1) := by decide +kernel
theorem dX9_tellPlaces_8 : decode cX9_tellPlaces 8 = .ok (.iaload, 1) := by decide +kernel
theorem dX9_tellPlaces_9 : decode cX9_tellPlaces 9 = .ok (.if_icmp .ge 16, 3) := by decide +kernel
theorem dX9_tellPlaces_12 : decode cX9_tellPlaces 12 = .ok (.aload_n 0, 1) := by decide +kernel
theorem dX9_tellPlaces_13 : decode cX9_tellPlaces 13 = .ok (.getfield 119, 3) := by decide +kernel
theorem dX9_tellPlaces_16 : decode cX9_tellPlaces 16 = .ok (.iload_n 1, 1) := by decide +kernel
theorem dX9_tellPlaces_17 : decode cX9_tellPlaces 17 = .ok (.iload_n 1, 1) := by decide +kernel
theorem dX9_tellPlaces_18 : decode cX9_tellPlaces 18 = .ok (.iastore, 1) := by decide +kernel
theorem dX9_tellPlaces_19 : decode cX9_tellPlaces 19 = .ok (.iinc 1 1, 3) := by decide +kernel
theorem dX9_tellPlaces_22 : decode cX9_tellPlaces 22 = .ok (.goto (-20), 3) := by decide +kernel
theorem dX9_tellPlaces_25 : decode cX9_tellPlaces 25 = .ok (.iconst 0, 1) := by decide +kernel
theorem dX9_tellPlaces_26 : decode cX9_tellPlaces 26 = .ok (.istore_n 1, 1) := by decide +kernel
theorem dX9_tellPlaces_27 : decode cX9_tellPlaces 27 = .ok (.iload_n 1, 1) := by decide +kernel
theorem dX9_tellPlaces_28 : decode cX9_tellPlaces 28 = .ok (.aload_n 0, 1) := by decide +kernel
theorem dX9_tellPlaces_29 : decode cX9_tellPlaces 29 = .ok (.getfield 313, 3) := by decide +kernel
theorem dX9_tellPlaces_32 : decode cX9_tellPlaces 32 = .ok (.if_icmp .ge 48, 3) := by decide +kernel
theorem dX9_tellPlaces_35 : decode cX9_tellPlaces 35 = .ok (.aload_n 0, 1) := by decide +kernel
theorem dX9_tellPlaces_36 : decode cX9_tellPlaces 36 = .ok (.getfield 113, 3) := by decide +kernel
theorem dX9_tellPlaces_39 : decode cX9_tellPlaces 39 = .ok (.iload_n 1, 1) := by decide +kernel
theorem dX9_tellPlaces_40 : decode cX9_tellPlaces 40 = .ok (.iaload, 1) := by decide +kernel
theorem dX9_tellPlaces_41 : decode cX9_tellPlaces 41 = .ok (.iconst 2, 1) := by decide +kernel
theorem dX9_tellPlaces_42 : decode cX9_tellPlaces 42 = .ok (.idiv, 1) := by decide +kernel
theorem dX9_tellPlaces_43 : decode cX9_tellPlaces 43 = .ok (.istore_n 2, 1) := by decide +kernel
theorem dX9_tellPlaces_44 : decode cX9_tellPlaces 44 = .ok (.aload_n 0, 1) := by decide +kernel
theorem dX9_tellPlaces_45 : decode cX9_tellPlaces 45 = .ok (.getfield 119, 3) := by decide +kernel
theorem dX9_tellPlaces_48 : decode cX9_tellPlaces 48 = .ok (.iload_n 2, 1) := by decide +kernel
theorem dX9_tellPlaces_49 : decode cX9_tellPlaces 49 = .ok (.iaload, 1) := by decide +kernel
theorem dX9_tellPlaces_50 : decode cX9_tellPlaces 50 = .ok (.istore_n 3, 1) := by decide +kernel
theorem dX9_tellPlaces_51 : decode cX9_tellPlaces 51 = .ok (.aload_n 0, 1) := by decide +kernel
theorem dX9_tellPlaces_52 : decode cX9_tellPlaces 52 = .ok (.getfield 119, 3) := by decide +kernel
theorem dX9_tellPlaces_55 : decode cX9_tellPlaces 55 = .ok (.iload_n 2, 1) := by decide +kernel
theorem dX9_tellPlaces_56 : decode cX9_tellPlaces 56 = .ok (.aload_n 0, 1) := by decide +kernel
theorem dX9_tellPlaces_57 : decode cX9_tellPlaces 57 = .ok (.getfield 119, 3) := by decide +kernel
theorem dX9_tellPlaces_60 : decode cX9_tellPlaces 60 = .ok (.iload_n 2, 1) := by decide +kernel
theorem dX9_tellPlaces_61 : decode cX9_tellPlaces 61 = .ok (.iconst 1, 1) := by decide +kernel
theorem dX9_tellPlaces_62 : decode cX9_tellPlaces 62 = .ok (.iadd, 1) := by decide +kernel
theorem dX9_tellPlaces_63 : decode cX9_tellPlaces 63 = .ok (.iaload, 1) := by decide +kernel
theorem dX9_tellPlaces_64 : decode cX9_tellPlaces 64 = .ok (.iastore, 1) := by decide +kernel
theorem dX9_tellPlaces_65 : decode cX9_tellPlaces 65 = .ok (.aload_n 0, 1) := by decide +kernel
theorem dX9_tellPlaces_66 : decode cX9_tellPlaces 66 = .ok (.getfield 119, 3) := by decide +kernel
theorem dX9_tellPlaces_69 : decode cX9_tellPlaces 69 = .ok (.iload_n 2, 1) := by decide +kernel
theorem dX9_tellPlaces_70 : decode cX9_tellPlaces 70 = .ok (.iconst 1, 1) := by decide +kernel
theorem dX9_tellPlaces_71 : decode cX9_tellPlaces 71 = .ok (.iadd, 1) := by decide +kernel
theorem dX9_tellPlaces_72 : decode cX9_tellPlaces 72 = .ok (.iload_n 3, 1) := by decide +kernel
theorem dX9_tellPlaces_73 : decode cX9_tellPlaces 73 = .ok (.iastore, 1) := by decide +kernel
theorem dX9_tellPlaces_74 : decode cX9_tellPlaces 74 = .ok (.iinc 1 1, 3) := by decide +kernel
theorem dX9_tellPlaces_77 : decode cX9_tellPlaces 77 = .ok (.goto (-50), 3) := by decide +kernel
theorem dX9_tellPlaces_80 : decode cX9_tellPlaces 80 = .ok (.iconst 0, 1) := by decide +kernel
theorem dX9_tellPlaces_81 : decode cX9_tellPlaces 81 = .ok (.istore_n 1, 1) := by decide +kernel
theorem dX9_tellPlaces_82 : decode cX9_tellPlaces 82 = .ok (.iload_n 1, 1) := by decide +kernel
theorem dX9_tellPlaces_83 : decode cX9_tellPlaces 83 = .ok (.aload_n 0, 1) := by decide +kernel
theorem dX9_tellPlaces_84 : decode cX9_tellPlaces 84 = .ok (.getfield 51, 3) := by decide +kernel
theorem dX9_tellPlaces_87 : decode cX9_tellPlaces 87 = .ok (.iconst 0, 1) := by decide +kernel
theorem dX9_tellPlaces_88 : decode cX9_tellPlaces 88 = .ok (.iaload, 1) := by decide +kernel
theorem dX9_tellPlaces_89 : decode cX9_tellPlaces 89 = .ok (.if_icmp .ge 21, 3) := by decide +kernel
theorem dX9_tellPlaces_92 : decode cX9_tellPlaces 92 = .ok (.aload_n 0, 1) := by decide +kernel
theorem dX9_tellPlaces_93 : decode cX9_tellPlaces 93 = .ok (.getfield 119, 3) := by decide +kernel
theorem dX9_tellPlaces_96 : decode cX9_tellPlaces 96 = .ok (.iload_n 1, 1) := by decide +kernel
theorem dX9_tellPlaces_97 : decode cX9_tellPlaces 97 = .ok (.iaload, 1) := by decide +kernel
theorem dX9_tellPlaces_98 : decode cX9_tellPlaces 98 = .ok (.iload_n 1, 1) := by decide +kernel
theorem dX9_tellPlaces_99 : decode cX9_tellPlaces 99 = .ok (.if_icmp .eq 5, 3) := by decide +kernel
theorem dX9_tellPlaces_102 : decode cX9_tellPlaces 102 = .ok (.iconst 0, 1) := by decide +kernel
theorem dX9_tellPlaces_103 : decode cX9_tellPlaces 103 = .ok (.ireturn, 1) := by decide +kernel
theorem dX9_tellPlaces_104 : decode cX9_tellPlaces 104 = .ok (.iinc 1 1, 3) := by decide +kernel
theorem dX9_tellPlaces_107 : decode cX9_tellPlaces 107 = .ok (.goto (-25), 3) := by decide +kernel
theorem dX9_tellPlaces_110 : decode cX9_tellPlaces 110 = .ok (.iconst 1, 1) := by decide +kernel
theorem dX9_tellPlaces_111 : decode cX9_tellPlaces 111 = .ok (.ireturn, 1) := by decide +kernel
theorem dX9_tangle_0 : decode cX9_tangle 0 = .ok (.aload_n 0, 1) := by decide +kernel
theorem dX9_tangle_1 : decode cX9_tangle 1 = .ok (.iconst 0, 1) := by decide +kernel
theorem dX9_tangle_2 : decode cX9_tangle 2 = .ok (.putfield 155, 3) := by decide +kernel
theorem dX9_tangle_5 : decode cX9_tangle 5 = .ok (.aload_n 0, 1) := by decide +kernel
theorem dX9_tangle_6 : decode cX9_tangle 6 = .ok (.iload_n 1, 1) := by decide +kernel
theorem dX9_tangle_7 : decode cX9_tangle 7 = .ok (.invokevirtual 384, 3) := by decide +kernel
theorem dX9_tangle_10 : decode cX9_tangle 10 = .ok (.ifCond .eq 12, 3) := by decide +kernel
theorem dX9_tangle_13 : decode cX9_tangle 13 = .ok (.iload_n 2, 1) := by decide +kernel
theorem dX9_tangle_14 : decode cX9_tangle 14 = .ok (.ifCond .lt 8, 3) := by decide +kernel
theorem dX9_tangle_17 : decode cX9_tangle 17 = .ok (.iload_n 2, 1) := by decide +kernel
theorem dX9_tangle_18 : decode cX9_tangle 18 = .ok (.iconst 1, 1) := by decide +kernel
theorem dX9_tangle_19 : decode cX9_tangle 19 = .ok (.if_icmp .le 9, 3) := by decide +kernel
theorem dX9_tangle_22 : decode cX9_tangle 22 = .ok (.aload_n 0, 1) := by decide +kernel
theorem dX9_tangle_23 : decode cX9_tangle 23 = .ok (.iconst 1, 1) := by decide +kernel
theorem dX9_tangle_24 : decode cX9_tangle 24 = .ok (.invokevirtual 297, 3) := by decide +kernel
theorem dX9_tangle_27 : decode cX9_tangle 27 = .ok (.ireturn, 1) := by decide +kernel
theorem dX9_tangle_28 : decode cX9_tangle 28 = .ok (.aload_n 0, 1) := by decide +kernel
theorem dX9_tangle_29 : decode cX9_tangle 29 = .ok (.invokevirtual 457, 3) := by decide +kernel
theorem dX9_tangle_32 : decode cX9_tangle 32 = .ok (.istore_n 3, 1) := by decide +kernel
theorem dX9_tangle_33 : decode cX9_tangle 33 = .ok (.iload_n 2, 1) := by decide +kernel
theorem dX9_tangle_34 : decode cX9_tangle 34 = .ok (.iconst 1, 1) := by decide +kernel
theorem dX9_tangle_35 : decode cX9_tangle 35 = .ok (.if_icmp .ne 16, 3) := by decide +kernel
theorem dX9_tangle_38 : decode cX9_tangle 38 = .ok (.iload_n 3, 1) := by decide +kernel
theorem dX9_tangle_39 : decode cX9_tangle 39 = .ok (.ifCond .eq 10, 3) := by decide +kernel
theorem dX9_tangle_42 : decode cX9_tangle 42 = .ok (.aload_n 0, 1) := by decide +kernel
theorem dX9_tangle_43 : decode cX9_tangle 43 = .ok (.invokevirtual 452, 3) := by decide +kernel
theorem dX9_tangle_46 : decode cX9_tangle 46 = .ok (.goto 4, 3) := by decide +kernel
theorem dX9_tangle_49 : decode cX9_tangle 49 = .ok (.iconst 0, 1) := by decide +kernel
theorem dX9_tangle_50 : decode cX9_tangle 50 = .ok (.ireturn, 1) := by decide +kernel
theorem dX9_tangle_51 : decode cX9_tangle 51 = .ok (.iconst 0, 1) := by decide +kernel
theorem dX9_tangle_52 : decode cX9_tangle 52 = .ok (.istore 4, 2) := by decide +kernel
theorem dX9_tangle_54 : decode cX9_tangle 54 = .ok (.aload_n 0, 1) := by decide +kernel
theorem dX9_tangle_55 : decode cX9_tangle 55 = .ok (.getfield 119, 3) := by decide +kernel
theorem dX9_tangle_58 : decode cX9_tangle 58 = .ok (.iload 4, 2) := by decide +kernel
theorem dX9_tangle_60 : decode cX9_tangle 60 = .ok (.iaload, 1) := by decide +kernel
theorem dX9_tangle_61 : decode cX9_tangle 61 = .ok (.iload_n 1, 1) := by decide +kernel
theorem dX9_tangle_62 : decode cX9_tangle 62 = .ok (.if_icmp .eq 9, 3) := by decide +kernel
theorem dX9_tangle_65 : decode cX9_tangle 65 = .ok (.iinc 4 1, 3) := by decide +kernel
theorem dX9_tangle_68 : decode cX9_tangle 68 = .ok (.goto (-14), 3) := by decide +kernel
theorem dX9_tangle_71 : decode cX9_tangle 71 = .ok (.iload 4, 2) := by decide +kernel
theorem dX9_tangle_73 : decode cX9_tangle 73 = .ok (.ireturn, 1) := by decide +kernel
theorem dX9_see_0 : decode cX9_see 0 = .ok (.aload_n 0, 1) := by decide +kernel
theorem dX9_see_1 : decode cX9_see 1 = .ok (.iconst 0, 1) := by decide +kernel
theorem dX9_see_2 : decode cX9_see 2 = .ok (.putfield 155, 3) := by decide +kernel
theorem dX9_see_5 : decode cX9_see 5 = .ok (.aload_n 0, 1) := by decide +kernel
theorem dX9_see_6 : decode cX9_see 6 = .ok (.iload_n 1, 1) := by decide +kernel
theorem dX9_see_7 : decode cX9_see 7 = .ok (.invokevirtual 384, 3) := by decide +kernel
theorem dX9_see_10 : decode cX9_see 10 = .ok (.ifCond .eq 10, 3) := by decide +kernel
theorem dX9_see_13 : decode cX9_see 13 = .ok (.iload_n 2, 1) := by decide +kernel
theorem dX9_see_14 : decode cX9_see 14 = .ok (.invokestatic 389, 3) := by decide +kernel
theorem dX9_see_17 : decode cX9_see 17 = .ok (.ifCond .ne 9, 3) := by decide +kernel
theorem dX9_see_20 : decode cX9_see 20 = .ok (.aload_n 0, 1) := by decide +kernel
theorem dX9_see_21 : decode cX9_see 21 = .ok (.iconst 1, 1) := by decide +kernel
theorem dX9_see_22 : decode cX9_see 22 = .ok (.invokevirtual 297, 3) := by decide +kernel
theorem dX9_see_25 : decode cX9_see 25 = .ok (.ireturn, 1) := by decide +kernel
theorem dX9_see_26 : decode cX9_see 26 = .ok (.aload_n 0, 1) := by decide +kernel
theorem dX9_see_27 : decode cX9_see 27 = .ok (.getfield 316, 3) := by decide +kernel
theorem dX9_see_30 : decode cX9_see 30 = .ok (.bipush 12, 2) := by decide +kernel
theorem dX9_see_32 : decode cX9_see 32 = .ok (.if_icmp .eq 15, 3) := by decide +kernel
theorem dX9_see_35 : decode cX9_see 35 = .ok (.iload_n 3, 1) := by decide +kernel
theorem dX9_see_36 : decode cX9_see 36 = .ok (.i2l, 1) := by decide +kernel
theorem dX9_see_37 : decode cX9_see 37 = .ok (.lconst 0, 1) := by decide +kernel
theorem dX9_see_38 : decode cX9_see 38 = .ok (.ldc2_w 407, 3) := by decide +kernel
theorem dX9_see_41 : decode cX9_see 41 = .ok (.invokestatic 158, 3) := by decide +kernel
theorem dX9_see_44 : decode cX9_see 44 = .ok (.ifCond .ne 9, 3) := by decide +kernel
theorem dX9_see_47 : decode cX9_see 47 = .ok (.aload_n 0, 1) := by decide +kernel
theorem dX9_see_48 : decode cX9_see 48 = .ok (.iconst 2, 1) := by decide +kernel
theorem dX9_see_49 : decode cX9_see 49 = .ok (.invokevirtual 409, 3) := by decide +kernel
theorem dX9_see_52 : decode cX9_see 52 = .ok (.ireturn, 1) := by decide +kernel
theorem dX9_see_53 : decode cX9_see 53 = .ok (.aload_n 0, 1) := by decide +kernel
theorem dX9_see_54 : decode cX9_see 54 = .ok (.getfield 122, 3) := by decide +kernel
theorem dX9_see_57 : decode cX9_see 57 = .ok (.aload_n 0, 1) := by decide +kernel
theorem dX9_see_58 : decode cX9_see 58 = .ok (.getfield 316, 3) := by decide +kernel
theorem dX9_see_61 : decode cX9_see 61 = .ok (.iload_n 1, 1) := by decide +kernel
theorem dX9_see_62 : decode cX9_see 62 = .ok (.iastore, 1) := by decide +kernel
theorem dX9_see_63 : decode cX9_see 63 = .ok (.aload_n 0, 1) := by decide +kernel
theorem dX9_see_64 : decode cX9_see 64 = .ok (.getfield 125, 3) := by decide +kernel
theorem dX9_see_67 : decode cX9_see 67 = .ok (.aload_n 0, 1) := by decide +kernel
theorem dX9_see_68 : decode cX9_see 68 = .ok (.getfield 316, 3) := by decide +kernel
theorem dX9_see_71 : decode cX9_see 71 = .ok (.iload_n 2, 1) := by decide +kernel
theorem dX9_see_72 : decode cX9_see 72 = .ok (.iastore, 1) := by decide +kernel
theorem dX9_see_73 : decode cX9_see 73 = .ok (.aload_n 0, 1) := by decide +kernel
theorem dX9_see_74 : decode cX9_see 74 = .ok (.getfield 128, 3) := by decide +kernel
theorem dX9_see_77 : decode cX9_see 77 = .ok (.aload_n 0, 1) := by decide +kernel
theorem dX9_see_78 : decode cX9_see 78 = .ok (.getfield 316, 3) := by decide +kernel
theorem dX9_see_81 : decode cX9_see 81 = .ok (.iload_n 3, 1) := by decide +kernel
theorem dX9_see_82 : decode cX9_see 82 = .ok (.iastore, 1) := by decide +kernel
theorem dX9_see_83 : decode cX9_see 83 = .ok (.aload_n 0, 1) := by decide +kernel
theorem dX9_see_84 : decode cX9_see 84 = .ok (.dup, 1) := by decide +kernel
theorem dX9_see_85 : decode cX9_see 85 = .ok (.getfield 316, 3) := by decide +kernel
theorem dX9_see_88 : decode cX9_see 88 = .ok (.iconst 1, 1) := by decide +kernel
theorem dX9_see_89 : decode cX9_see 89 = .ok (.iadd, 1) := by decide +kernel
theorem dX9_see_90 : decode cX9_see 90 = .ok (.putfield 316, 3) := by decide +kernel
theorem dX9_see_93 : decode cX9_see 93 = .ok (.aload_n 0, 1) := by decide +kernel
theorem dX9_see_94 : decode cX9_see 94 = .ok (.getfield 316, 3) := by decide +kernel
theorem dX9_see_97 : decode cX9_see 97 = .ok (.ireturn, 1) := by decide +kernel
theorem dX9_isAsSeen_0 : decode cX9_isAsSeen 0 = .ok (.iconst 0, 1) := by decide +kernel
theorem dX9_isAsSeen_1 : decode cX9_isAsSeen 1 = .ok (.istore_n 1, 1) := by decide +kernel
theorem dX9_isAsSeen_2 : decode cX9_isAsSeen 2 = .ok (.iload_n 1, 1) := by decide +kernel
theorem dX9_isAsSeen_3 : decode cX9_isAsSeen 3 = .ok (.aload_n 0, 1) := by decide +kernel
theorem dX9_isAsSeen_4 : decode cX9_isAsSeen 4 = .ok (.getfield 316, 3) := by decide +kernel
theorem dX9_isAsSeen_7 : decode cX9_isAsSeen 7 = .ok (.if_icmp .ge 42, 3) := by decide +kernel
theorem dX9_isAsSeen_10 : decode cX9_isAsSeen 10 = .ok (.aload_n 0, 1) := by decide +kernel
theorem dX9_isAsSeen_11 : decode cX9_isAsSeen 11 = .ok (.aload_n 0, 1) := by decide +kernel
theorem dX9_isAsSeen_12 : decode cX9_isAsSeen 12 = .ok (.getfield 125, 3) := by decide +kernel
theorem dX9_isAsSeen_15 : decode cX9_isAsSeen 15 = .ok (.iload_n 1, 1) := by decide +kernel
theorem dX9_isAsSeen_16 : decode cX9_isAsSeen 16 = .ok (.iaload, 1) := by decide +kernel
theorem dX9_isAsSeen_17 : decode cX9_isAsSeen 17 = .ok (.iconst 0, 1) := by decide +kernel
theorem dX9_isAsSeen_18 : decode cX9_isAsSeen 18 = .ok (.invokevirtual 392, 3) := by decide +kernel
theorem dX9_isAsSeen_21 : decode cX9_isAsSeen 21 = .ok (.aload_n 0, 1) := by decide +kernel
theorem dX9_isAsSeen_22 : decode cX9_isAsSeen 22 = .ok (.getfield 92, 3) := by decide +kernel
theorem dX9_isAsSeen_25 : decode cX9_isAsSeen 25 = .ok (.aload_n 0, 1) := by decide +kernel
theorem dX9_isAsSeen_26 : decode cX9_isAsSeen 26 = .ok (.getfield 122, 3) := by decide +kernel
theorem dX9_isAsSeen_29 : decode cX9_isAsSeen 29 = .ok (.iload_n 1, 1) := by decide +kernel
theorem dX9_isAsSeen_30 : decode cX9_isAsSeen 30 = .ok (.iaload, 1) := by decide +kernel
theorem dX9_isAsSeen_31 : decode cX9_isAsSeen 31 = .ok (.iaload, 1) := by decide +kernel
theorem dX9_isAsSeen_32 : decode cX9_isAsSeen 32 = .ok (.aload_n 0, 1) := by decide +kernel
theorem dX9_isAsSeen_33 : decode cX9_isAsSeen 33 = .ok (.getfield 128, 3) := by decide +kernel
theorem dX9_isAsSeen_36 : decode cX9_isAsSeen 36 = .ok (.iload_n 1, 1) := by decide +kernel
theorem dX9_isAsSeen_37 : decode cX9_isAsSeen 37 = .ok (.iaload, 1) := by decide +kernel
theorem dX9_isAsSeen_38 : decode cX9_isAsSeen 38 = .ok (.if_icmp .eq 5, 3) := by decide +kernel
theorem dX9_isAsSeen_41 : decode cX9_isAsSeen 41 = .ok (.iconst 0, 1) := by decide +kernel
theorem dX9_isAsSeen_42 : decode cX9_isAsSeen 42 = .ok (.ireturn, 1) := by decide +kernel
theorem dX9_isAsSeen_43 : decode cX9_isAsSeen 43 = .ok (.iinc 1 1, 3) := by decide +kernel
theorem dX9_isAsSeen_46 : decode cX9_isAsSeen 46 = .ok (.goto (-44), 3) := by decide +kernel
theorem dX9_isAsSeen_49 : decode cX9_isAsSeen 49 = .ok (.iconst 1, 1) := by decide +kernel
theorem dX9_isAsSeen_50 : decode cX9_isAsSeen 50 = .ok (.ireturn, 1) := by decide +kernel
theorem dX9_fits_0 : decode cX9_fits 0 = .ok (.aload_n 0, 1) := by decide +kernel
theorem dX9_fits_1 : decode cX9_fits 1 = .ok (.iconst 0, 1) := by decide +kernel
theorem dX9_fits_2 : decode cX9_fits 2 = .ok (.putfield 155, 3) := by decide +kernel
theorem dX9_fits_5 : decode cX9_fits 5 = .ok (.iload_n 1, 1) := by decide +kernel
theorem dX9_fits_6 : decode cX9_fits 6 = .ok (.ifCond .lt 8, 3) := by decide +kernel
theorem dX9_fits_9 : decode cX9_fits 9 = .ok (.iload_n 1, 1) := by decide +kernel
theorem dX9_fits_10 : decode cX9_fits 10 = .ok (.iconst 1, 1) := by decide +kernel
theorem dX9_fits_11 : decode cX9_fits 11 = .ok (.if_icmp .le 9, 3) := by decide +kernel
theorem dX9_fits_14 : decode cX9_fits 14 = .ok (.aload_n 0, 1) := by decide +kernel
theorem dX9_fits_15 : decode cX9_fits 15 = .ok (.iconst 1, 1) := by decide +kernel
theorem dX9_fits_16 : decode cX9_fits 16 = .ok (.invokevirtual 297, 3) := by decide +kernel
theorem dX9_fits_19 : decode cX9_fits 19 = .ok (.ireturn, 1) := by decide +kernel
theorem dX9_fits_20 : decode cX9_fits 20 = .ok (.iconst 0, 1) := by decide +kernel
theorem dX9_fits_21 : decode cX9_fits 21 = .ok (.istore_n 2, 1) := by decide +kernel
theorem dX9_fits_22 : decode cX9_fits 22 = .ok (.iconst (-1), 1) := by decide +kernel
theorem dX9_fits_23 : decode cX9_fits 23 = .ok (.istore_n 3, 1) := by decide +kernel
theorem dX9_fits_24 : decode cX9_fits 24 = .ok (.iconst 0, 1) := by decide +kernel
theorem dX9_fits_25 : decode cX9_fits 25 = .ok (.istore 4, 2) := by decide +kernel
theorem dX9_fits_27 : decode cX9_fits 27 = .ok (.iload 4, 2) := by decide +kernel
theorem dX9_fits_29 : decode cX9_fits 29 = .ok (.aload_n 0, 1) := by decide +kernel
theorem dX9_fits_30 : decode cX9_fits 30 = .ok (.getfield 51, 3) := by decide +kernel
theorem dX9_fits_33 : decode cX9_fits 33 = .ok (.iconst 0, 1) := by decide +kernel
theorem dX9_fits_34 : decode cX9_fits 34 = .ok (.iaload, 1) := by decide +kernel
theorem dX9_fits_35 : decode cX9_fits 35 = .ok (.if_icmp .ge 96, 3) := by decide +kernel
theorem dX9_fits_38 : decode cX9_fits 38 = .ok (.aload_n 0, 1) := by decide +kernel
theorem dX9_fits_39 : decode cX9_fits 39 = .ok (.iload 4, 2) := by decide +kernel
theorem dX9_fits_41 : decode cX9_fits 41 = .ok (.iconst 3, 1) := by decide +kernel
theorem dX9_fits_42 : decode cX9_fits 42 = .ok (.invokevirtual 330, 3) := by decide +kernel
theorem dX9_fits_45 : decode cX9_fits 45 = .ok (.istore 5, 2) := by decide +kernel
theorem dX9_fits_47 : decode cX9_fits 47 = .ok (.iconst 1, 1) := by decide +kernel
theorem dX9_fits_48 : decode cX9_fits 48 = .ok (.istore 6, 2) := by decide +kernel
theorem dX9_fits_50 : decode cX9_fits 50 = .ok (.iload 6, 2) := by decide +kernel
theorem dX9_fits_52 : decode cX9_fits 52 = .ok (.bipush 9, 2) := by decide +kernel
theorem dX9_fits_54 : decode cX9_fits 54 = .ok (.if_icmp .gt 62, 3) := by decide +kernel
theorem dX9_fits_57 : decode cX9_fits 57 = .ok (.iload 5, 2) := by decide +kernel
theorem dX9_fits_59 : decode cX9_fits 59 = .ok (.iload 6, 2) := by decide +kernel
theorem dX9_fits_61 : decode cX9_fits 61 = .ok (.iadd, 1) := by decide +kernel
theorem dX9_fits_62 : decode cX9_fits 62 = .ok (.bipush 60, 2) := by decide +kernel
theorem dX9_fits_64 : decode cX9_fits 64 = .ok (.if_icmp .gt 52, 3) := by decide +kernel
theorem dX9_fits_67 : decode cX9_fits 67 = .ok (.aload_n 0, 1) := by decide +kernel
theorem dX9_fits_68 : decode cX9_fits 68 = .ok (.iload 4, 2) := by decide +kernel
theorem dX9_fits_70 : decode cX9_fits 70 = .ok (.iconst 3, 1) := by decide +kernel
theorem dX9_fits_71 : decode cX9_fits 71 = .ok (.iload 5, 2) := by decide +kernel
theorem dX9_fits_73 : decode cX9_fits 73 = .ok (.iload 6, 2) := by decide +kernel
theorem dX9_fits_75 : decode cX9_fits 75 = .ok (.iadd, 1) := by decide +kernel
theorem dX9_fits_76 : decode cX9_fits 76 = .ok (.invokevirtual 415, 3) := by decide +kernel
theorem dX9_fits_79 : decode cX9_fits 79 = .ok (.aload_n 0, 1) := by decide +kernel
theorem dX9_fits_80 : decode cX9_fits 80 = .ok (.invokevirtual 460, 3) := by decide +kernel
theorem dX9_fits_83 : decode cX9_fits 83 = .ok (.ifCond .ne 6, 3) := by decide +kernel
theorem dX9_fits_86 : decode cX9_fits 86 = .ok (.goto 24, 3) := by decide +kernel
theorem dX9_fits_89 : decode cX9_fits 89 = .ok (.iinc 2 1, 3) := by decide +kernel
theorem dX9_fits_92 : decode cX9_fits 92 = .ok (.iload_n 3, 1) := by decide +kernel
theorem dX9_fits_93 : decode cX9_fits 93 = .ok (.iconst (-1), 1) := by decide +kernel
theorem dX9_fits_94 : decode cX9_fits 94 = .ok (.if_icmp .ne 14, 3) := by decide +kernel
theorem dX9_fits_97 : decode cX9_fits 97 = .ok (.bipush 10, 2) := by decide +kernel
theorem dX9_fits_99 : decode cX9_fits 99 = .ok (.iload 4, 2) := by decide +kernel
theorem dX9_fits_101 : decode cX9_fits 101 = .ok (.imul, 1) := by decide +kernel
theorem dX9_fits_102 : decode cX9_fits 102 = .ok (.iload 6, 2) := by decide +kernel
theorem dX9_fits_104 : decode cX9_fits 104 = .ok (.iadd, 1) := by decide +kernel
theorem dX9_fits_105 : decode cX9_fits 105 = .ok (.goto 4, 3) := by decide +kernel
theorem dX9_fits_108 : decode cX9_fits 108 = .ok (.iload_n 3, 1) := by decide +kernel
theorem dX9_fits_109 : decode cX9_fits 109 = .ok (.istore_n 3, 1) := by decide +kernel
theorem dX9_fits_110 : decode cX9_fits 110 = .ok (.iinc 6 1, 3) := by decide +kernel
theorem dX9_fits_113 : decode cX9_fits 113 = .ok (.goto (-63), 3) := by decide +kernel
theorem dX9_fits_116 : decode cX9_fits 116 = .ok (.aload_n 0, 1) := by decide +kernel
theorem dX9_fits_117 : decode cX9_fits 117 = .ok (.iload 4, 2) := by decide +kernel
theorem dX9_fits_119 : decode cX9_fits 119 = .ok (.iconst 3, 1) := by decide +kernel
theorem dX9_fits_120 : decode cX9_fits 120 = .ok (.iload 5, 2) := by decide +kernel
theorem dX9_fits_122 : decode cX9_fits 122 = .ok (.invokevirtual 415, 3) := by decide +kernel
theorem dX9_fits_125 : decode cX9_fits 125 = .ok (.iinc 4 1, 3) := by decide +kernel
theorem dX9_fits_128 : decode cX9_fits 128 = .ok (.goto (-101), 3) := by decide +kernel
theorem dX9_fits_131 : decode cX9_fits 131 = .ok (.iload_n 1, 1) := by decide +kernel
theorem dX9_fits_132 : decode cX9_fits 132 = .ok (.ifCond .ne 7, 3) := by decide +kernel
theorem dX9_fits_135 : decode cX9_fits 135 = .ok (.iload_n 2, 1) := by decide +kernel
theorem dX9_fits_136 : decode cX9_fits 136 = .ok (.goto 4, 3) := by decide +kernel
theorem dX9_fits_139 : decode cX9_fits 139 = .ok (.iload_n 3, 1) := by decide +kernel
theorem dX9_fits_140 : decode cX9_fits 140 = .ok (.ireturn, 1) := by decide +kernel
theorem dX9_weighed_0 : decode cX9_weighed 0 = .ok (.aload_n 0, 1) := by decide +kernel
theorem dX9_weighed_1 : decode cX9_weighed 1 = .ok (.iconst 0, 1) := by decide +kernel
theorem dX9_weighed_2 : decode cX9_weighed 2 = .ok (.putfield 155, 3) := by decide +kernel
theorem dX9_weighed_5 : decode cX9_weighed 5 = .ok (.aload_n 0, 1) := by decide +kernel
theorem dX9_weighed_6 : decode cX9_weighed 6 = .ok (.iload_n 1, 1) := by decide +kernel
theorem dX9_weighed_7 : decode cX9_weighed 7 = .ok (.invokevirtual 384, 3) := by decide +kernel
theorem dX9_weighed_10 : decode cX9_weighed 10 = .ok (.ifCond .eq 21, 3) := by decide +kernel
theorem dX9_weighed_13 : decode cX9_weighed 13 = .ok (.iload_n 2, 1) := by decide +kernel
theorem dX9_weighed_14 : decode cX9_weighed 14 = .ok (.invokestatic 389, 3) := by decide +kernel
theorem dX9_weighed_17 : decode cX9_weighed 17 = .ok (.ifCond .eq 14, 3) := by decide +kernel
theorem dX9_weighed_20 : decode cX9_weighed 20 = .ok (.iload 4, 2) := by decide +kernel
theorem dX9_weighed_22 : decode cX9_weighed 22 = .ok (.ifCond .lt 9, 3) := by decide +kernel
theorem dX9_weighed_25 : decode cX9_weighed 25 = .ok (.iload 4, 2) := by decide +kernel
theorem dX9_weighed_27 : decode cX9_weighed 27 = .ok (.iconst 1, 1) := by decide +kernel
theorem dX9_weighed_28 : decode cX9_weighed 28 = .ok (.if_icmp .le 9, 3) := by decide +kernel
theorem dX9_weighed_31 : decode cX9_weighed 31 = .ok (.aload_n 0, 1) := by decide +kernel
theorem dX9_weighed_32 : decode cX9_weighed 32 = .ok (.iconst 1, 1) := by decide +kernel
theorem dX9_weighed_33 : decode cX9_weighed 33 = .ok (.invokevirtual 297, 3) := by decide +kernel
theorem dX9_weighed_36 : decode cX9_weighed 36 = .ok (.ireturn, 1) := by decide +kernel
theorem dX9_weighed_37 : decode cX9_weighed 37 = .ok (.aload_n 0, 1) := by decide +kernel
theorem dX9_weighed_38 : decode cX9_weighed 38 = .ok (.iload_n 1, 1) := by decide +kernel
theorem dX9_weighed_39 : decode cX9_weighed 39 = .ok (.bipush 7, 2) := by decide +kernel
theorem dX9_weighed_41 : decode cX9_weighed 41 = .ok (.invokevirtual 330, 3) := by decide +kernel
theorem dX9_weighed_44 : decode cX9_weighed 44 = .ok (.istore 5, 2) := by decide +kernel
theorem dX9_weighed_46 : decode cX9_weighed 46 = .ok (.iconst 0, 1) := by decide +kernel
theorem dX9_weighed_47 : decode cX9_weighed 47 = .ok (.istore 6, 2) := by decide +kernel
theorem dX9_weighed_49 : decode cX9_weighed 49 = .ok (.iconst (-1), 1) := by decide +kernel
theorem dX9_weighed_50 : decode cX9_weighed 50 = .ok (.istore 7, 2) := by decide +kernel
theorem dX9_weighed_52 : decode cX9_weighed 52 = .ok (.iconst 0, 1) := by decide +kernel
theorem dX9_weighed_53 : decode cX9_weighed 53 = .ok (.istore 8, 2) := by decide +kernel
theorem dX9_weighed_55 : decode cX9_weighed 55 = .ok (.iload 8, 2) := by decide +kernel
theorem dX9_weighed_57 : decode cX9_weighed 57 = .ok (.bipush 60, 2) := by decide +kernel
theorem dX9_weighed_59 : decode cX9_weighed 59 = .ok (.if_icmp .gt 55, 3) := by decide +kernel
theorem dX9_weighed_62 : decode cX9_weighed 62 = .ok (.aload_n 0, 1) := by decide +kernel
theorem dX9_weighed_63 : decode cX9_weighed 63 = .ok (.iload_n 1, 1) := by decide +kernel
theorem dX9_weighed_64 : decode cX9_weighed 64 = .ok (.bipush 7, 2) := by decide +kernel
theorem dX9_weighed_66 : decode cX9_weighed 66 = .ok (.iload 8, 2) := by decide +kernel
theorem dX9_weighed_68 : decode cX9_weighed 68 = .ok (.invokevirtual 415, 3) := by decide +kernel
theorem dX9_weighed_71 : decode cX9_weighed 71 = .ok (.aload_n 0, 1) := by decide +kernel
theorem dX9_weighed_72 : decode cX9_weighed 72 = .ok (.iload_n 2, 1) := by decide +kernel
theorem dX9_weighed_73 : decode cX9_weighed 73 = .ok (.iconst 0, 1) := by decide +kernel
theorem dX9_weighed_74 : decode cX9_weighed 74 = .ok (.invokevirtual 392, 3) := by decide +kernel
theorem dX9_weighed_77 : decode cX9_weighed 77 = .ok (.aload_n 0, 1) := by decide +kernel
theorem dX9_weighed_78 : decode cX9_weighed 78 = .ok (.getfield 92, 3) := by decide +kernel
theorem dX9_weighed_81 : decode cX9_weighed 81 = .ok (.iload_n 1, 1) := by decide +kernel
theorem dX9_weighed_82 : decode cX9_weighed 82 = .ok (.iaload, 1) := by decide +kernel
theorem dX9_weighed_83 : decode cX9_weighed 83 = .ok (.iload_n 3, 1) := by decide +kernel
theorem dX9_weighed_84 : decode cX9_weighed 84 = .ok (.if_icmp .eq 6, 3) := by decide +kernel
theorem dX9_weighed_87 : decode cX9_weighed 87 = .ok (.goto 21, 3) := by decide +kernel
theorem dX9_weighed_90 : decode cX9_weighed 90 = .ok (.iinc 6 1, 3) := by decide +kernel
theorem dX9_weighed_93 : decode cX9_weighed 93 = .ok (.iload 7, 2) := by decide +kernel
theorem dX9_weighed_95 : decode cX9_weighed 95 = .ok (.iconst (-1), 1) := by decide +kernel
theorem dX9_weighed_96 : decode cX9_weighed 96 = .ok (.if_icmp .ne 8, 3) := by decide +kernel
theorem dX9_weighed_99 : decode cX9_weighed 99 = .ok (.iload 8, 2) := by decide +kernel
theorem dX9_weighed_101 : decode cX9_weighed 101 = .ok (.goto 5, 3) := by decide +kernel
theorem dX9_weighed_104 : decode cX9_weighed 104 = .ok (.iload 7, 2) := by decide +kernel
theorem dX9_weighed_106 : decode cX9_weighed 106 = .ok (.istore 7, 2) := by decide +kernel
theorem dX9_weighed_108 : decode cX9_weighed 108 = .ok (.iinc 8 1, 3) := by decide +kernel
theorem dX9_weighed_111 : decode cX9_weighed 111 = .ok (.goto (-56), 3) := by decide +kernel
theorem dX9_weighed_114 : decode cX9_weighed 114 = .ok (.aload_n 0, 1) := by decide +kernel
theorem dX9_weighed_115 : decode cX9_weighed 115 = .ok (.iload_n 1, 1) := by decide +kernel
theorem dX9_weighed_116 : decode cX9_weighed 116 = .ok (.bipush 7, 2) := by decide +kernel
theorem dX9_weighed_118 : decode cX9_weighed 118 = .ok (.iload 5, 2) := by decide +kernel
theorem dX9_weighed_120 : decode cX9_weighed 120 = .ok (.invokevirtual 415, 3) := by decide +kernel
theorem dX9_weighed_123 : decode cX9_weighed 123 = .ok (.iload 4, 2) := by decide +kernel
theorem dX9_weighed_125 : decode cX9_weighed 125 = .ok (.ifCond .ne 8, 3) := by decide +kernel
theorem dX9_weighed_128 : decode cX9_weighed 128 = .ok (.iload 6, 2) := by decide +kernel
theorem dX9_weighed_130 : decode cX9_weighed 130 = .ok (.goto 5, 3) := by decide +kernel
theorem dX9_weighed_133 : decode cX9_weighed 133 = .ok (.iload 7, 2) := by decide +kernel
theorem dX9_weighed_135 : decode cX9_weighed 135 = .ok (.ireturn, 1) := by decide +kernel
theorem dX9_common_0 : decode cX9_common 0 = .ok (.lload_n 0, 1) := by decide +kernel
theorem dX9_common_1 : decode cX9_common 1 = .ok (.lstore 4, 2) := by decide +kernel
theorem dX9_common_3 : decode cX9_common 3 = .ok (.lload_n 2, 1) := by decide +kernel
theorem dX9_common_4 : decode cX9_common 4 = .ok (.lstore 6, 2) := by decide +kernel
theorem dX9_common_6 : decode cX9_common 6 = .ok (.lload 6, 2) := by decide +kernel
theorem dX9_common_8 : decode cX9_common 8 = .ok (.lconst 0, 1) := by decide +kernel
theorem dX9_common_9 : decode cX9_common 9 = .ok (.lcmp, 1) := by decide +kernel
theorem dX9_common_10 : decode cX9_common 10 = .ok (.ifCond .eq 21, 3) := by decide +kernel
theorem dX9_common_13 : decode cX9_common 13 = .ok (.lload 4, 2) := by decide +kernel
theorem dX9_common_15 : decode cX9_common 15 = .ok (.lload 6, 2) := by decide +kernel
theorem dX9_common_17 : decode cX9_common 17 = .ok (.lrem, 1) := by decide +kernel
theorem dX9_common_18 : decode cX9_common 18 = .ok (.lstore 8, 2) := by decide +kernel
theorem dX9_common_20 : decode cX9_common 20 = .ok (.lload 6, 2) := by decide +kernel
theorem dX9_common_22 : decode cX9_common 22 = .ok (.lstore 4, 2) := by decide +kernel
theorem dX9_common_24 : decode cX9_common 24 = .ok (.lload 8, 2) := by decide +kernel
theorem dX9_common_26 : decode cX9_common 26 = .ok (.lstore 6, 2) := by decide +kernel
theorem dX9_common_28 : decode cX9_common 28 = .ok (.goto (-22), 3) := by decide +kernel
theorem dX9_common_31 : decode cX9_common 31 = .ok (.lload 4, 2) := by decide +kernel
theorem dX9_common_33 : decode cX9_common 33 = .ok (.lreturn, 1) := by decide +kernel
theorem dX9_allGusts_0 : decode cX9_allGusts 0 = .ok (.aload_n 0, 1) := by decide +kernel
theorem dX9_allGusts_1 : decode cX9_allGusts 1 = .ok (.getfield 51, 3) := by decide +kernel
theorem dX9_allGusts_4 : decode cX9_allGusts 4 = .ok (.iconst 5, 1) := by decide +kernel
theorem dX9_allGusts_5 : decode cX9_allGusts 5 = .ok (.iaload, 1) := by decide +kernel
theorem dX9_allGusts_6 : decode cX9_allGusts 6 = .ok (.aload_n 0, 1) := by decide +kernel
theorem dX9_allGusts_7 : decode cX9_allGusts 7 = .ok (.getfield 51, 3) := by decide +kernel
theorem dX9_allGusts_10 : decode cX9_allGusts 10 = .ok (.bipush 6, 2) := by decide +kernel
theorem dX9_allGusts_12 : decode cX9_allGusts 12 = .ok (.iaload, 1) := by decide +kernel
theorem dX9_allGusts_13 : decode cX9_allGusts 13 = .ok (.iadd, 1) := by decide +kernel
theorem dX9_allGusts_14 : decode cX9_allGusts 14 = .ok (.aload_n 0, 1) := by decide +kernel
theorem dX9_allGusts_15 : decode cX9_allGusts 15 = .ok (.getfield 51, 3) := by decide +kernel
theorem dX9_allGusts_18 : decode cX9_allGusts 18 = .ok (.bipush 7, 2) := by decide +kernel
theorem dX9_allGusts_20 : decode cX9_allGusts 20 = .ok (.iaload, 1) := by decide +kernel
theorem dX9_allGusts_21 : decode cX9_allGusts 21 = .ok (.iadd, 1) := by decide +kernel
theorem dX9_allGusts_22 : decode cX9_allGusts 22 = .ok (.aload_n 0, 1) := by decide +kernel
theorem dX9_allGusts_23 : decode cX9_allGusts 23 = .ok (.getfield 51, 3) := by decide +kernel
theorem dX9_allGusts_26 : decode cX9_allGusts 26 = .ok (.bipush 8, 2) := by decide +kernel
theorem dX9_allGusts_28 : decode cX9_allGusts 28 = .ok (.iaload, 1) := by decide +kernel
theorem dX9_allGusts_29 : decode cX9_allGusts 29 = .ok (.iadd, 1) := by decide +kernel
theorem dX9_allGusts_30 : decode cX9_allGusts 30 = .ok (.ireturn, 1) := by decide +kernel
theorem dX9_knockedBy_0 : decode cX9_knockedBy 0 = .ok (.iconst 0, 1) := by decide +kernel
theorem dX9_knockedBy_1 : decode cX9_knockedBy 1 = .ok (.istore_n 2, 1) := by decide +kernel
theorem dX9_knockedBy_2 : decode cX9_knockedBy 2 = .ok (.iconst 0, 1) := by decide +kernel
theorem dX9_knockedBy_3 : decode cX9_knockedBy 3 = .ok (.istore_n 3, 1) := by decide +kernel
theorem dX9_knockedBy_4 : decode cX9_knockedBy 4 = .ok (.iload_n 3, 1) := by decide +kernel
theorem dX9_knockedBy_5 : decode cX9_knockedBy 5 = .ok (.iconst 4, 1) := by decide +kernel
theorem dX9_knockedBy_6 : decode cX9_knockedBy 6 = .ok (.if_icmp .ge 38, 3) := by decide +kernel
theorem dX9_knockedBy_9 : decode cX9_knockedBy 9 = .ok (.aload_n 0, 1) := by decide +kernel
theorem dX9_knockedBy_10 : decode cX9_knockedBy 10 = .ok (.iload_n 1, 1) := by decide +kernel
theorem dX9_knockedBy_11 : decode cX9_knockedBy 11 = .ok (.iload_n 3, 1) := by decide +kernel
theorem dX9_knockedBy_12 : decode cX9_knockedBy 12 = .ok (.invokevirtual 392, 3) := by decide +kernel
theorem dX9_knockedBy_15 : decode cX9_knockedBy 15 = .ok (.iload_n 2, 1) := by decide +kernel
theorem dX9_knockedBy_16 : decode cX9_knockedBy 16 = .ok (.aload_n 0, 1) := by decide +kernel
theorem dX9_knockedBy_17 : decode cX9_knockedBy 17 = .ok (.invokevirtual 421, 3) := by decide +kernel
theorem dX9_knockedBy_20 : decode cX9_knockedBy 20 = .ok (.iconst (-1), 1) := by decide +kernel
theorem dX9_knockedBy_21 : decode cX9_knockedBy 21 = .ok (.if_icmp .ne 7, 3) := by decide +kernel
theorem dX9_knockedBy_24 : decode cX9_knockedBy 24 = .ok (.iconst 0, 1) := by decide +kernel
theorem dX9_knockedBy_25 : decode cX9_knockedBy 25 = .ok (.goto 11, 3) := by decide +kernel
theorem dX9_knockedBy_28 : decode cX9_knockedBy 28 = .ok (.aload_n 0, 1) := by decide +kernel
theorem dX9_knockedBy_29 : decode cX9_knockedBy 29 = .ok (.getfield 51, 3) := by decide +kernel
theorem dX9_knockedBy_32 : decode cX9_knockedBy 32 = .ok (.iconst 5, 1) := by decide +kernel
theorem dX9_knockedBy_33 : decode cX9_knockedBy 33 = .ok (.iload_n 3, 1) := by decide +kernel
theorem dX9_knockedBy_34 : decode cX9_knockedBy 34 = .ok (.iadd, 1) := by decide +kernel
theorem dX9_knockedBy_35 : decode cX9_knockedBy 35 = .ok (.iaload, 1) := by decide +kernel
theorem dX9_knockedBy_36 : decode cX9_knockedBy 36 = .ok (.iadd, 1) := by decide +kernel
theorem dX9_knockedBy_37 : decode cX9_knockedBy 37 = .ok (.istore_n 2, 1) := by decide +kernel
theorem dX9_knockedBy_38 : decode cX9_knockedBy 38 = .ok (.iinc 3 1, 3) := by decide +kernel
theorem dX9_knockedBy_41 : decode cX9_knockedBy 41 = .ok (.goto (-37), 3) := by decide +kernel
theorem dX9_knockedBy_44 : decode cX9_knockedBy 44 = .ok (.iload_n 2, 1) := by decide +kernel
theorem dX9_knockedBy_45 : decode cX9_knockedBy 45 = .ok (.ireturn, 1) := by decide +kernel
theorem dX9_gust_0 : decode cX9_gust 0 = .ok (.aload_n 0, 1) := by decide +kernel
theorem dX9_gust_1 : decode cX9_gust 1 = .ok (.iconst 0, 1) := by decide +kernel
theorem dX9_gust_2 : decode cX9_gust 2 = .ok (.putfield 155, 3) := by decide +kernel
theorem dX9_gust_5 : decode cX9_gust 5 = .ok (.iload_n 1, 1) := by decide +kernel
theorem dX9_gust_6 : decode cX9_gust 6 = .ok (.invokestatic 389, 3) := by decide +kernel
theorem dX9_gust_9 : decode cX9_gust 9 = .ok (.ifCond .eq 12, 3) := by decide +kernel
theorem dX9_gust_12 : decode cX9_gust 12 = .ok (.iload_n 2, 1) := by decide +kernel
theorem dX9_gust_13 : decode cX9_gust 13 = .ok (.ifCond .lt 8, 3) := by decide +kernel
theorem dX9_gust_16 : decode cX9_gust 16 = .ok (.iload_n 2, 1) := by decide +kernel
theorem dX9_gust_17 : decode cX9_gust 17 = .ok (.iconst 1, 1) := by decide +kernel
theorem dX9_gust_18 : decode cX9_gust 18 = .ok (.if_icmp .le 9, 3) := by decide +kernel
theorem dX9_gust_21 : decode cX9_gust 21 = .ok (.aload_n 0, 1) := by decide +kernel
theorem dX9_gust_22 : decode cX9_gust 22 = .ok (.iconst 1, 1) := by decide +kernel
theorem dX9_gust_23 : decode cX9_gust 23 = .ok (.invokevirtual 297, 3) := by decide +kernel
