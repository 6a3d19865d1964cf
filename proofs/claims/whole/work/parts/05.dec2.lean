theorem dX10_plans_66 : decode cX10_plans 66 = .ok (.getfield 22, 3) := by decide +kernel
theorem dX10_plans_69 : decode cX10_plans 69 = .ok (.iload_n 1, 1) := by decide +kernel
theorem dX10_plans_70 : decode cX10_plans 70 = .ok (.iaload, 1) := by decide +kernel
theorem dX10_plans_71 : decode cX10_plans 71 = .ok (.invokevirtual 149, 3) := by decide +kernel
theorem dX10_plans_74 : decode cX10_plans 74 = .ok (.ifCond .eq 7, 3) := by decide +kernel
theorem dX10_plans_77 : decode cX10_plans 77 = .ok (.iconst 1, 1) := by decide +kernel
theorem dX10_plans_78 : decode cX10_plans 78 = .ok (.goto 4, 3) := by decide +kernel
theorem dX10_plans_81 : decode cX10_plans 81 = .ok (.iconst 0, 1) := by decide +kernel
theorem dX10_plans_82 : decode cX10_plans 82 = .ok (.bastore, 1) := by decide +kernel
theorem dX10_plans_83 : decode cX10_plans 83 = .ok (.iinc 1 1, 3) := by decide +kernel
theorem dX10_plans_86 : decode cX10_plans 86 = .ok (.goto (-41), 3) := by decide +kernel
theorem dX10_plans_89 : decode cX10_plans 89 = .ok (.bipush 84, 2) := by decide +kernel
theorem dX10_plans_91 : decode cX10_plans 91 = .ok (.istore_n 1, 1) := by decide +kernel
theorem dX10_plans_92 : decode cX10_plans 92 = .ok (.iload_n 1, 1) := by decide +kernel
theorem dX10_plans_93 : decode cX10_plans 93 = .ok (.ifCond .lt 102, 3) := by decide +kernel
theorem dX10_plans_96 : decode cX10_plans 96 = .ok (.aload_n 0, 1) := by decide +kernel
theorem dX10_plans_97 : decode cX10_plans 97 = .ok (.getfield 32, 3) := by decide +kernel
theorem dX10_plans_100 : decode cX10_plans 100 = .ok (.iload_n 1, 1) := by decide +kernel
theorem dX10_plans_101 : decode cX10_plans 101 = .ok (.iload_n 1, 1) := by decide +kernel
theorem dX10_plans_102 : decode cX10_plans 102 = .ok (.ifCond .eq 25, 3) := by decide +kernel
theorem dX10_plans_105 : decode cX10_plans 105 = .ok (.aload_n 0, 1) := by decide +kernel
theorem dX10_plans_106 : decode cX10_plans 106 = .ok (.getfield 7, 3) := by decide +kernel
theorem dX10_plans_109 : decode cX10_plans 109 = .ok (.iload_n 1, 1) := by decide +kernel
theorem dX10_plans_110 : decode cX10_plans 110 = .ok (.iaload, 1) := by decide +kernel
theorem dX10_plans_111 : decode cX10_plans 111 = .ok (.ifCond .eq 20, 3) := by decide +kernel
theorem dX10_plans_114 : decode cX10_plans 114 = .ok (.aload_n 0, 1) := by decide +kernel
theorem dX10_plans_115 : decode cX10_plans 115 = .ok (.aload_n 0, 1) := by decide +kernel
theorem dX10_plans_116 : decode cX10_plans 116 = .ok (.getfield 7, 3) := by decide +kernel
theorem dX10_plans_119 : decode cX10_plans 119 = .ok (.iload_n 1, 1) := by decide +kernel
theorem dX10_plans_120 : decode cX10_plans 120 = .ok (.iaload, 1) := by decide +kernel
theorem dX10_plans_121 : decode cX10_plans 121 = .ok (.invokevirtual 149, 3) := by decide +kernel
theorem dX10_plans_124 : decode cX10_plans 124 = .ok (.ifCond .eq 7, 3) := by decide +kernel
theorem dX10_plans_127 : decode cX10_plans 127 = .ok (.iconst 1, 1) := by decide +kernel
theorem dX10_plans_128 : decode cX10_plans 128 = .ok (.goto 4, 3) := by decide +kernel
theorem dX10_plans_131 : decode cX10_plans 131 = .ok (.iconst 0, 1) := by decide +kernel
theorem dX10_plans_132 : decode cX10_plans 132 = .ok (.bastore, 1) := by decide +kernel
theorem dX10_plans_133 : decode cX10_plans 133 = .ok (.iload_n 1, 1) := by decide +kernel
theorem dX10_plans_134 : decode cX10_plans 134 = .ok (.bipush 21, 2) := by decide +kernel
theorem dX10_plans_136 : decode cX10_plans 136 = .ok (.if_icmp .lt 15, 3) := by decide +kernel
theorem dX10_plans_139 : decode cX10_plans 139 = .ok (.aload_n 0, 1) := by decide +kernel
theorem dX10_plans_140 : decode cX10_plans 140 = .ok (.getfield 28, 3) := by decide +kernel
theorem dX10_plans_143 : decode cX10_plans 143 = .ok (.iload_n 1, 1) := by decide +kernel
theorem dX10_plans_144 : decode cX10_plans 144 = .ok (.bipush 21, 2) := by decide +kernel
theorem dX10_plans_146 : decode cX10_plans 146 = .ok (.isub, 1) := by decide +kernel
theorem dX10_plans_147 : decode cX10_plans 147 = .ok (.baload, 1) := by decide +kernel
theorem dX10_plans_148 : decode cX10_plans 148 = .ok (.goto 20, 3) := by decide +kernel
theorem dX10_plans_151 : decode cX10_plans 151 = .ok (.iload_n 1, 1) := by decide +kernel
theorem dX10_plans_152 : decode cX10_plans 152 = .ok (.ifCond .le 15, 3) := by decide +kernel
theorem dX10_plans_155 : decode cX10_plans 155 = .ok (.aload_n 0, 1) := by decide +kernel
theorem dX10_plans_156 : decode cX10_plans 156 = .ok (.iload_n 1, 1) := by decide +kernel
theorem dX10_plans_157 : decode cX10_plans 157 = .ok (.invokevirtual 235, 3) := by decide +kernel
theorem dX10_plans_160 : decode cX10_plans 160 = .ok (.ifCond .ne 7, 3) := by decide +kernel
theorem dX10_plans_163 : decode cX10_plans 163 = .ok (.iconst 1, 1) := by decide +kernel
theorem dX10_plans_164 : decode cX10_plans 164 = .ok (.goto 4, 3) := by decide +kernel
theorem dX10_plans_167 : decode cX10_plans 167 = .ok (.iconst 0, 1) := by decide +kernel
theorem dX10_plans_168 : decode cX10_plans 168 = .ok (.istore_n 2, 1) := by decide +kernel
theorem dX10_plans_169 : decode cX10_plans 169 = .ok (.aload_n 0, 1) := by decide +kernel
theorem dX10_plans_170 : decode cX10_plans 170 = .ok (.getfield 13, 3) := by decide +kernel
theorem dX10_plans_173 : decode cX10_plans 173 = .ok (.iload_n 1, 1) := by decide +kernel
theorem dX10_plans_174 : decode cX10_plans 174 = .ok (.iload_n 2, 1) := by decide +kernel
theorem dX10_plans_175 : decode cX10_plans 175 = .ok (.ifCond .eq 7, 3) := by decide +kernel
theorem dX10_plans_178 : decode cX10_plans 178 = .ok (.iconst 0, 1) := by decide +kernel
theorem dX10_plans_179 : decode cX10_plans 179 = .ok (.goto 9, 3) := by decide +kernel
theorem dX10_plans_182 : decode cX10_plans 182 = .ok (.aload_n 0, 1) := by decide +kernel
theorem dX10_plans_183 : decode cX10_plans 183 = .ok (.getfield 7, 3) := by decide +kernel
theorem dX10_plans_186 : decode cX10_plans 186 = .ok (.iload_n 1, 1) := by decide +kernel
theorem dX10_plans_187 : decode cX10_plans 187 = .ok (.iaload, 1) := by decide +kernel
theorem dX10_plans_188 : decode cX10_plans 188 = .ok (.iastore, 1) := by decide +kernel
theorem dX10_plans_189 : decode cX10_plans 189 = .ok (.iinc 1 (-1), 3) := by decide +kernel
theorem dX10_plans_192 : decode cX10_plans 192 = .ok (.goto (-100), 3) := by decide +kernel
theorem dX10_plans_195 : decode cX10_plans 195 = .ok (.iconst 0, 1) := by decide +kernel
theorem dX10_plans_196 : decode cX10_plans 196 = .ok (.istore_n 1, 1) := by decide +kernel
theorem dX10_plans_197 : decode cX10_plans 197 = .ok (.iconst 0, 1) := by decide +kernel
theorem dX10_plans_198 : decode cX10_plans 198 = .ok (.istore_n 2, 1) := by decide +kernel
theorem dX10_plans_199 : decode cX10_plans 199 = .ok (.iload_n 2, 1) := by decide +kernel
theorem dX10_plans_200 : decode cX10_plans 200 = .ok (.bipush 21, 2) := by decide +kernel
theorem dX10_plans_202 : decode cX10_plans 202 = .ok (.if_icmp .ge 85, 3) := by decide +kernel
theorem dX10_plans_205 : decode cX10_plans 205 = .ok (.aload_n 0, 1) := by decide +kernel
theorem dX10_plans_206 : decode cX10_plans 206 = .ok (.getfield 32, 3) := by decide +kernel
theorem dX10_plans_209 : decode cX10_plans 209 = .ok (.iload_n 2, 1) := by decide +kernel
theorem dX10_plans_210 : decode cX10_plans 210 = .ok (.aload_n 0, 1) := by decide +kernel
theorem dX10_plans_211 : decode cX10_plans 211 = .ok (.getfield 32, 3) := by decide +kernel
theorem dX10_plans_214 : decode cX10_plans 214 = .ok (.iload_n 2, 1) := by decide +kernel
theorem dX10_plans_215 : decode cX10_plans 215 = .ok (.baload, 1) := by decide +kernel
theorem dX10_plans_216 : decode cX10_plans 216 = .ok (.ifCond .eq 16, 3) := by decide +kernel
theorem dX10_plans_219 : decode cX10_plans 219 = .ok (.aload_n 0, 1) := by decide +kernel
theorem dX10_plans_220 : decode cX10_plans 220 = .ok (.getfield 13, 3) := by decide +kernel
theorem dX10_plans_223 : decode cX10_plans 223 = .ok (.iload_n 2, 1) := by decide +kernel
theorem dX10_plans_224 : decode cX10_plans 224 = .ok (.iaload, 1) := by decide +kernel
theorem dX10_plans_225 : decode cX10_plans 225 = .ok (.ifCond .eq 7, 3) := by decide +kernel
theorem dX10_plans_228 : decode cX10_plans 228 = .ok (.iconst 1, 1) := by decide +kernel
theorem dX10_plans_229 : decode cX10_plans 229 = .ok (.goto 4, 3) := by decide +kernel
theorem dX10_plans_232 : decode cX10_plans 232 = .ok (.iconst 0, 1) := by decide +kernel
theorem dX10_plans_233 : decode cX10_plans 233 = .ok (.bastore, 1) := by decide +kernel
theorem dX10_plans_234 : decode cX10_plans 234 = .ok (.iconst 4, 1) := by decide +kernel
theorem dX10_plans_235 : decode cX10_plans 235 = .ok (.iload_n 2, 1) := by decide +kernel
theorem dX10_plans_236 : decode cX10_plans 236 = .ok (.imul, 1) := by decide +kernel
theorem dX10_plans_237 : decode cX10_plans 237 = .ok (.iconst 1, 1) := by decide +kernel
theorem dX10_plans_238 : decode cX10_plans 238 = .ok (.iadd, 1) := by decide +kernel
theorem dX10_plans_239 : decode cX10_plans 239 = .ok (.istore_n 3, 1) := by decide +kernel
theorem dX10_plans_240 : decode cX10_plans 240 = .ok (.aload_n 0, 1) := by decide +kernel
theorem dX10_plans_241 : decode cX10_plans 241 = .ok (.getfield 32, 3) := by decide +kernel
theorem dX10_plans_244 : decode cX10_plans 244 = .ok (.iload_n 2, 1) := by decide +kernel
theorem dX10_plans_245 : decode cX10_plans 245 = .ok (.baload, 1) := by decide +kernel
theorem dX10_plans_246 : decode cX10_plans 246 = .ok (.ifCond .eq 35, 3) := by decide +kernel
theorem dX10_plans_249 : decode cX10_plans 249 = .ok (.iload_n 3, 1) := by decide +kernel
theorem dX10_plans_250 : decode cX10_plans 250 = .ok (.iconst 4, 1) := by decide +kernel
theorem dX10_plans_251 : decode cX10_plans 251 = .ok (.iload_n 2, 1) := by decide +kernel
theorem dX10_plans_252 : decode cX10_plans 252 = .ok (.imul, 1) := by decide +kernel
theorem dX10_plans_253 : decode cX10_plans 253 = .ok (.iconst 4, 1) := by decide +kernel
theorem dX10_plans_254 : decode cX10_plans 254 = .ok (.iadd, 1) := by decide +kernel
theorem dX10_plans_255 : decode cX10_plans 255 = .ok (.if_icmp .gt 26, 3) := by decide +kernel
theorem dX10_plans_258 : decode cX10_plans 258 = .ok (.iload_n 1, 1) := by decide +kernel
theorem dX10_plans_259 : decode cX10_plans 259 = .ok (.aload_n 0, 1) := by decide +kernel
theorem dX10_plans_260 : decode cX10_plans 260 = .ok (.getfield 13, 3) := by decide +kernel
theorem dX10_plans_263 : decode cX10_plans 263 = .ok (.iload_n 3, 1) := by decide +kernel
theorem dX10_plans_264 : decode cX10_plans 264 = .ok (.iaload, 1) := by decide +kernel
theorem dX10_plans_265 : decode cX10_plans 265 = .ok (.ifCond .eq 7, 3) := by decide +kernel
theorem dX10_plans_268 : decode cX10_plans 268 = .ok (.iconst 1, 1) := by decide +kernel
theorem dX10_plans_269 : decode cX10_plans 269 = .ok (.goto 4, 3) := by decide +kernel
theorem dX10_plans_272 : decode cX10_plans 272 = .ok (.iconst 0, 1) := by decide +kernel
theorem dX10_plans_273 : decode cX10_plans 273 = .ok (.iadd, 1) := by decide +kernel
theorem dX10_plans_274 : decode cX10_plans 274 = .ok (.istore_n 1, 1) := by decide +kernel
theorem dX10_plans_275 : decode cX10_plans 275 = .ok (.iinc 3 1, 3) := by decide +kernel
theorem dX10_plans_278 : decode cX10_plans 278 = .ok (.goto (-38), 3) := by decide +kernel
theorem dX10_plans_281 : decode cX10_plans 281 = .ok (.iinc 2 1, 3) := by decide +kernel
theorem dX10_plans_284 : decode cX10_plans 284 = .ok (.goto (-85), 3) := by decide +kernel
theorem dX10_plans_287 : decode cX10_plans 287 = .ok (.iload_n 1, 1) := by decide +kernel
theorem dX10_plans_288 : decode cX10_plans 288 = .ok (.ireturn, 1) := by decide +kernel
theorem dX10_forget_0 : decode cX10_forget 0 = .ok (.aload_n 0, 1) := by decide +kernel
theorem dX10_forget_1 : decode cX10_forget 1 = .ok (.aload_n 0, 1) := by decide +kernel
theorem dX10_forget_2 : decode cX10_forget 2 = .ok (.invokevirtual 232, 3) := by decide +kernel
theorem dX10_forget_5 : decode cX10_forget 5 = .ok (.ifCond .ne 7, 3) := by decide +kernel
theorem dX10_forget_8 : decode cX10_forget 8 = .ok (.iconst 1, 1) := by decide +kernel
theorem dX10_forget_9 : decode cX10_forget 9 = .ok (.goto 4, 3) := by decide +kernel
theorem dX10_forget_12 : decode cX10_forget 12 = .ok (.iconst 0, 1) := by decide +kernel
theorem dX10_forget_13 : decode cX10_forget 13 = .ok (.putfield 82, 3) := by decide +kernel
theorem dX10_forget_16 : decode cX10_forget 16 = .ok (.aload_n 0, 1) := by decide +kernel
theorem dX10_forget_17 : decode cX10_forget 17 = .ok (.getfield 82, 3) := by decide +kernel
theorem dX10_forget_20 : decode cX10_forget 20 = .ok (.ifCond .le 5, 3) := by decide +kernel
theorem dX10_forget_23 : decode cX10_forget 23 = .ok (.iconst 0, 1) := by decide +kernel
theorem dX10_forget_24 : decode cX10_forget 24 = .ok (.ireturn, 1) := by decide +kernel
theorem dX10_forget_25 : decode cX10_forget 25 = .ok (.aload_n 0, 1) := by decide +kernel
theorem dX10_forget_26 : decode cX10_forget 26 = .ok (.invokevirtual 238, 3) := by decide +kernel
theorem dX10_forget_29 : decode cX10_forget 29 = .ok (.istore_n 2, 1) := by decide +kernel
theorem dX10_forget_30 : decode cX10_forget 30 = .ok (.iconst 0, 1) := by decide +kernel
theorem dX10_forget_31 : decode cX10_forget 31 = .ok (.istore_n 3, 1) := by decide +kernel
theorem dX10_forget_32 : decode cX10_forget 32 = .ok (.iconst 0, 1) := by decide +kernel
theorem dX10_forget_33 : decode cX10_forget 33 = .ok (.istore 4, 2) := by decide +kernel
theorem dX10_forget_35 : decode cX10_forget 35 = .ok (.iload 4, 2) := by decide +kernel
theorem dX10_forget_37 : decode cX10_forget 37 = .ok (.iconst 4, 1) := by decide +kernel
theorem dX10_forget_38 : decode cX10_forget 38 = .ok (.if_icmp .ge 19, 3) := by decide +kernel
theorem dX10_forget_41 : decode cX10_forget 41 = .ok (.iload_n 3, 1) := by decide +kernel
theorem dX10_forget_42 : decode cX10_forget 42 = .ok (.aload_n 0, 1) := by decide +kernel
theorem dX10_forget_43 : decode cX10_forget 43 = .ok (.getfield 35, 3) := by decide +kernel
theorem dX10_forget_46 : decode cX10_forget 46 = .ok (.iload 4, 2) := by decide +kernel
theorem dX10_forget_48 : decode cX10_forget 48 = .ok (.baload, 1) := by decide +kernel
theorem dX10_forget_49 : decode cX10_forget 49 = .ok (.ior, 1) := by decide +kernel
theorem dX10_forget_50 : decode cX10_forget 50 = .ok (.istore_n 3, 1) := by decide +kernel
theorem dX10_forget_51 : decode cX10_forget 51 = .ok (.iinc 4 1, 3) := by decide +kernel
theorem dX10_forget_54 : decode cX10_forget 54 = .ok (.goto (-19), 3) := by decide +kernel
theorem dX10_forget_57 : decode cX10_forget 57 = .ok (.aload_n 0, 1) := by decide +kernel
theorem dX10_forget_58 : decode cX10_forget 58 = .ok (.iload_n 3, 1) := by decide +kernel
theorem dX10_forget_59 : decode cX10_forget 59 = .ok (.ifCond .eq 7, 3) := by decide +kernel
theorem dX10_forget_62 : decode cX10_forget 62 = .ok (.iload_n 1, 1) := by decide +kernel
theorem dX10_forget_63 : decode cX10_forget 63 = .ok (.ifCond .eq 16, 3) := by decide +kernel
theorem dX10_forget_66 : decode cX10_forget 66 = .ok (.aload_n 0, 1) := by decide +kernel
theorem dX10_forget_67 : decode cX10_forget 67 = .ok (.aload_n 0, 1) := by decide +kernel
theorem dX10_forget_68 : decode cX10_forget 68 = .ok (.iconst (-1), 1) := by decide +kernel
theorem dX10_forget_69 : decode cX10_forget 69 = .ok (.invokevirtual 123, 3) := by decide +kernel
theorem dX10_forget_72 : decode cX10_forget 72 = .ok (.iload_n 2, 1) := by decide +kernel
theorem dX10_forget_73 : decode cX10_forget 73 = .ok (.invokevirtual 176, 3) := by decide +kernel
theorem dX10_forget_76 : decode cX10_forget 76 = .ok (.ifCond .ne 7, 3) := by decide +kernel
theorem dX10_forget_79 : decode cX10_forget 79 = .ok (.iconst 1, 1) := by decide +kernel
theorem dX10_forget_80 : decode cX10_forget 80 = .ok (.goto 4, 3) := by decide +kernel
theorem dX10_forget_83 : decode cX10_forget 83 = .ok (.iconst 0, 1) := by decide +kernel
theorem dX10_forget_84 : decode cX10_forget 84 = .ok (.putfield 82, 3) := by decide +kernel
theorem dX10_forget_87 : decode cX10_forget 87 = .ok (.aload_n 0, 1) := by decide +kernel
theorem dX10_forget_88 : decode cX10_forget 88 = .ok (.getfield 82, 3) := by decide +kernel
theorem dX10_forget_91 : decode cX10_forget 91 = .ok (.ifCond .le 5, 3) := by decide +kernel
theorem dX10_forget_94 : decode cX10_forget 94 = .ok (.iconst 0, 1) := by decide +kernel
theorem dX10_forget_95 : decode cX10_forget 95 = .ok (.ireturn, 1) := by decide +kernel
theorem dX10_forget_96 : decode cX10_forget 96 = .ok (.iconst 0, 1) := by decide +kernel
theorem dX10_forget_97 : decode cX10_forget 97 = .ok (.istore 4, 2) := by decide +kernel
theorem dX10_forget_99 : decode cX10_forget 99 = .ok (.iload 4, 2) := by decide +kernel
theorem dX10_forget_101 : decode cX10_forget 101 = .ok (.bipush 64, 2) := by decide +kernel
theorem dX10_forget_103 : decode cX10_forget 103 = .ok (.if_icmp .ge 51, 3) := by decide +kernel
theorem dX10_forget_106 : decode cX10_forget 106 = .ok (.aload_n 0, 1) := by decide +kernel
theorem dX10_forget_107 : decode cX10_forget 107 = .ok (.getfield 28, 3) := by decide +kernel
theorem dX10_forget_110 : decode cX10_forget 110 = .ok (.iload 4, 2) := by decide +kernel
theorem dX10_forget_112 : decode cX10_forget 112 = .ok (.baload, 1) := by decide +kernel
theorem dX10_forget_113 : decode cX10_forget 113 = .ok (.ifCond .ne 6, 3) := by decide +kernel
theorem dX10_forget_116 : decode cX10_forget 116 = .ok (.goto 32, 3) := by decide +kernel
theorem dX10_forget_119 : decode cX10_forget 119 = .ok (.aload_n 0, 1) := by decide +kernel
theorem dX10_forget_120 : decode cX10_forget 120 = .ok (.getfield 28, 3) := by decide +kernel
theorem dX10_forget_123 : decode cX10_forget 123 = .ok (.iload 4, 2) := by decide +kernel
theorem dX10_forget_125 : decode cX10_forget 125 = .ok (.iconst 0, 1) := by decide +kernel
theorem dX10_forget_126 : decode cX10_forget 126 = .ok (.bastore, 1) := by decide +kernel
theorem dX10_forget_127 : decode cX10_forget 127 = .ok (.aload_n 0, 1) := by decide +kernel
theorem dX10_forget_128 : decode cX10_forget 128 = .ok (.getfield 60, 3) := by decide +kernel
theorem dX10_forget_131 : decode cX10_forget 131 = .ok (.aload_n 0, 1) := by decide +kernel
theorem dX10_forget_132 : decode cX10_forget 132 = .ok (.getfield 16, 3) := by decide +kernel
theorem dX10_forget_135 : decode cX10_forget 135 = .ok (.iload 4, 2) := by decide +kernel
theorem dX10_forget_137 : decode cX10_forget 137 = .ok (.iaload, 1) := by decide +kernel
theorem dX10_forget_138 : decode cX10_forget 138 = .ok (.iconst (-1), 1) := by decide +kernel
theorem dX10_forget_139 : decode cX10_forget 139 = .ok (.iastore, 1) := by decide +kernel
theorem dX10_forget_140 : decode cX10_forget 140 = .ok (.aload_n 0, 1) := by decide +kernel
theorem dX10_forget_141 : decode cX10_forget 141 = .ok (.getfield 16, 3) := by decide +kernel
theorem dX10_forget_144 : decode cX10_forget 144 = .ok (.iload 4, 2) := by decide +kernel
theorem dX10_forget_146 : decode cX10_forget 146 = .ok (.iconst (-1), 1) := by decide +kernel
theorem dX10_forget_147 : decode cX10_forget 147 = .ok (.iastore, 1) := by decide +kernel
theorem dX10_forget_148 : decode cX10_forget 148 = .ok (.iinc 4 1, 3) := by decide +kernel
theorem dX10_forget_151 : decode cX10_forget 151 = .ok (.goto (-52), 3) := by decide +kernel
theorem dX10_forget_154 : decode cX10_forget 154 = .ok (.iconst 0, 1) := by decide +kernel
theorem dX10_forget_155 : decode cX10_forget 155 = .ok (.istore 4, 2) := by decide +kernel
theorem dX10_forget_157 : decode cX10_forget 157 = .ok (.iload 4, 2) := by decide +kernel
theorem dX10_forget_159 : decode cX10_forget 159 = .ok (.bipush 85, 2) := by decide +kernel
theorem dX10_forget_161 : decode cX10_forget 161 = .ok (.if_icmp .ge 23, 3) := by decide +kernel
theorem dX10_forget_164 : decode cX10_forget 164 = .ok (.aload_n 0, 1) := by decide +kernel
theorem dX10_forget_165 : decode cX10_forget 165 = .ok (.getfield 7, 3) := by decide +kernel
theorem dX10_forget_168 : decode cX10_forget 168 = .ok (.iload 4, 2) := by decide +kernel
theorem dX10_forget_170 : decode cX10_forget 170 = .ok (.aload_n 0, 1) := by decide +kernel
theorem dX10_forget_171 : decode cX10_forget 171 = .ok (.getfield 13, 3) := by decide +kernel
theorem dX10_forget_174 : decode cX10_forget 174 = .ok (.iload 4, 2) := by decide +kernel
theorem dX10_forget_176 : decode cX10_forget 176 = .ok (.iaload, 1) := by decide +kernel
theorem dX10_forget_177 : decode cX10_forget 177 = .ok (.iastore, 1) := by decide +kernel
theorem dX10_forget_178 : decode cX10_forget 178 = .ok (.iinc 4 1, 3) := by decide +kernel
theorem dX10_forget_181 : decode cX10_forget 181 = .ok (.goto (-24), 3) := by decide +kernel
theorem dX10_forget_184 : decode cX10_forget 184 = .ok (.iconst 0, 1) := by decide +kernel
theorem dX10_forget_185 : decode cX10_forget 185 = .ok (.istore 4, 2) := by decide +kernel
theorem dX10_forget_187 : decode cX10_forget 187 = .ok (.iload 4, 2) := by decide +kernel
theorem dX10_forget_189 : decode cX10_forget 189 = .ok (.bipush 21, 2) := by decide +kernel
theorem dX10_forget_191 : decode cX10_forget 191 = .ok (.if_icmp .ge 30, 3) := by decide +kernel
theorem dX10_forget_194 : decode cX10_forget 194 = .ok (.aload_n 0, 1) := by decide +kernel
theorem dX10_forget_195 : decode cX10_forget 195 = .ok (.getfield 32, 3) := by decide +kernel
theorem dX10_forget_198 : decode cX10_forget 198 = .ok (.iload 4, 2) := by decide +kernel
theorem dX10_forget_200 : decode cX10_forget 200 = .ok (.baload, 1) := by decide +kernel
theorem dX10_forget_201 : decode cX10_forget 201 = .ok (.ifCond .eq 14, 3) := by decide +kernel
theorem dX10_forget_204 : decode cX10_forget 204 = .ok (.aload_n 0, 1) := by decide +kernel
theorem dX10_forget_205 : decode cX10_forget 205 = .ok (.getfield 7, 3) := by decide +kernel
theorem dX10_forget_208 : decode cX10_forget 208 = .ok (.iload 4, 2) := by decide +kernel
theorem dX10_forget_210 : decode cX10_forget 210 = .ok (.aload_n 0, 1) := by decide +kernel
theorem dX10_forget_211 : decode cX10_forget 211 = .ok (.invokevirtual 101, 3) := by decide +kernel
theorem dX10_forget_214 : decode cX10_forget 214 = .ok (.iastore, 1) := by decide +kernel
theorem dX10_forget_215 : decode cX10_forget 215 = .ok (.iinc 4 1, 3) := by decide +kernel
theorem dX10_forget_218 : decode cX10_forget 218 = .ok (.goto (-31), 3) := by decide +kernel
theorem dX10_forget_221 : decode cX10_forget 221 = .ok (.iconst 0, 1) := by decide +kernel
theorem dX10_forget_222 : decode cX10_forget 222 = .ok (.istore 4, 2) := by decide +kernel
theorem dX10_forget_224 : decode cX10_forget 224 = .ok (.iload 4, 2) := by decide +kernel
theorem dX10_forget_226 : decode cX10_forget 226 = .ok (.bipush 21, 2) := by decide +kernel
theorem dX10_forget_228 : decode cX10_forget 228 = .ok (.if_icmp .ge 25, 3) := by decide +kernel
theorem dX10_forget_231 : decode cX10_forget 231 = .ok (.aload_n 0, 1) := by decide +kernel
theorem dX10_forget_232 : decode cX10_forget 232 = .ok (.getfield 32, 3) := by decide +kernel
theorem dX10_forget_235 : decode cX10_forget 235 = .ok (.iload 4, 2) := by decide +kernel
theorem dX10_forget_237 : decode cX10_forget 237 = .ok (.baload, 1) := by decide +kernel
theorem dX10_forget_238 : decode cX10_forget 238 = .ok (.ifCond .eq 9, 3) := by decide +kernel
theorem dX10_forget_241 : decode cX10_forget 241 = .ok (.aload_n 0, 1) := by decide +kernel
theorem dX10_forget_242 : decode cX10_forget 242 = .ok (.iload 4, 2) := by decide +kernel
theorem dX10_forget_244 : decode cX10_forget 244 = .ok (.invokevirtual 241, 3) := by decide +kernel
theorem dX10_forget_247 : decode cX10_forget 247 = .ok (.iinc 4 1, 3) := by decide +kernel
theorem dX10_forget_250 : decode cX10_forget 250 = .ok (.goto (-26), 3) := by decide +kernel
theorem dX10_forget_253 : decode cX10_forget 253 = .ok (.iconst 0, 1) := by decide +kernel
theorem dX10_forget_254 : decode cX10_forget 254 = .ok (.istore 4, 2) := by decide +kernel
theorem dX10_forget_256 : decode cX10_forget 256 = .ok (.iload 4, 2) := by decide +kernel
theorem dX10_forget_258 : decode cX10_forget 258 = .ok (.iconst 4, 1) := by decide +kernel
theorem dX10_forget_259 : decode cX10_forget 259 = .ok (.if_icmp .ge 63, 3) := by decide +kernel
theorem dX10_forget_262 : decode cX10_forget 262 = .ok (.aload_n 0, 1) := by decide +kernel
theorem dX10_forget_263 : decode cX10_forget 263 = .ok (.getfield 25, 3) := by decide +kernel
theorem dX10_forget_266 : decode cX10_forget 266 = .ok (.iload 4, 2) := by decide +kernel
theorem dX10_forget_268 : decode cX10_forget 268 = .ok (.iaload, 1) := by decide +kernel
theorem dX10_forget_269 : decode cX10_forget 269 = .ok (.istore 5, 2) := by decide +kernel
theorem dX10_forget_271 : decode cX10_forget 271 = .ok (.aload_n 0, 1) := by decide +kernel
theorem dX10_forget_272 : decode cX10_forget 272 = .ok (.getfield 35, 3) := by decide +kernel
theorem dX10_forget_275 : decode cX10_forget 275 = .ok (.iload 4, 2) := by decide +kernel
theorem dX10_forget_277 : decode cX10_forget 277 = .ok (.baload, 1) := by decide +kernel
theorem dX10_forget_278 : decode cX10_forget 278 = .ok (.ifCond .eq 38, 3) := by decide +kernel
theorem dX10_forget_281 : decode cX10_forget 281 = .ok (.aload_n 0, 1) := by decide +kernel
theorem dX10_forget_282 : decode cX10_forget 282 = .ok (.getfield 22, 3) := by decide +kernel
theorem dX10_forget_285 : decode cX10_forget 285 = .ok (.iload 4, 2) := by decide +kernel
theorem dX10_forget_287 : decode cX10_forget 287 = .ok (.iload 5, 2) := by decide +kernel
theorem dX10_forget_289 : decode cX10_forget 289 = .ok (.bipush 21, 2) := by decide +kernel
theorem dX10_forget_291 : decode cX10_forget 291 = .ok (.if_icmp .ge 23, 3) := by decide +kernel
theorem dX10_forget_294 : decode cX10_forget 294 = .ok (.aload_n 0, 1) := by decide +kernel
theorem dX10_forget_295 : decode cX10_forget 295 = .ok (.getfield 32, 3) := by decide +kernel
theorem dX10_forget_298 : decode cX10_forget 298 = .ok (.iload 5, 2) := by decide +kernel
theorem dX10_forget_300 : decode cX10_forget 300 = .ok (.baload, 1) := by decide +kernel
theorem dX10_forget_301 : decode cX10_forget 301 = .ok (.ifCond .eq 13, 3) := by decide +kernel
theorem dX10_forget_304 : decode cX10_forget 304 = .ok (.aload_n 0, 1) := by decide +kernel
theorem dX10_forget_305 : decode cX10_forget 305 = .ok (.getfield 7, 3) := by decide +kernel
theorem dX10_forget_308 : decode cX10_forget 308 = .ok (.iload 5, 2) := by decide +kernel
theorem dX10_forget_310 : decode cX10_forget 310 = .ok (.iaload, 1) := by decide +kernel
theorem dX10_forget_311 : decode cX10_forget 311 = .ok (.goto 4, 3) := by decide +kernel
theorem dX10_forget_314 : decode cX10_forget 314 = .ok (.iconst 0, 1) := by decide +kernel
theorem dX10_forget_315 : decode cX10_forget 315 = .ok (.iastore, 1) := by decide +kernel
theorem dX10_forget_316 : decode cX10_forget 316 = .ok (.iinc 4 1, 3) := by decide +kernel
theorem dX10_forget_319 : decode cX10_forget 319 = .ok (.goto (-63), 3) := by decide +kernel
theorem dX10_forget_322 : decode cX10_forget 322 = .ok (.iload_n 2, 1) := by decide +kernel
theorem dX10_forget_323 : decode cX10_forget 323 = .ok (.ireturn, 1) := by decide +kernel
theorem dX10_childrenOf_0 : decode cX10_childrenOf 0 = .ok (.iconst 0, 1) := by decide +kernel
theorem dX10_childrenOf_1 : decode cX10_childrenOf 1 = .ok (.istore_n 2, 1) := by decide +kernel
theorem dX10_childrenOf_2 : decode cX10_childrenOf 2 = .ok (.iconst 4, 1) := by decide +kernel
theorem dX10_childrenOf_3 : decode cX10_childrenOf 3 = .ok (.iload_n 1, 1) := by decide +kernel
theorem dX10_childrenOf_4 : decode cX10_childrenOf 4 = .ok (.imul, 1) := by decide +kernel
theorem dX10_childrenOf_5 : decode cX10_childrenOf 5 = .ok (.iconst 1, 1) := by decide +kernel
theorem dX10_childrenOf_6 : decode cX10_childrenOf 6 = .ok (.iadd, 1) := by decide +kernel
theorem dX10_childrenOf_7 : decode cX10_childrenOf 7 = .ok (.istore_n 3, 1) := by decide +kernel
theorem dX10_childrenOf_8 : decode cX10_childrenOf 8 = .ok (.iload_n 3, 1) := by decide +kernel
theorem dX10_childrenOf_9 : decode cX10_childrenOf 9 = .ok (.iconst 4, 1) := by decide +kernel
theorem dX10_childrenOf_10 : decode cX10_childrenOf 10 = .ok (.iload_n 1, 1) := by decide +kernel
theorem dX10_childrenOf_11 : decode cX10_childrenOf 11 = .ok (.imul, 1) := by decide +kernel
theorem dX10_childrenOf_12 : decode cX10_childrenOf 12 = .ok (.iconst 4, 1) := by decide +kernel
theorem dX10_childrenOf_13 : decode cX10_childrenOf 13 = .ok (.iadd, 1) := by decide +kernel
theorem dX10_childrenOf_14 : decode cX10_childrenOf 14 = .ok (.if_icmp .gt 26, 3) := by decide +kernel
theorem dX10_childrenOf_17 : decode cX10_childrenOf 17 = .ok (.iload_n 2, 1) := by decide +kernel
theorem dX10_childrenOf_18 : decode cX10_childrenOf 18 = .ok (.aload_n 0, 1) := by decide +kernel
theorem dX10_childrenOf_19 : decode cX10_childrenOf 19 = .ok (.getfield 7, 3) := by decide +kernel
theorem dX10_childrenOf_22 : decode cX10_childrenOf 22 = .ok (.iload_n 3, 1) := by decide +kernel
theorem dX10_childrenOf_23 : decode cX10_childrenOf 23 = .ok (.iaload, 1) := by decide +kernel
theorem dX10_childrenOf_24 : decode cX10_childrenOf 24 = .ok (.ifCond .eq 7, 3) := by decide +kernel
theorem dX10_childrenOf_27 : decode cX10_childrenOf 27 = .ok (.iconst 1, 1) := by decide +kernel
theorem dX10_childrenOf_28 : decode cX10_childrenOf 28 = .ok (.goto 4, 3) := by decide +kernel
theorem dX10_childrenOf_31 : decode cX10_childrenOf 31 = .ok (.iconst 0, 1) := by decide +kernel
theorem dX10_childrenOf_32 : decode cX10_childrenOf 32 = .ok (.iadd, 1) := by decide +kernel
theorem dX10_childrenOf_33 : decode cX10_childrenOf 33 = .ok (.istore_n 2, 1) := by decide +kernel
theorem dX10_childrenOf_34 : decode cX10_childrenOf 34 = .ok (.iinc 3 1, 3) := by decide +kernel
theorem dX10_childrenOf_37 : decode cX10_childrenOf 37 = .ok (.goto (-29), 3) := by decide +kernel
theorem dX10_childrenOf_40 : decode cX10_childrenOf 40 = .ok (.iload_n 2, 1) := by decide +kernel
theorem dX10_childrenOf_41 : decode cX10_childrenOf 41 = .ok (.ireturn, 1) := by decide +kernel
theorem dX10_wrapsChildren_0 : decode cX10_wrapsChildren 0 = .ok (.iconst 4, 1) := by decide +kernel
theorem dX10_wrapsChildren_1 : decode cX10_wrapsChildren 1 = .ok (.iload_n 1, 1) := by decide +kernel
theorem dX10_wrapsChildren_2 : decode cX10_wrapsChildren 2 = .ok (.imul, 1) := by decide +kernel
theorem dX10_wrapsChildren_3 : decode cX10_wrapsChildren 3 = .ok (.iconst 1, 1) := by decide +kernel
theorem dX10_wrapsChildren_4 : decode cX10_wrapsChildren 4 = .ok (.iadd, 1) := by decide +kernel
theorem dX10_wrapsChildren_5 : decode cX10_wrapsChildren 5 = .ok (.istore_n 2, 1) := by decide +kernel
theorem dX10_wrapsChildren_6 : decode cX10_wrapsChildren 6 = .ok (.iload_n 2, 1) := by decide +kernel
theorem dX10_wrapsChildren_7 : decode cX10_wrapsChildren 7 = .ok (.iconst 4, 1) := by decide +kernel
theorem dX10_wrapsChildren_8 : decode cX10_wrapsChildren 8 = .ok (.iload_n 1, 1) := by decide +kernel
theorem dX10_wrapsChildren_9 : decode cX10_wrapsChildren 9 = .ok (.imul, 1) := by decide +kernel
theorem dX10_wrapsChildren_10 : decode cX10_wrapsChildren 10 = .ok (.iconst 4, 1) := by decide +kernel
theorem dX10_wrapsChildren_11 : decode cX10_wrapsChildren 11 = .ok (.iadd, 1) := by decide +kernel
theorem dX10_wrapsChildren_12 : decode cX10_wrapsChildren 12 = .ok (.if_icmp .gt 34, 3) := by decide +kernel
theorem dX10_wrapsChildren_15 : decode cX10_wrapsChildren 15 = .ok (.aload_n 0, 1) := by decide +kernel
theorem dX10_wrapsChildren_16 : decode cX10_wrapsChildren 16 = .ok (.getfield 7, 3) := by decide +kernel
theorem dX10_wrapsChildren_19 : decode cX10_wrapsChildren 19 = .ok (.iload_n 2, 1) := by decide +kernel
theorem dX10_wrapsChildren_20 : decode cX10_wrapsChildren 20 = .ok (.iaload, 1) := by decide +kernel
theorem dX10_wrapsChildren_21 : decode cX10_wrapsChildren 21 = .ok (.ifCond .eq 19, 3) := by decide +kernel
theorem dX10_wrapsChildren_24 : decode cX10_wrapsChildren 24 = .ok (.aload_n 0, 1) := by decide +kernel
theorem dX10_wrapsChildren_25 : decode cX10_wrapsChildren 25 = .ok (.aload_n 0, 1) := by decide +kernel
theorem dX10_wrapsChildren_26 : decode cX10_wrapsChildren 26 = .ok (.getfield 7, 3) := by decide +kernel
theorem dX10_wrapsChildren_29 : decode cX10_wrapsChildren 29 = .ok (.iload_n 2, 1) := by decide +kernel
theorem dX10_wrapsChildren_30 : decode cX10_wrapsChildren 30 = .ok (.iaload, 1) := by decide +kernel
theorem dX10_wrapsChildren_31 : decode cX10_wrapsChildren 31 = .ok (.aload_n 0, 1) := by decide +kernel
theorem dX10_wrapsChildren_32 : decode cX10_wrapsChildren 32 = .ok (.getfield 7, 3) := by decide +kernel
theorem dX10_wrapsChildren_35 : decode cX10_wrapsChildren 35 = .ok (.iload_n 1, 1) := by decide +kernel
theorem dX10_wrapsChildren_36 : decode cX10_wrapsChildren 36 = .ok (.iaload, 1) := by decide +kernel
theorem dX10_wrapsChildren_37 : decode cX10_wrapsChildren 37 = .ok (.invokevirtual 166, 3) := by decide +kernel
theorem dX10_wrapsChildren_40 : decode cX10_wrapsChildren 40 = .ok (.iinc 2 1, 3) := by decide +kernel
theorem dX10_wrapsChildren_43 : decode cX10_wrapsChildren 43 = .ok (.goto (-37), 3) := by decide +kernel
theorem dX10_wrapsChildren_46 : decode cX10_wrapsChildren 46 = .ok (.return_, 1) := by decide +kernel
theorem dX10_forgetCost_0 : decode cX10_forgetCost 0 = .ok (.aload_n 0, 1) := by decide +kernel
theorem dX10_forgetCost_1 : decode cX10_forgetCost 1 = .ok (.iconst 0, 1) := by decide +kernel
theorem dX10_forgetCost_2 : decode cX10_forgetCost 2 = .ok (.putfield 82, 3) := by decide +kernel
theorem dX10_forgetCost_5 : decode cX10_forgetCost 5 = .ok (.aload_n 0, 1) := by decide +kernel
theorem dX10_forgetCost_6 : decode cX10_forgetCost 6 = .ok (.invokevirtual 232, 3) := by decide +kernel
theorem dX10_forgetCost_9 : decode cX10_forgetCost 9 = .ok (.ifCond .ne 7, 3) := by decide +kernel
theorem dX10_forgetCost_12 : decode cX10_forgetCost 12 = .ok (.iconst 0, 1) := by decide +kernel
theorem dX10_forgetCost_13 : decode cX10_forgetCost 13 = .ok (.goto 7, 3) := by decide +kernel
theorem dX10_forgetCost_16 : decode cX10_forgetCost 16 = .ok (.aload_n 0, 1) := by decide +kernel
theorem dX10_forgetCost_17 : decode cX10_forgetCost 17 = .ok (.invokevirtual 238, 3) := by decide +kernel
theorem dX10_forgetCost_20 : decode cX10_forgetCost 20 = .ok (.ireturn, 1) := by decide +kernel
theorem dX10_extraCost_0 : decode cX10_extraCost 0 = .ok (.aload_n 0, 1) := by decide +kernel
theorem dX10_extraCost_1 : decode cX10_extraCost 1 = .ok (.iload_n 1, 1) := by decide +kernel
theorem dX10_extraCost_2 : decode cX10_extraCost 2 = .ok (.invokestatic 170, 3) := by decide +kernel
theorem dX10_extraCost_5 : decode cX10_extraCost 5 = .ok (.ifCond .ne 7, 3) := by decide +kernel
theorem dX10_extraCost_8 : decode cX10_extraCost 8 = .ok (.iconst 1, 1) := by decide +kernel
theorem dX10_extraCost_9 : decode cX10_extraCost 9 = .ok (.goto 26, 3) := by decide +kernel
theorem dX10_extraCost_12 : decode cX10_extraCost 12 = .ok (.aload_n 0, 1) := by decide +kernel
theorem dX10_extraCost_13 : decode cX10_extraCost 13 = .ok (.getfield 16, 3) := by decide +kernel
theorem dX10_extraCost_16 : decode cX10_extraCost 16 = .ok (.iload_n 1, 1) := by decide +kernel
theorem dX10_extraCost_17 : decode cX10_extraCost 17 = .ok (.iaload, 1) := by decide +kernel
theorem dX10_extraCost_18 : decode cX10_extraCost 18 = .ok (.iconst (-1), 1) := by decide +kernel
theorem dX10_extraCost_19 : decode cX10_extraCost 19 = .ok (.if_icmp .eq 11, 3) := by decide +kernel
theorem dX10_extraCost_22 : decode cX10_extraCost 22 = .ok (.aload_n 0, 1) := by decide +kernel
theorem dX10_extraCost_23 : decode cX10_extraCost 23 = .ok (.iload_n 1, 1) := by decide +kernel
theorem dX10_extraCost_24 : decode cX10_extraCost 24 = .ok (.invokevirtual 218, 3) := by decide +kernel
theorem dX10_extraCost_27 : decode cX10_extraCost 27 = .ok (.ifCond .eq 7, 3) := by decide +kernel
theorem dX10_extraCost_30 : decode cX10_extraCost 30 = .ok (.iconst 2, 1) := by decide +kernel
theorem dX10_extraCost_31 : decode cX10_extraCost 31 = .ok (.goto 4, 3) := by decide +kernel
theorem dX10_extraCost_34 : decode cX10_extraCost 34 = .ok (.iconst 0, 1) := by decide +kernel
theorem dX10_extraCost_35 : decode cX10_extraCost 35 = .ok (.putfield 82, 3) := by decide +kernel
theorem dX10_extraCost_38 : decode cX10_extraCost 38 = .ok (.aload_n 0, 1) := by decide +kernel
theorem dX10_extraCost_39 : decode cX10_extraCost 39 = .ok (.getfield 82, 3) := by decide +kernel
theorem dX10_extraCost_42 : decode cX10_extraCost 42 = .ok (.ifCond .gt 12, 3) := by decide +kernel
theorem dX10_extraCost_45 : decode cX10_extraCost 45 = .ok (.aload_n 0, 1) := by decide +kernel
theorem dX10_extraCost_46 : decode cX10_extraCost 46 = .ok (.getfield 28, 3) := by decide +kernel
theorem dX10_extraCost_49 : decode cX10_extraCost 49 = .ok (.iload_n 1, 1) := by decide +kernel
theorem dX10_extraCost_50 : decode cX10_extraCost 50 = .ok (.baload, 1) := by decide +kernel
theorem dX10_extraCost_51 : decode cX10_extraCost 51 = .ok (.ifCond .eq 5, 3) := by decide +kernel
theorem dX10_extraCost_54 : decode cX10_extraCost 54 = .ok (.iconst 0, 1) := by decide +kernel
theorem dX10_extraCost_55 : decode cX10_extraCost 55 = .ok (.ireturn, 1) := by decide +kernel
theorem dX10_extraCost_56 : decode cX10_extraCost 56 = .ok (.aload_n 0, 1) := by decide +kernel
theorem dX10_extraCost_57 : decode cX10_extraCost 57 = .ok (.invokevirtual 232, 3) := by decide +kernel
theorem dX10_extraCost_60 : decode cX10_extraCost 60 = .ok (.ifCond .ne 7, 3) := by decide +kernel
theorem dX10_extraCost_63 : decode cX10_extraCost 63 = .ok (.iconst 0, 1) := by decide +kernel
theorem dX10_extraCost_64 : decode cX10_extraCost 64 = .ok (.goto 7, 3) := by decide +kernel
theorem dX10_extraCost_67 : decode cX10_extraCost 67 = .ok (.aload_n 0, 1) := by decide +kernel
theorem dX10_extraCost_68 : decode cX10_extraCost 68 = .ok (.invokevirtual 238, 3) := by decide +kernel
theorem dX10_extraCost_71 : decode cX10_extraCost 71 = .ok (.istore_n 2, 1) := by decide +kernel
theorem dX10_extraCost_72 : decode cX10_extraCost 72 = .ok (.aload_n 0, 1) := by decide +kernel
theorem dX10_extraCost_73 : decode cX10_extraCost 73 = .ok (.getfield 28, 3) := by decide +kernel
theorem dX10_extraCost_76 : decode cX10_extraCost 76 = .ok (.iload_n 1, 1) := by decide +kernel
theorem dX10_extraCost_77 : decode cX10_extraCost 77 = .ok (.iconst 1, 1) := by decide +kernel
theorem dX10_extraCost_78 : decode cX10_extraCost 78 = .ok (.bastore, 1) := by decide +kernel
theorem dX10_extraCost_79 : decode cX10_extraCost 79 = .ok (.aload_n 0, 1) := by decide +kernel
theorem dX10_extraCost_80 : decode cX10_extraCost 80 = .ok (.invokevirtual 238, 3) := by decide +kernel
theorem dX10_extraCost_83 : decode cX10_extraCost 83 = .ok (.istore_n 3, 1) := by decide +kernel
theorem dX10_extraCost_84 : decode cX10_extraCost 84 = .ok (.aload_n 0, 1) := by decide +kernel
theorem dX10_extraCost_85 : decode cX10_extraCost 85 = .ok (.getfield 28, 3) := by decide +kernel
theorem dX10_extraCost_88 : decode cX10_extraCost 88 = .ok (.iload_n 1, 1) := by decide +kernel
theorem dX10_extraCost_89 : decode cX10_extraCost 89 = .ok (.iconst 0, 1) := by decide +kernel
theorem dX10_extraCost_90 : decode cX10_extraCost 90 = .ok (.bastore, 1) := by decide +kernel
theorem dX10_extraCost_91 : decode cX10_extraCost 91 = .ok (.iload_n 3, 1) := by decide +kernel
theorem dX10_extraCost_92 : decode cX10_extraCost 92 = .ok (.iload_n 2, 1) := by decide +kernel
theorem dX10_extraCost_93 : decode cX10_extraCost 93 = .ok (.isub, 1) := by decide +kernel
theorem dX10_extraCost_94 : decode cX10_extraCost 94 = .ok (.ireturn, 1) := by decide +kernel
theorem dX10_rekeyed_0 : decode cX10_rekeyed 0 = .ok (.aload_n 0, 1) := by decide +kernel
theorem dX10_rekeyed_1 : decode cX10_rekeyed 1 = .ok (.iload_n 1, 1) := by decide +kernel
theorem dX10_rekeyed_2 : decode cX10_rekeyed 2 = .ok (.i2l, 1) := by decide +kernel
theorem dX10_rekeyed_3 : decode cX10_rekeyed 3 = .ok (.lconst 0, 1) := by decide +kernel
theorem dX10_rekeyed_4 : decode cX10_rekeyed 4 = .ok (.ldc2_w 186, 3) := by decide +kernel
theorem dX10_rekeyed_7 : decode cX10_rekeyed 7 = .ok (.invokestatic 117, 3) := by decide +kernel
theorem dX10_rekeyed_10 : decode cX10_rekeyed 10 = .ok (.ifCond .eq 7, 3) := by decide +kernel
theorem dX10_rekeyed_13 : decode cX10_rekeyed 13 = .ok (.iconst 0, 1) := by decide +kernel
theorem dX10_rekeyed_14 : decode cX10_rekeyed 14 = .ok (.goto 4, 3) := by decide +kernel
theorem dX10_rekeyed_17 : decode cX10_rekeyed 17 = .ok (.iconst 1, 1) := by decide +kernel
theorem dX10_rekeyed_18 : decode cX10_rekeyed 18 = .ok (.putfield 82, 3) := by decide +kernel
theorem dX10_rekeyed_21 : decode cX10_rekeyed 21 = .ok (.aload_n 0, 1) := by decide +kernel
theorem dX10_rekeyed_22 : decode cX10_rekeyed 22 = .ok (.getfield 82, 3) := by decide +kernel
theorem dX10_rekeyed_25 : decode cX10_rekeyed 25 = .ok (.ifCond .gt 10, 3) := by decide +kernel
theorem dX10_rekeyed_28 : decode cX10_rekeyed 28 = .ok (.aload_n 0, 1) := by decide +kernel
theorem dX10_rekeyed_29 : decode cX10_rekeyed 29 = .ok (.invokevirtual 232, 3) := by decide +kernel
theorem dX10_rekeyed_32 : decode cX10_rekeyed 32 = .ok (.ifCond .ne 5, 3) := by decide +kernel
theorem dX10_rekeyed_35 : decode cX10_rekeyed 35 = .ok (.iconst 0, 1) := by decide +kernel
theorem dX10_rekeyed_36 : decode cX10_rekeyed 36 = .ok (.ireturn, 1) := by decide +kernel
theorem dX10_rekeyed_37 : decode cX10_rekeyed 37 = .ok (.aload_n 0, 1) := by decide +kernel
theorem dX10_rekeyed_38 : decode cX10_rekeyed 38 = .ok (.invokevirtual 238, 3) := by decide +kernel
theorem dX10_rekeyed_41 : decode cX10_rekeyed 41 = .ok (.istore_n 2, 1) := by decide +kernel
theorem dX10_rekeyed_42 : decode cX10_rekeyed 42 = .ok (.iload_n 1, 1) := by decide +kernel
theorem dX10_rekeyed_43 : decode cX10_rekeyed 43 = .ok (.ifCond .ne 7, 3) := by decide +kernel
theorem dX10_rekeyed_46 : decode cX10_rekeyed 46 = .ok (.iconst 0, 1) := by decide +kernel
theorem dX10_rekeyed_47 : decode cX10_rekeyed 47 = .ok (.goto 13, 3) := by decide +kernel
theorem dX10_rekeyed_50 : decode cX10_rekeyed 50 = .ok (.iload_n 1, 1) := by decide +kernel
theorem dX10_rekeyed_51 : decode cX10_rekeyed 51 = .ok (.iconst 1, 1) := by decide +kernel
theorem dX10_rekeyed_52 : decode cX10_rekeyed 52 = .ok (.if_icmp .ne 7, 3) := by decide +kernel
theorem dX10_rekeyed_55 : decode cX10_rekeyed 55 = .ok (.iconst 1, 1) := by decide +kernel
theorem dX10_rekeyed_56 : decode cX10_rekeyed 56 = .ok (.goto 4, 3) := by decide +kernel
theorem dX10_rekeyed_59 : decode cX10_rekeyed 59 = .ok (.iconst 5, 1) := by decide +kernel
theorem dX10_rekeyed_60 : decode cX10_rekeyed 60 = .ok (.istore_n 3, 1) := by decide +kernel
theorem dX10_rekeyed_61 : decode cX10_rekeyed 61 = .ok (.iconst 0, 1) := by decide +kernel
theorem dX10_rekeyed_62 : decode cX10_rekeyed 62 = .ok (.istore 4, 2) := by decide +kernel
theorem dX10_rekeyed_64 : decode cX10_rekeyed 64 = .ok (.iload_n 3, 1) := by decide +kernel
theorem dX10_rekeyed_65 : decode cX10_rekeyed 65 = .ok (.istore 5, 2) := by decide +kernel
theorem dX10_rekeyed_67 : decode cX10_rekeyed 67 = .ok (.iload 5, 2) := by decide +kernel
theorem dX10_rekeyed_69 : decode cX10_rekeyed 69 = .ok (.iconst 4, 1) := by decide +kernel
theorem dX10_rekeyed_70 : decode cX10_rekeyed 70 = .ok (.iload_n 3, 1) := by decide +kernel
theorem dX10_rekeyed_71 : decode cX10_rekeyed 71 = .ok (.imul, 1) := by decide +kernel
theorem dX10_rekeyed_72 : decode cX10_rekeyed 72 = .ok (.iconst 1, 1) := by decide +kernel
theorem dX10_rekeyed_73 : decode cX10_rekeyed 73 = .ok (.iadd, 1) := by decide +kernel
theorem dX10_rekeyed_74 : decode cX10_rekeyed 74 = .ok (.if_icmp .ge 34, 3) := by decide +kernel
theorem dX10_rekeyed_77 : decode cX10_rekeyed 77 = .ok (.iload 4, 2) := by decide +kernel
theorem dX10_rekeyed_79 : decode cX10_rekeyed 79 = .ok (.aload_n 0, 1) := by decide +kernel
theorem dX10_rekeyed_80 : decode cX10_rekeyed 80 = .ok (.getfield 32, 3) := by decide +kernel
theorem dX10_rekeyed_83 : decode cX10_rekeyed 83 = .ok (.iload 5, 2) := by decide +kernel
theorem dX10_rekeyed_85 : decode cX10_rekeyed 85 = .ok (.baload, 1) := by decide +kernel
theorem dX10_rekeyed_86 : decode cX10_rekeyed 86 = .ok (.ifCond .eq 12, 3) := by decide +kernel
theorem dX10_rekeyed_89 : decode cX10_rekeyed 89 = .ok (.iconst 1, 1) := by decide +kernel
theorem dX10_rekeyed_90 : decode cX10_rekeyed 90 = .ok (.iload 5, 2) := by decide +kernel
theorem dX10_rekeyed_92 : decode cX10_rekeyed 92 = .ok (.iload_n 3, 1) := by decide +kernel
theorem dX10_rekeyed_93 : decode cX10_rekeyed 93 = .ok (.isub, 1) := by decide +kernel
theorem dX10_rekeyed_94 : decode cX10_rekeyed 94 = .ok (.ishl, 1) := by decide +kernel
theorem dX10_rekeyed_95 : decode cX10_rekeyed 95 = .ok (.goto 4, 3) := by decide +kernel
theorem dX10_rekeyed_98 : decode cX10_rekeyed 98 = .ok (.iconst 0, 1) := by decide +kernel
theorem dX10_rekeyed_99 : decode cX10_rekeyed 99 = .ok (.ior, 1) := by decide +kernel
theorem dX10_rekeyed_100 : decode cX10_rekeyed 100 = .ok (.istore 4, 2) := by decide +kernel
theorem dX10_rekeyed_102 : decode cX10_rekeyed 102 = .ok (.iinc 5 1, 3) := by decide +kernel
theorem dX10_rekeyed_105 : decode cX10_rekeyed 105 = .ok (.goto (-38), 3) := by decide +kernel
theorem dX10_rekeyed_108 : decode cX10_rekeyed 108 = .ok (.iload 4, 2) := by decide +kernel
theorem dX10_rekeyed_110 : decode cX10_rekeyed 110 = .ok (.ireturn, 1) := by decide +kernel
theorem dX10_key_0 : decode cX10_key 0 = .ok (.aload_n 0, 1) := by decide +kernel
theorem dX10_key_1 : decode cX10_key 1 = .ok (.iload_n 1, 1) := by decide +kernel
theorem dX10_key_2 : decode cX10_key 2 = .ok (.invokestatic 226, 3) := by decide +kernel
theorem dX10_key_5 : decode cX10_key 5 = .ok (.ifCond .eq 7, 3) := by decide +kernel
theorem dX10_key_8 : decode cX10_key 8 = .ok (.iconst 0, 1) := by decide +kernel
theorem dX10_key_9 : decode cX10_key 9 = .ok (.goto 4, 3) := by decide +kernel
theorem dX10_key_12 : decode cX10_key 12 = .ok (.iconst 1, 1) := by decide +kernel
theorem dX10_key_13 : decode cX10_key 13 = .ok (.putfield 82, 3) := by decide +kernel
theorem dX10_key_16 : decode cX10_key 16 = .ok (.aload_n 0, 1) := by decide +kernel
theorem dX10_key_17 : decode cX10_key 17 = .ok (.getfield 82, 3) := by decide +kernel
theorem dX10_key_20 : decode cX10_key 20 = .ok (.ifCond .le 7, 3) := by decide +kernel
theorem dX10_key_23 : decode cX10_key 23 = .ok (.iconst 0, 1) := by decide +kernel
theorem dX10_key_24 : decode cX10_key 24 = .ok (.goto 22, 3) := by decide +kernel
theorem dX10_key_27 : decode cX10_key 27 = .ok (.aload_n 0, 1) := by decide +kernel
theorem dX10_key_28 : decode cX10_key 28 = .ok (.getfield 7, 3) := by decide +kernel
theorem dX10_key_31 : decode cX10_key 31 = .ok (.iload_n 1, 1) := by decide +kernel
theorem dX10_key_32 : decode cX10_key 32 = .ok (.iaload, 1) := by decide +kernel
theorem dX10_key_33 : decode cX10_key 33 = .ok (.ifCond .ne 7, 3) := by decide +kernel
theorem dX10_key_36 : decode cX10_key 36 = .ok (.iconst (-1), 1) := by decide +kernel
theorem dX10_key_37 : decode cX10_key 37 = .ok (.goto 9, 3) := by decide +kernel
theorem dX10_key_40 : decode cX10_key 40 = .ok (.aload_n 0, 1) := by decide +kernel
theorem dX10_key_41 : decode cX10_key 41 = .ok (.getfield 7, 3) := by decide +kernel
theorem dX10_key_44 : decode cX10_key 44 = .ok (.iload_n 1, 1) := by decide +kernel
theorem dX10_key_45 : decode cX10_key 45 = .ok (.iaload, 1) := by decide +kernel
theorem dX10_key_46 : decode cX10_key 46 = .ok (.ireturn, 1) := by decide +kernel
theorem dX10_keyValue_0 : decode cX10_keyValue 0 = .ok (.aload_n 0, 1) := by decide +kernel
theorem dX10_keyValue_1 : decode cX10_keyValue 1 = .ok (.iload_n 1, 1) := by decide +kernel
theorem dX10_keyValue_2 : decode cX10_keyValue 2 = .ok (.i2l, 1) := by decide +kernel
theorem dX10_keyValue_3 : decode cX10_keyValue 3 = .ok (.lconst 1, 1) := by decide +kernel
theorem dX10_keyValue_4 : decode cX10_keyValue 4 = .ok (.aload_n 0, 1) := by decide +kernel
theorem dX10_keyValue_5 : decode cX10_keyValue 5 = .ok (.getfield 98, 3) := by decide +kernel
theorem dX10_keyValue_8 : decode cX10_keyValue 8 = .ok (.i2l, 1) := by decide +kernel
theorem dX10_keyValue_9 : decode cX10_keyValue 9 = .ok (.invokestatic 117, 3) := by decide +kernel
theorem dX10_keyValue_12 : decode cX10_keyValue 12 = .ok (.ifCond .eq 7, 3) := by decide +kernel
theorem dX10_keyValue_15 : decode cX10_keyValue 15 = .ok (.iconst 0, 1) := by decide +kernel
theorem dX10_keyValue_16 : decode cX10_keyValue 16 = .ok (.goto 4, 3) := by decide +kernel
theorem dX10_keyValue_19 : decode cX10_keyValue 19 = .ok (.iconst 1, 1) := by decide +kernel
theorem dX10_keyValue_20 : decode cX10_keyValue 20 = .ok (.putfield 82, 3) := by decide +kernel
theorem dX10_keyValue_23 : decode cX10_keyValue 23 = .ok (.aload_n 0, 1) := by decide +kernel
theorem dX10_keyValue_24 : decode cX10_keyValue 24 = .ok (.getfield 82, 3) := by decide +kernel
theorem dX10_keyValue_27 : decode cX10_keyValue 27 = .ok (.ifCond .le 7, 3) := by decide +kernel
theorem dX10_keyValue_30 : decode cX10_keyValue 30 = .ok (.iconst 0, 1) := by decide +kernel
theorem dX10_keyValue_31 : decode cX10_keyValue 31 = .ok (.goto 8, 3) := by decide +kernel
theorem dX10_keyValue_34 : decode cX10_keyValue 34 = .ok (.aload_n 0, 1) := by decide +kernel
theorem dX10_keyValue_35 : decode cX10_keyValue 35 = .ok (.iload_n 1, 1) := by decide +kernel
theorem dX10_keyValue_36 : decode cX10_keyValue 36 = .ok (.invokevirtual 126, 3) := by decide +kernel
theorem dX10_keyValue_39 : decode cX10_keyValue 39 = .ok (.ireturn, 1) := by decide +kernel
theorem dX10_keep_0 : decode cX10_keep 0 = .ok (.aload_n 0, 1) := by decide +kernel
theorem dX10_keep_1 : decode cX10_keep 1 = .ok (.iload_n 1, 1) := by decide +kernel
theorem dX10_keep_2 : decode cX10_keep 2 = .ok (.invokestatic 193, 3) := by decide +kernel
theorem dX10_keep_5 : decode cX10_keep 5 = .ok (.ifCond .eq 10, 3) := by decide +kernel
theorem dX10_keep_8 : decode cX10_keep 8 = .ok (.iload_n 2, 1) := by decide +kernel
theorem dX10_keep_9 : decode cX10_keep 9 = .ok (.invokestatic 226, 3) := by decide +kernel
theorem dX10_keep_12 : decode cX10_keep 12 = .ok (.ifCond .ne 7, 3) := by decide +kernel
theorem dX10_keep_15 : decode cX10_keep 15 = .ok (.iconst 1, 1) := by decide +kernel
theorem dX10_keep_16 : decode cX10_keep 16 = .ok (.goto 17, 3) := by decide +kernel
theorem dX10_keep_19 : decode cX10_keep 19 = .ok (.aload_n 0, 1) := by decide +kernel
theorem dX10_keep_20 : decode cX10_keep 20 = .ok (.getfield 7, 3) := by decide +kernel
theorem dX10_keep_23 : decode cX10_keep 23 = .ok (.iload_n 2, 1) := by decide +kernel
theorem dX10_keep_24 : decode cX10_keep 24 = .ok (.iaload, 1) := by decide +kernel
theorem dX10_keep_25 : decode cX10_keep 25 = .ok (.ifCond .ne 7, 3) := by decide +kernel
theorem dX10_keep_28 : decode cX10_keep 28 = .ok (.iconst 2, 1) := by decide +kernel
theorem dX10_keep_29 : decode cX10_keep 29 = .ok (.goto 4, 3) := by decide +kernel
theorem dX10_keep_32 : decode cX10_keep 32 = .ok (.iconst 0, 1) := by decide +kernel
theorem dX10_keep_33 : decode cX10_keep 33 = .ok (.putfield 82, 3) := by decide +kernel
theorem dX10_keep_36 : decode cX10_keep 36 = .ok (.aload_n 0, 1) := by decide +kernel
theorem dX10_keep_37 : decode cX10_keep 37 = .ok (.getfield 82, 3) := by decide +kernel
theorem dX10_keep_40 : decode cX10_keep 40 = .ok (.ifCond .le 5, 3) := by decide +kernel
theorem dX10_keep_43 : decode cX10_keep 43 = .ok (.iconst 0, 1) := by decide +kernel
theorem dX10_keep_44 : decode cX10_keep 44 = .ok (.ireturn, 1) := by decide +kernel
theorem dX10_keep_45 : decode cX10_keep 45 = .ok (.aload_n 0, 1) := by decide +kernel
theorem dX10_keep_46 : decode cX10_keep 46 = .ok (.getfield 22, 3) := by decide +kernel
theorem dX10_keep_49 : decode cX10_keep 49 = .ok (.iload_n 1, 1) := by decide +kernel
theorem dX10_keep_50 : decode cX10_keep 50 = .ok (.aload_n 0, 1) := by decide +kernel
theorem dX10_keep_51 : decode cX10_keep 51 = .ok (.getfield 7, 3) := by decide +kernel
theorem dX10_keep_54 : decode cX10_keep 54 = .ok (.iload_n 2, 1) := by decide +kernel
theorem dX10_keep_55 : decode cX10_keep 55 = .ok (.iaload, 1) := by decide +kernel
theorem dX10_keep_56 : decode cX10_keep 56 = .ok (.iastore, 1) := by decide +kernel
theorem dX10_keep_57 : decode cX10_keep 57 = .ok (.aload_n 0, 1) := by decide +kernel
theorem dX10_keep_58 : decode cX10_keep 58 = .ok (.getfield 25, 3) := by decide +kernel
theorem dX10_keep_61 : decode cX10_keep 61 = .ok (.iload_n 1, 1) := by decide +kernel
theorem dX10_keep_62 : decode cX10_keep 62 = .ok (.iload_n 2, 1) := by decide +kernel
theorem dX10_keep_63 : decode cX10_keep 63 = .ok (.iastore, 1) := by decide +kernel
theorem dX10_keep_64 : decode cX10_keep 64 = .ok (.aload_n 0, 1) := by decide +kernel
theorem dX10_keep_65 : decode cX10_keep 65 = .ok (.getfield 7, 3) := by decide +kernel
theorem dX10_keep_68 : decode cX10_keep 68 = .ok (.iload_n 2, 1) := by decide +kernel
theorem dX10_keep_69 : decode cX10_keep 69 = .ok (.iaload, 1) := by decide +kernel
theorem dX10_keep_70 : decode cX10_keep 70 = .ok (.ireturn, 1) := by decide +kernel
theorem dX10_drop_0 : decode cX10_drop 0 = .ok (.aload_n 0, 1) := by decide +kernel
theorem dX10_drop_1 : decode cX10_drop 1 = .ok (.iload_n 1, 1) := by decide +kernel
theorem dX10_drop_2 : decode cX10_drop 2 = .ok (.invokestatic 193, 3) := by decide +kernel
theorem dX10_drop_5 : decode cX10_drop 5 = .ok (.ifCond .eq 7, 3) := by decide +kernel
theorem dX10_drop_8 : decode cX10_drop 8 = .ok (.iconst 0, 1) := by decide +kernel
theorem dX10_drop_9 : decode cX10_drop 9 = .ok (.goto 4, 3) := by decide +kernel
theorem dX10_drop_12 : decode cX10_drop 12 = .ok (.iconst 1, 1) := by decide +kernel
theorem dX10_drop_13 : decode cX10_drop 13 = .ok (.putfield 82, 3) := by decide +kernel
theorem dX10_drop_16 : decode cX10_drop 16 = .ok (.aload_n 0, 1) := by decide +kernel
theorem dX10_drop_17 : decode cX10_drop 17 = .ok (.getfield 82, 3) := by decide +kernel
theorem dX10_drop_20 : decode cX10_drop 20 = .ok (.ifCond .le 5, 3) := by decide +kernel
theorem dX10_drop_23 : decode cX10_drop 23 = .ok (.iconst 0, 1) := by decide +kernel
theorem dX10_drop_24 : decode cX10_drop 24 = .ok (.ireturn, 1) := by decide +kernel
theorem dX10_drop_25 : decode cX10_drop 25 = .ok (.aload_n 0, 1) := by decide +kernel
theorem dX10_drop_26 : decode cX10_drop 26 = .ok (.getfield 22, 3) := by decide +kernel
theorem dX10_drop_29 : decode cX10_drop 29 = .ok (.iload_n 1, 1) := by decide +kernel
theorem dX10_drop_30 : decode cX10_drop 30 = .ok (.iaload, 1) := by decide +kernel
theorem dX10_drop_31 : decode cX10_drop 31 = .ok (.ifCond .ne 7, 3) := by decide +kernel
theorem dX10_drop_34 : decode cX10_drop 34 = .ok (.iconst (-1), 1) := by decide +kernel
theorem dX10_drop_35 : decode cX10_drop 35 = .ok (.goto 9, 3) := by decide +kernel
theorem dX10_drop_38 : decode cX10_drop 38 = .ok (.aload_n 0, 1) := by decide +kernel
theorem dX10_drop_39 : decode cX10_drop 39 = .ok (.getfield 22, 3) := by decide +kernel
theorem dX10_drop_42 : decode cX10_drop 42 = .ok (.iload_n 1, 1) := by decide +kernel
theorem dX10_drop_43 : decode cX10_drop 43 = .ok (.iaload, 1) := by decide +kernel
theorem dX10_drop_44 : decode cX10_drop 44 = .ok (.istore_n 2, 1) := by decide +kernel
theorem dX10_drop_45 : decode cX10_drop 45 = .ok (.aload_n 0, 1) := by decide +kernel
theorem dX10_drop_46 : decode cX10_drop 46 = .ok (.getfield 22, 3) := by decide +kernel
theorem dX10_drop_49 : decode cX10_drop 49 = .ok (.iload_n 1, 1) := by decide +kernel
theorem dX10_drop_50 : decode cX10_drop 50 = .ok (.iconst 0, 1) := by decide +kernel
theorem dX10_drop_51 : decode cX10_drop 51 = .ok (.iastore, 1) := by decide +kernel
theorem dX10_drop_52 : decode cX10_drop 52 = .ok (.iload_n 2, 1) := by decide +kernel
theorem dX10_drop_53 : decode cX10_drop 53 = .ok (.ireturn, 1) := by decide +kernel
theorem dX10_opensBy_0 : decode cX10_opensBy 0 = .ok (.aload_n 0, 1) := by decide +kernel
theorem dX10_opensBy_1 : decode cX10_opensBy 1 = .ok (.iconst 0, 1) := by decide +kernel
theorem dX10_opensBy_2 : decode cX10_opensBy 2 = .ok (.putfield 146, 3) := by decide +kernel
theorem dX10_opensBy_5 : decode cX10_opensBy 5 = .ok (.aload_n 0, 1) := by decide +kernel
theorem dX10_opensBy_6 : decode cX10_opensBy 6 = .ok (.iload_n 1, 1) := by decide +kernel
theorem dX10_opensBy_7 : decode cX10_opensBy 7 = .ok (.invokevirtual 153, 3) := by decide +kernel
theorem dX10_opensBy_10 : decode cX10_opensBy 10 = .ok (.aload_n 0, 1) := by decide +kernel
theorem dX10_opensBy_11 : decode cX10_opensBy 11 = .ok (.iconst 0, 1) := by decide +kernel
theorem dX10_opensBy_12 : decode cX10_opensBy 12 = .ok (.invokevirtual 159, 3) := by decide +kernel
theorem dX10_opensBy_15 : decode cX10_opensBy 15 = .ok (.iconst 0, 1) := by decide +kernel
theorem dX10_opensBy_16 : decode cX10_opensBy 16 = .ok (.istore_n 3, 1) := by decide +kernel
theorem dX10_opensBy_17 : decode cX10_opensBy 17 = .ok (.iconst 0, 1) := by decide +kernel
theorem dX10_opensBy_18 : decode cX10_opensBy 18 = .ok (.istore 4, 2) := by decide +kernel
theorem dX10_opensBy_20 : decode cX10_opensBy 20 = .ok (.iload 4, 2) := by decide +kernel
theorem dX10_opensBy_22 : decode cX10_opensBy 22 = .ok (.aload_n 0, 1) := by decide +kernel
theorem dX10_opensBy_23 : decode cX10_opensBy 23 = .ok (.getfield 95, 3) := by decide +kernel
theorem dX10_opensBy_26 : decode cX10_opensBy 26 = .ok (.if_icmp .ge 46, 3) := by decide +kernel
theorem dX10_opensBy_29 : decode cX10_opensBy 29 = .ok (.iload_n 3, 1) := by decide +kernel
theorem dX10_opensBy_30 : decode cX10_opensBy 30 = .ok (.aload_n 0, 1) := by decide +kernel
theorem dX10_opensBy_31 : decode cX10_opensBy 31 = .ok (.getfield 60, 3) := by decide +kernel
theorem dX10_opensBy_34 : decode cX10_opensBy 34 = .ok (.iload 4, 2) := by decide +kernel
theorem dX10_opensBy_36 : decode cX10_opensBy 36 = .ok (.iaload, 1) := by decide +kernel
theorem dX10_opensBy_37 : decode cX10_opensBy 37 = .ok (.iconst (-1), 1) := by decide +kernel
theorem dX10_opensBy_38 : decode cX10_opensBy 38 = .ok (.if_icmp .eq 7, 3) := by decide +kernel
theorem dX10_opensBy_41 : decode cX10_opensBy 41 = .ok (.iconst 1, 1) := by decide +kernel
theorem dX10_opensBy_42 : decode cX10_opensBy 42 = .ok (.goto 4, 3) := by decide +kernel
theorem dX10_opensBy_45 : decode cX10_opensBy 45 = .ok (.iconst 0, 1) := by decide +kernel
theorem dX10_opensBy_46 : decode cX10_opensBy 46 = .ok (.iload_n 2, 1) := by decide +kernel
theorem dX10_opensBy_47 : decode cX10_opensBy 47 = .ok (.if_icmp .ne 16, 3) := by decide +kernel
theorem dX10_opensBy_50 : decode cX10_opensBy 50 = .ok (.aload_n 0, 1) := by decide +kernel
theorem dX10_opensBy_51 : decode cX10_opensBy 51 = .ok (.iload 4, 2) := by decide +kernel
theorem dX10_opensBy_53 : decode cX10_opensBy 53 = .ok (.invokevirtual 244, 3) := by decide +kernel
theorem dX10_opensBy_56 : decode cX10_opensBy 56 = .ok (.ifCond .eq 7, 3) := by decide +kernel
theorem dX10_opensBy_59 : decode cX10_opensBy 59 = .ok (.iconst 1, 1) := by decide +kernel
theorem dX10_opensBy_60 : decode cX10_opensBy 60 = .ok (.goto 4, 3) := by decide +kernel
theorem dX10_opensBy_63 : decode cX10_opensBy 63 = .ok (.iconst 0, 1) := by decide +kernel
theorem dX10_opensBy_64 : decode cX10_opensBy 64 = .ok (.iadd, 1) := by decide +kernel
theorem dX10_opensBy_65 : decode cX10_opensBy 65 = .ok (.istore_n 3, 1) := by decide +kernel
theorem dX10_opensBy_66 : decode cX10_opensBy 66 = .ok (.iinc 4 1, 3) := by decide +kernel
theorem dX10_opensBy_69 : decode cX10_opensBy 69 = .ok (.goto (-49), 3) := by decide +kernel
theorem dX10_opensBy_72 : decode cX10_opensBy 72 = .ok (.iload_n 3, 1) := by decide +kernel
theorem dX10_opensBy_73 : decode cX10_opensBy 73 = .ok (.ireturn, 1) := by decide +kernel
theorem dX10_isEncryptedBySet_0 : decode cX10_isEncryptedBySet 0 = .ok (.iconst 0, 1) := by decide +kernel
theorem dX10_isEncryptedBySet_1 : decode cX10_isEncryptedBySet 1 = .ok (.istore_n 2, 1) := by decide +kernel
theorem dX10_isEncryptedBySet_2 : decode cX10_isEncryptedBySet 2 = .ok (.iload_n 2, 1) := by decide +kernel
theorem dX10_isEncryptedBySet_3 : decode cX10_isEncryptedBySet 3 = .ok (.aload_n 0, 1) := by decide +kernel
theorem dX10_isEncryptedBySet_4 : decode cX10_isEncryptedBySet 4 = .ok (.getfield 89, 3) := by decide +kernel
theorem dX10_isEncryptedBySet_7 : decode cX10_isEncryptedBySet 7 = .ok (.if_icmp .ge 82, 3) := by decide +kernel
theorem dX10_isEncryptedBySet_10 : decode cX10_isEncryptedBySet 10 = .ok (.sipush 150, 3) := by decide +kernel
theorem dX10_isEncryptedBySet_13 : decode cX10_isEncryptedBySet 13 = .ok (.iload_n 2, 1) := by decide +kernel
theorem dX10_isEncryptedBySet_14 : decode cX10_isEncryptedBySet 14 = .ok (.imul, 1) := by decide +kernel
theorem dX10_isEncryptedBySet_15 : decode cX10_isEncryptedBySet 15 = .ok (.istore_n 3, 1) := by decide +kernel
theorem dX10_isEncryptedBySet_16 : decode cX10_isEncryptedBySet 16 = .ok (.aload_n 0, 1) := by decide +kernel
theorem dX10_isEncryptedBySet_17 : decode cX10_isEncryptedBySet 17 = .ok (.getfield 38, 3) := by decide +kernel
theorem dX10_isEncryptedBySet_20 : decode cX10_isEncryptedBySet 20 = .ok (.iload_n 2, 1) := by decide +kernel
theorem dX10_isEncryptedBySet_21 : decode cX10_isEncryptedBySet 21 = .ok (.iaload, 1) := by decide +kernel
theorem dX10_isEncryptedBySet_22 : decode cX10_isEncryptedBySet 22 = .ok (.iconst 2, 1) := by decide +kernel
theorem dX10_isEncryptedBySet_23 : decode cX10_isEncryptedBySet 23 = .ok (.if_icmp .eq 60, 3) := by decide +kernel
theorem dX10_isEncryptedBySet_26 : decode cX10_isEncryptedBySet 26 = .ok (.iload_n 3, 1) := by decide +kernel
theorem dX10_isEncryptedBySet_27 : decode cX10_isEncryptedBySet 27 = .ok (.sipush 150, 3) := by decide +kernel
theorem dX10_isEncryptedBySet_30 : decode cX10_isEncryptedBySet 30 = .ok (.iload_n 2, 1) := by decide +kernel
theorem dX10_isEncryptedBySet_31 : decode cX10_isEncryptedBySet 31 = .ok (.imul, 1) := by decide +kernel
theorem dX10_isEncryptedBySet_32 : decode cX10_isEncryptedBySet 32 = .ok (.aload_n 0, 1) := by decide +kernel
theorem dX10_isEncryptedBySet_33 : decode cX10_isEncryptedBySet 33 = .ok (.getfield 41, 3) := by decide +kernel
theorem dX10_isEncryptedBySet_36 : decode cX10_isEncryptedBySet 36 = .ok (.iload_n 2, 1) := by decide +kernel
theorem dX10_isEncryptedBySet_37 : decode cX10_isEncryptedBySet 37 = .ok (.iaload, 1) := by decide +kernel
theorem dX10_isEncryptedBySet_38 : decode cX10_isEncryptedBySet 38 = .ok (.iadd, 1) := by decide +kernel
theorem dX10_isEncryptedBySet_39 : decode cX10_isEncryptedBySet 39 = .ok (.if_icmp .ge 44, 3) := by decide +kernel
theorem dX10_isEncryptedBySet_42 : decode cX10_isEncryptedBySet 42 = .ok (.aload_n 0, 1) := by decide +kernel
theorem dX10_isEncryptedBySet_43 : decode cX10_isEncryptedBySet 43 = .ok (.getfield 44, 3) := by decide +kernel
theorem dX10_isEncryptedBySet_46 : decode cX10_isEncryptedBySet 46 = .ok (.iload_n 3, 1) := by decide +kernel
theorem dX10_isEncryptedBySet_47 : decode cX10_isEncryptedBySet 47 = .ok (.iaload, 1) := by decide +kernel
theorem dX10_isEncryptedBySet_48 : decode cX10_isEncryptedBySet 48 = .ok (.iconst 1, 1) := by decide +kernel
theorem dX10_isEncryptedBySet_49 : decode cX10_isEncryptedBySet 49 = .ok (.if_icmp .ne 28, 3) := by decide +kernel
theorem dX10_isEncryptedBySet_52 : decode cX10_isEncryptedBySet 52 = .ok (.aload_n 0, 1) := by decide +kernel
theorem dX10_isEncryptedBySet_53 : decode cX10_isEncryptedBySet 53 = .ok (.getfield 47, 3) := by decide +kernel
theorem dX10_isEncryptedBySet_56 : decode cX10_isEncryptedBySet 56 = .ok (.iload_n 3, 1) := by decide +kernel
theorem dX10_isEncryptedBySet_57 : decode cX10_isEncryptedBySet 57 = .ok (.iaload, 1) := by decide +kernel
theorem dX10_isEncryptedBySet_58 : decode cX10_isEncryptedBySet 58 = .ok (.iload_n 1, 1) := by decide +kernel
theorem dX10_isEncryptedBySet_59 : decode cX10_isEncryptedBySet 59 = .ok (.if_icmp .ne 18, 3) := by decide +kernel
theorem dX10_isEncryptedBySet_62 : decode cX10_isEncryptedBySet 62 = .ok (.aload_n 0, 1) := by decide +kernel
theorem dX10_isEncryptedBySet_63 : decode cX10_isEncryptedBySet 63 = .ok (.aload_n 0, 1) := by decide +kernel
theorem dX10_isEncryptedBySet_64 : decode cX10_isEncryptedBySet 64 = .ok (.getfield 50, 3) := by decide +kernel
theorem dX10_isEncryptedBySet_67 : decode cX10_isEncryptedBySet 67 = .ok (.iload_n 3, 1) := by decide +kernel
theorem dX10_isEncryptedBySet_68 : decode cX10_isEncryptedBySet 68 = .ok (.iaload, 1) := by decide +kernel
theorem dX10_isEncryptedBySet_69 : decode cX10_isEncryptedBySet 69 = .ok (.invokevirtual 149, 3) := by decide +kernel
theorem dX10_isEncryptedBySet_72 : decode cX10_isEncryptedBySet 72 = .ok (.ifCond .eq 5, 3) := by decide +kernel
theorem dX10_isEncryptedBySet_75 : decode cX10_isEncryptedBySet 75 = .ok (.iconst 1, 1) := by decide +kernel
theorem dX10_isEncryptedBySet_76 : decode cX10_isEncryptedBySet 76 = .ok (.ireturn, 1) := by decide +kernel
theorem dX10_isEncryptedBySet_77 : decode cX10_isEncryptedBySet 77 = .ok (.iinc 3 1, 3) := by decide +kernel
theorem dX10_isEncryptedBySet_80 : decode cX10_isEncryptedBySet 80 = .ok (.goto (-64), 3) := by decide +kernel
theorem dX10_isEncryptedBySet_83 : decode cX10_isEncryptedBySet 83 = .ok (.iinc 2 1, 3) := by decide +kernel
theorem dX10_isEncryptedBySet_86 : decode cX10_isEncryptedBySet 86 = .ok (.goto (-84), 3) := by decide +kernel
theorem dX10_isEncryptedBySet_89 : decode cX10_isEncryptedBySet 89 = .ok (.iconst 0, 1) := by decide +kernel
theorem dX10_isEncryptedBySet_90 : decode cX10_isEncryptedBySet 90 = .ok (.ireturn, 1) := by decide +kernel
theorem dX10_custodian_0 : decode cX10_custodian 0 = .ok (.aload_n 0, 1) := by decide +kernel
theorem dX10_custodian_1 : decode cX10_custodian 1 = .ok (.iload_n 1, 1) := by decide +kernel
theorem dX10_custodian_2 : decode cX10_custodian 2 = .ok (.invokestatic 193, 3) := by decide +kernel
theorem dX10_custodian_5 : decode cX10_custodian 5 = .ok (.ifCond .ne 7, 3) := by decide +kernel
theorem dX10_custodian_8 : decode cX10_custodian 8 = .ok (.iconst 1, 1) := by decide +kernel
theorem dX10_custodian_9 : decode cX10_custodian 9 = .ok (.goto 20, 3) := by decide +kernel
theorem dX10_custodian_12 : decode cX10_custodian 12 = .ok (.iload_n 2, 1) := by decide +kernel
theorem dX10_custodian_13 : decode cX10_custodian 13 = .ok (.i2l, 1) := by decide +kernel
theorem dX10_custodian_14 : decode cX10_custodian 14 = .ok (.lconst 0, 1) := by decide +kernel
theorem dX10_custodian_15 : decode cX10_custodian 15 = .ok (.ldc2_w 247, 3) := by decide +kernel
theorem dX10_custodian_18 : decode cX10_custodian 18 = .ok (.invokestatic 117, 3) := by decide +kernel
theorem dX10_custodian_21 : decode cX10_custodian 21 = .ok (.ifCond .ne 7, 3) := by decide +kernel
theorem dX10_custodian_24 : decode cX10_custodian 24 = .ok (.iconst 2, 1) := by decide +kernel
theorem dX10_custodian_25 : decode cX10_custodian 25 = .ok (.goto 4, 3) := by decide +kernel
theorem dX10_custodian_28 : decode cX10_custodian 28 = .ok (.iconst 0, 1) := by decide +kernel
theorem dX10_custodian_29 : decode cX10_custodian 29 = .ok (.putfield 82, 3) := by decide +kernel
theorem dX10_custodian_32 : decode cX10_custodian 32 = .ok (.aload_n 0, 1) := by decide +kernel
theorem dX10_custodian_33 : decode cX10_custodian 33 = .ok (.getfield 82, 3) := by decide +kernel
theorem dX10_custodian_36 : decode cX10_custodian 36 = .ok (.ifCond .le 5, 3) := by decide +kernel
theorem dX10_custodian_39 : decode cX10_custodian 39 = .ok (.iconst 0, 1) := by decide +kernel
theorem dX10_custodian_40 : decode cX10_custodian 40 = .ok (.ireturn, 1) := by decide +kernel
theorem dX10_custodian_41 : decode cX10_custodian 41 = .ok (.aload_n 0, 1) := by decide +kernel
theorem dX10_custodian_42 : decode cX10_custodian 42 = .ok (.getfield 22, 3) := by decide +kernel
theorem dX10_custodian_45 : decode cX10_custodian 45 = .ok (.iload_n 1, 1) := by decide +kernel
theorem dX10_custodian_46 : decode cX10_custodian 46 = .ok (.iaload, 1) := by decide +kernel
theorem dX10_custodian_47 : decode cX10_custodian 47 = .ok (.istore_n 3, 1) := by decide +kernel
theorem dX10_custodian_48 : decode cX10_custodian 48 = .ok (.iload_n 3, 1) := by decide +kernel
theorem dX10_custodian_49 : decode cX10_custodian 49 = .ok (.ifCond .ne 5, 3) := by decide +kernel
theorem dX10_custodian_52 : decode cX10_custodian 52 = .ok (.iconst (-1), 1) := by decide +kernel
theorem dX10_custodian_53 : decode cX10_custodian 53 = .ok (.ireturn, 1) := by decide +kernel
theorem dX10_custodian_54 : decode cX10_custodian 54 = .ok (.iload_n 2, 1) := by decide +kernel
theorem dX10_custodian_55 : decode cX10_custodian 55 = .ok (.tableswitch 55 0 2 #[25, 27, 34], 25) := by decide +kernel
theorem dX10_custodian_80 : decode cX10_custodian 80 = .ok (.iload_n 3, 1) := by decide +kernel
theorem dX10_custodian_81 : decode cX10_custodian 81 = .ok (.ireturn, 1) := by decide +kernel
theorem dX10_custodian_82 : decode cX10_custodian 82 = .ok (.aload_n 0, 1) := by decide +kernel
theorem dX10_custodian_83 : decode cX10_custodian 83 = .ok (.getfield 25, 3) := by decide +kernel
theorem dX10_custodian_86 : decode cX10_custodian 86 = .ok (.iload_n 1, 1) := by decide +kernel
theorem dX10_custodian_87 : decode cX10_custodian 87 = .ok (.iaload, 1) := by decide +kernel
theorem dX10_custodian_88 : decode cX10_custodian 88 = .ok (.ireturn, 1) := by decide +kernel
theorem dX10_custodian_89 : decode cX10_custodian 89 = .ok (.aload_n 0, 1) := by decide +kernel
theorem dX10_custodian_90 : decode cX10_custodian 90 = .ok (.getfield 7, 3) := by decide +kernel
theorem dX10_custodian_93 : decode cX10_custodian 93 = .ok (.aload_n 0, 1) := by decide +kernel
theorem dX10_custodian_94 : decode cX10_custodian 94 = .ok (.getfield 25, 3) := by decide +kernel
theorem dX10_custodian_97 : decode cX10_custodian 97 = .ok (.iload_n 1, 1) := by decide +kernel
theorem dX10_custodian_98 : decode cX10_custodian 98 = .ok (.iaload, 1) := by decide +kernel
theorem dX10_custodian_99 : decode cX10_custodian 99 = .ok (.iaload, 1) := by decide +kernel
theorem dX10_custodian_100 : decode cX10_custodian 100 = .ok (.iload_n 3, 1) := by decide +kernel
theorem dX10_custodian_101 : decode cX10_custodian 101 = .ok (.if_icmp .ne 7, 3) := by decide +kernel
theorem dX10_custodian_104 : decode cX10_custodian 104 = .ok (.iconst 1, 1) := by decide +kernel
theorem dX10_custodian_105 : decode cX10_custodian 105 = .ok (.goto 4, 3) := by decide +kernel
theorem dX10_custodian_108 : decode cX10_custodian 108 = .ok (.iconst 0, 1) := by decide +kernel
theorem dX10_custodian_109 : decode cX10_custodian 109 = .ok (.ireturn, 1) := by decide +kernel
theorem dX10_custodian_110 : decode cX10_custodian 110 = .ok (.aload_n 0, 1) := by decide +kernel
theorem dX10_custodian_111 : decode cX10_custodian 111 = .ok (.iload_n 3, 1) := by decide +kernel
theorem dX10_custodian_112 : decode cX10_custodian 112 = .ok (.iload_n 2, 1) := by decide +kernel
theorem dX10_custodian_113 : decode cX10_custodian 113 = .ok (.iconst 3, 1) := by decide +kernel
theorem dX10_custodian_114 : decode cX10_custodian 114 = .ok (.if_icmp .ne 7, 3) := by decide +kernel
theorem dX10_custodian_117 : decode cX10_custodian 117 = .ok (.iconst 1, 1) := by decide +kernel
theorem dX10_custodian_118 : decode cX10_custodian 118 = .ok (.goto 4, 3) := by decide +kernel
theorem dX10_custodian_121 : decode cX10_custodian 121 = .ok (.iconst 0, 1) := by decide +kernel
theorem dX10_custodian_122 : decode cX10_custodian 122 = .ok (.invokevirtual 249, 3) := by decide +kernel
theorem dX10_custodian_125 : decode cX10_custodian 125 = .ok (.ireturn, 1) := by decide +kernel
theorem dX10_rekey_0 : decode cX10_rekey 0 = .ok (.aload_n 0, 1) := by decide +kernel
theorem dX10_rekey_1 : decode cX10_rekey 1 = .ok (.iload_n 1, 1) := by decide +kernel
theorem dX10_rekey_2 : decode cX10_rekey 2 = .ok (.i2l, 1) := by decide +kernel
theorem dX10_rekey_3 : decode cX10_rekey 3 = .ok (.lconst 0, 1) := by decide +kernel
theorem dX10_rekey_4 : decode cX10_rekey 4 = .ok (.ldc2_w 253, 3) := by decide +kernel
theorem dX10_rekey_7 : decode cX10_rekey 7 = .ok (.invokestatic 117, 3) := by decide +kernel
theorem dX10_rekey_10 : decode cX10_rekey 10 = .ok (.ifCond .eq 7, 3) := by decide +kernel
theorem dX10_rekey_13 : decode cX10_rekey 13 = .ok (.iconst 0, 1) := by decide +kernel
theorem dX10_rekey_14 : decode cX10_rekey 14 = .ok (.goto 4, 3) := by decide +kernel
theorem dX10_rekey_17 : decode cX10_rekey 17 = .ok (.iconst 1, 1) := by decide +kernel
theorem dX10_rekey_18 : decode cX10_rekey 18 = .ok (.putfield 82, 3) := by decide +kernel
theorem dX10_rekey_21 : decode cX10_rekey 21 = .ok (.aload_n 0, 1) := by decide +kernel
theorem dX10_rekey_22 : decode cX10_rekey 22 = .ok (.getfield 82, 3) := by decide +kernel
theorem dX10_rekey_25 : decode cX10_rekey 25 = .ok (.ifCond .le 5, 3) := by decide +kernel
theorem dX10_rekey_28 : decode cX10_rekey 28 = .ok (.iconst 0, 1) := by decide +kernel
theorem dX10_rekey_29 : decode cX10_rekey 29 = .ok (.ireturn, 1) := by decide +kernel
theorem dX10_rekey_30 : decode cX10_rekey 30 = .ok (.aload_n 0, 1) := by decide +kernel
theorem dX10_rekey_31 : decode cX10_rekey 31 = .ok (.aload_n 0, 1) := by decide +kernel
theorem dX10_rekey_32 : decode cX10_rekey 32 = .ok (.getfield 7, 3) := by decide +kernel
theorem dX10_rekey_35 : decode cX10_rekey 35 = .ok (.iload_n 1, 1) := by decide +kernel
theorem dX10_rekey_36 : decode cX10_rekey 36 = .ok (.iaload, 1) := by decide +kernel
theorem dX10_rekey_37 : decode cX10_rekey 37 = .ok (.ifCond .eq 30, 3) := by decide +kernel
theorem dX10_rekey_40 : decode cX10_rekey 40 = .ok (.aload_n 0, 1) := by decide +kernel
theorem dX10_rekey_41 : decode cX10_rekey 41 = .ok (.aload_n 0, 1) := by decide +kernel
theorem dX10_rekey_42 : decode cX10_rekey 42 = .ok (.iconst (-1), 1) := by decide +kernel
theorem dX10_rekey_43 : decode cX10_rekey 43 = .ok (.invokevirtual 123, 3) := by decide +kernel
theorem dX10_rekey_46 : decode cX10_rekey 46 = .ok (.aload_n 0, 1) := by decide +kernel
theorem dX10_rekey_47 : decode cX10_rekey 47 = .ok (.iload_n 1, 1) := by decide +kernel
theorem dX10_rekey_48 : decode cX10_rekey 48 = .ok (.invokevirtual 255, 3) := by decide +kernel
theorem dX10_rekey_51 : decode cX10_rekey 51 = .ok (.iload_n 1, 1) := by decide +kernel
theorem dX10_rekey_52 : decode cX10_rekey 52 = .ok (.ifCond .le 7, 3) := by decide +kernel
theorem dX10_rekey_55 : decode cX10_rekey 55 = .ok (.iconst 1, 1) := by decide +kernel
theorem dX10_rekey_56 : decode cX10_rekey 56 = .ok (.goto 4, 3) := by decide +kernel
theorem dX10_rekey_59 : decode cX10_rekey 59 = .ok (.iconst 0, 1) := by decide +kernel
theorem dX10_rekey_60 : decode cX10_rekey 60 = .ok (.iadd, 1) := by decide +kernel
theorem dX10_rekey_61 : decode cX10_rekey 61 = .ok (.invokevirtual 176, 3) := by decide +kernel
theorem dX10_rekey_64 : decode cX10_rekey 64 = .ok (.ifCond .ne 7, 3) := by decide +kernel
theorem dX10_rekey_67 : decode cX10_rekey 67 = .ok (.iconst 2, 1) := by decide +kernel
theorem dX10_rekey_68 : decode cX10_rekey 68 = .ok (.goto 4, 3) := by decide +kernel
theorem dX10_rekey_71 : decode cX10_rekey 71 = .ok (.iconst 0, 1) := by decide +kernel
theorem dX10_rekey_72 : decode cX10_rekey 72 = .ok (.putfield 82, 3) := by decide +kernel
theorem dX10_rekey_75 : decode cX10_rekey 75 = .ok (.aload_n 0, 1) := by decide +kernel
theorem dX10_rekey_76 : decode cX10_rekey 76 = .ok (.getfield 82, 3) := by decide +kernel
theorem dX10_rekey_79 : decode cX10_rekey 79 = .ok (.ifCond .le 5, 3) := by decide +kernel
theorem dX10_rekey_82 : decode cX10_rekey 82 = .ok (.iconst 0, 1) := by decide +kernel
theorem dX10_rekey_83 : decode cX10_rekey 83 = .ok (.ireturn, 1) := by decide +kernel
theorem dX10_rekey_84 : decode cX10_rekey 84 = .ok (.aload_n 0, 1) := by decide +kernel
theorem dX10_rekey_85 : decode cX10_rekey 85 = .ok (.getfield 7, 3) := by decide +kernel
theorem dX10_rekey_88 : decode cX10_rekey 88 = .ok (.iload_n 1, 1) := by decide +kernel
theorem dX10_rekey_89 : decode cX10_rekey 89 = .ok (.aload_n 0, 1) := by decide +kernel
theorem dX10_rekey_90 : decode cX10_rekey 90 = .ok (.invokevirtual 101, 3) := by decide +kernel
theorem dX10_rekey_93 : decode cX10_rekey 93 = .ok (.iastore, 1) := by decide +kernel
theorem dX10_rekey_94 : decode cX10_rekey 94 = .ok (.aload_n 0, 1) := by decide +kernel
theorem dX10_rekey_95 : decode cX10_rekey 95 = .ok (.iload_n 1, 1) := by decide +kernel
theorem dX10_rekey_96 : decode cX10_rekey 96 = .ok (.invokevirtual 241, 3) := by decide +kernel
theorem dX10_rekey_99 : decode cX10_rekey 99 = .ok (.iload_n 1, 1) := by decide +kernel
theorem dX10_rekey_100 : decode cX10_rekey 100 = .ok (.ifCond .le 22, 3) := by decide +kernel
theorem dX10_rekey_103 : decode cX10_rekey 103 = .ok (.aload_n 0, 1) := by decide +kernel
theorem dX10_rekey_104 : decode cX10_rekey 104 = .ok (.aload_n 0, 1) := by decide +kernel
theorem dX10_rekey_105 : decode cX10_rekey 105 = .ok (.getfield 7, 3) := by decide +kernel
theorem dX10_rekey_108 : decode cX10_rekey 108 = .ok (.iload_n 1, 1) := by decide +kernel
theorem dX10_rekey_109 : decode cX10_rekey 109 = .ok (.iaload, 1) := by decide +kernel
theorem dX10_rekey_110 : decode cX10_rekey 110 = .ok (.aload_n 0, 1) := by decide +kernel
theorem dX10_rekey_111 : decode cX10_rekey 111 = .ok (.getfield 7, 3) := by decide +kernel
theorem dX10_rekey_114 : decode cX10_rekey 114 = .ok (.iload_n 1, 1) := by decide +kernel
theorem dX10_rekey_115 : decode cX10_rekey 115 = .ok (.invokestatic 112, 3) := by decide +kernel
theorem dX10_rekey_118 : decode cX10_rekey 118 = .ok (.iaload, 1) := by decide +kernel
theorem dX10_rekey_119 : decode cX10_rekey 119 = .ok (.invokevirtual 166, 3) := by decide +kernel
theorem dX10_rekey_122 : decode cX10_rekey 122 = .ok (.aload_n 0, 1) := by decide +kernel
theorem dX10_rekey_123 : decode cX10_rekey 123 = .ok (.getfield 7, 3) := by decide +kernel
theorem dX10_rekey_126 : decode cX10_rekey 126 = .ok (.iload_n 1, 1) := by decide +kernel
theorem dX10_rekey_127 : decode cX10_rekey 127 = .ok (.iaload, 1) := by decide +kernel
theorem dX10_rekey_128 : decode cX10_rekey 128 = .ok (.ireturn, 1) := by decide +kernel
theorem dX10_isFixed_0 : decode cX10_isFixed 0 = .ok (.iconst 0, 1) := by decide +kernel
theorem dX10_isFixed_1 : decode cX10_isFixed 1 = .ok (.istore_n 2, 1) := by decide +kernel
theorem dX10_isFixed_2 : decode cX10_isFixed 2 = .ok (.iload_n 2, 1) := by decide +kernel
theorem dX10_isFixed_3 : decode cX10_isFixed 3 = .ok (.bipush 64, 2) := by decide +kernel
theorem dX10_isFixed_5 : decode cX10_isFixed 5 = .ok (.if_icmp .ge 49, 3) := by decide +kernel
theorem dX10_isFixed_8 : decode cX10_isFixed 8 = .ok (.aload_n 0, 1) := by decide +kernel
theorem dX10_isFixed_9 : decode cX10_isFixed 9 = .ok (.getfield 16, 3) := by decide +kernel
theorem dX10_isFixed_12 : decode cX10_isFixed 12 = .ok (.iload_n 2, 1) := by decide +kernel
theorem dX10_isFixed_13 : decode cX10_isFixed 13 = .ok (.iaload, 1) := by decide +kernel
theorem dX10_isFixed_14 : decode cX10_isFixed 14 = .ok (.iconst (-1), 1) := by decide +kernel
theorem dX10_isFixed_15 : decode cX10_isFixed 15 = .ok (.if_icmp .eq 33, 3) := by decide +kernel
theorem dX10_isFixed_18 : decode cX10_isFixed 18 = .ok (.bipush 21, 2) := by decide +kernel
theorem dX10_isFixed_20 : decode cX10_isFixed 20 = .ok (.iload_n 2, 1) := by decide +kernel
theorem dX10_isFixed_21 : decode cX10_isFixed 21 = .ok (.iadd, 1) := by decide +kernel
theorem dX10_isFixed_22 : decode cX10_isFixed 22 = .ok (.iload_n 1, 1) := by decide +kernel
theorem dX10_isFixed_23 : decode cX10_isFixed 23 = .ok (.invokestatic 229, 3) := by decide +kernel
theorem dX10_isFixed_26 : decode cX10_isFixed 26 = .ok (.ifCond .eq 22, 3) := by decide +kernel
theorem dX10_isFixed_29 : decode cX10_isFixed 29 = .ok (.aload_n 0, 1) := by decide +kernel
theorem dX10_isFixed_30 : decode cX10_isFixed 30 = .ok (.getfield 28, 3) := by decide +kernel
theorem dX10_isFixed_33 : decode cX10_isFixed 33 = .ok (.iload_n 2, 1) := by decide +kernel
theorem dX10_isFixed_34 : decode cX10_isFixed 34 = .ok (.baload, 1) := by decide +kernel
theorem dX10_isFixed_35 : decode cX10_isFixed 35 = .ok (.ifCond .ne 11, 3) := by decide +kernel
theorem dX10_isFixed_38 : decode cX10_isFixed 38 = .ok (.aload_n 0, 1) := by decide +kernel
theorem dX10_isFixed_39 : decode cX10_isFixed 39 = .ok (.iload_n 2, 1) := by decide +kernel
theorem dX10_isFixed_40 : decode cX10_isFixed 40 = .ok (.invokevirtual 218, 3) := by decide +kernel
theorem dX10_isFixed_43 : decode cX10_isFixed 43 = .ok (.ifCond .eq 5, 3) := by decide +kernel
theorem dX10_isFixed_46 : decode cX10_isFixed 46 = .ok (.iconst 1, 1) := by decide +kernel
theorem dX10_isFixed_47 : decode cX10_isFixed 47 = .ok (.ireturn, 1) := by decide +kernel
theorem dX10_isFixed_48 : decode cX10_isFixed 48 = .ok (.iinc 2 1, 3) := by decide +kernel
theorem dX10_isFixed_51 : decode cX10_isFixed 51 = .ok (.goto (-49), 3) := by decide +kernel
theorem dX10_isFixed_54 : decode cX10_isFixed 54 = .ok (.iconst 0, 1) := by decide +kernel
theorem dX10_isFixed_55 : decode cX10_isFixed 55 = .ok (.ireturn, 1) := by decide +kernel
theorem dX10_goes_0 : decode cX10_goes 0 = .ok (.iconst 0, 1) := by decide +kernel
theorem dX10_goes_1 : decode cX10_goes 1 = .ok (.istore_n 3, 1) := by decide +kernel
theorem dX10_goes_2 : decode cX10_goes 2 = .ok (.aload_n 0, 1) := by decide +kernel
theorem dX10_goes_3 : decode cX10_goes 3 = .ok (.getfield 7, 3) := by decide +kernel
theorem dX10_goes_6 : decode cX10_goes 6 = .ok (.iload_n 2, 1) := by decide +kernel
theorem dX10_goes_7 : decode cX10_goes 7 = .ok (.aload_n 0, 1) := by decide +kernel
theorem dX10_goes_8 : decode cX10_goes 8 = .ok (.getfield 7, 3) := by decide +kernel
theorem dX10_goes_11 : decode cX10_goes 11 = .ok (.iload_n 1, 1) := by decide +kernel
theorem dX10_goes_12 : decode cX10_goes 12 = .ok (.iaload, 1) := by decide +kernel
theorem dX10_goes_13 : decode cX10_goes 13 = .ok (.iastore, 1) := by decide +kernel
theorem dX10_goes_14 : decode cX10_goes 14 = .ok (.aload_n 0, 1) := by decide +kernel
theorem dX10_goes_15 : decode cX10_goes 15 = .ok (.getfield 7, 3) := by decide +kernel
theorem dX10_goes_18 : decode cX10_goes 18 = .ok (.iload_n 1, 1) := by decide +kernel
theorem dX10_goes_19 : decode cX10_goes 19 = .ok (.iconst 0, 1) := by decide +kernel
theorem dX10_goes_20 : decode cX10_goes 20 = .ok (.iastore, 1) := by decide +kernel
theorem dX10_goes_21 : decode cX10_goes 21 = .ok (.iload_n 1, 1) := by decide +kernel
theorem dX10_goes_22 : decode cX10_goes 22 = .ok (.bipush 21, 2) := by decide +kernel
theorem dX10_goes_24 : decode cX10_goes 24 = .ok (.if_icmp .lt 64, 3) := by decide +kernel
theorem dX10_goes_27 : decode cX10_goes 27 = .ok (.aload_n 0, 1) := by decide +kernel
theorem dX10_goes_28 : decode cX10_goes 28 = .ok (.getfield 16, 3) := by decide +kernel
theorem dX10_goes_31 : decode cX10_goes 31 = .ok (.iload_n 1, 1) := by decide +kernel
theorem dX10_goes_32 : decode cX10_goes 32 = .ok (.bipush 21, 2) := by decide +kernel
theorem dX10_goes_34 : decode cX10_goes 34 = .ok (.isub, 1) := by decide +kernel
theorem dX10_goes_35 : decode cX10_goes 35 = .ok (.iaload, 1) := by decide +kernel
theorem dX10_goes_36 : decode cX10_goes 36 = .ok (.istore 4, 2) := by decide +kernel
theorem dX10_goes_38 : decode cX10_goes 38 = .ok (.aload_n 0, 1) := by decide +kernel
theorem dX10_goes_39 : decode cX10_goes 39 = .ok (.getfield 16, 3) := by decide +kernel
theorem dX10_goes_42 : decode cX10_goes 42 = .ok (.iload_n 2, 1) := by decide +kernel
theorem dX10_goes_43 : decode cX10_goes 43 = .ok (.bipush 21, 2) := by decide +kernel
theorem dX10_goes_45 : decode cX10_goes 45 = .ok (.isub, 1) := by decide +kernel
theorem dX10_goes_46 : decode cX10_goes 46 = .ok (.iload 4, 2) := by decide +kernel
theorem dX10_goes_48 : decode cX10_goes 48 = .ok (.iastore, 1) := by decide +kernel
theorem dX10_goes_49 : decode cX10_goes 49 = .ok (.aload_n 0, 1) := by decide +kernel
theorem dX10_goes_50 : decode cX10_goes 50 = .ok (.getfield 16, 3) := by decide +kernel
theorem dX10_goes_53 : decode cX10_goes 53 = .ok (.iload_n 1, 1) := by decide +kernel
theorem dX10_goes_54 : decode cX10_goes 54 = .ok (.bipush 21, 2) := by decide +kernel
theorem dX10_goes_56 : decode cX10_goes 56 = .ok (.isub, 1) := by decide +kernel
theorem dX10_goes_57 : decode cX10_goes 57 = .ok (.iconst (-1), 1) := by decide +kernel
theorem dX10_goes_58 : decode cX10_goes 58 = .ok (.iastore, 1) := by decide +kernel
theorem dX10_goes_59 : decode cX10_goes 59 = .ok (.iload 4, 2) := by decide +kernel
theorem dX10_goes_61 : decode cX10_goes 61 = .ok (.iconst (-1), 1) := by decide +kernel
theorem dX10_goes_62 : decode cX10_goes 62 = .ok (.if_icmp .eq 14, 3) := by decide +kernel
theorem dX10_goes_65 : decode cX10_goes 65 = .ok (.aload_n 0, 1) := by decide +kernel
theorem dX10_goes_66 : decode cX10_goes 66 = .ok (.getfield 60, 3) := by decide +kernel
theorem dX10_goes_69 : decode cX10_goes 69 = .ok (.iload 4, 2) := by decide +kernel
theorem dX10_goes_71 : decode cX10_goes 71 = .ok (.iload_n 2, 1) := by decide +kernel
theorem dX10_goes_72 : decode cX10_goes 72 = .ok (.bipush 21, 2) := by decide +kernel
theorem dX10_goes_74 : decode cX10_goes 74 = .ok (.isub, 1) := by decide +kernel
theorem dX10_goes_75 : decode cX10_goes 75 = .ok (.iastore, 1) := by decide +kernel
theorem dX10_goes_76 : decode cX10_goes 76 = .ok (.iload 4, 2) := by decide +kernel
theorem dX10_goes_78 : decode cX10_goes 78 = .ok (.iconst (-1), 1) := by decide +kernel
theorem dX10_goes_79 : decode cX10_goes 79 = .ok (.if_icmp .ne 7, 3) := by decide +kernel
theorem dX10_goes_82 : decode cX10_goes 82 = .ok (.iconst 0, 1) := by decide +kernel
theorem dX10_goes_83 : decode cX10_goes 83 = .ok (.goto 4, 3) := by decide +kernel
theorem dX10_goes_86 : decode cX10_goes 86 = .ok (.iconst 1, 1) := by decide +kernel
theorem dX10_goes_87 : decode cX10_goes 87 = .ok (.ireturn, 1) := by decide +kernel
theorem dX10_goes_88 : decode cX10_goes 88 = .ok (.iconst 1, 1) := by decide +kernel
theorem dX10_goes_89 : decode cX10_goes 89 = .ok (.istore 4, 2) := by decide +kernel
theorem dX10_goes_91 : decode cX10_goes 91 = .ok (.iload 4, 2) := by decide +kernel
theorem dX10_goes_93 : decode cX10_goes 93 = .ok (.iconst 4, 1) := by decide +kernel
theorem dX10_goes_94 : decode cX10_goes 94 = .ok (.if_icmp .gt 28, 3) := by decide +kernel
theorem dX10_goes_97 : decode cX10_goes 97 = .ok (.iload_n 3, 1) := by decide +kernel
theorem dX10_goes_98 : decode cX10_goes 98 = .ok (.aload_n 0, 1) := by decide +kernel
theorem dX10_goes_99 : decode cX10_goes 99 = .ok (.iconst 4, 1) := by decide +kernel
theorem dX10_goes_100 : decode cX10_goes 100 = .ok (.iload_n 1, 1) := by decide +kernel
theorem dX10_goes_101 : decode cX10_goes 101 = .ok (.imul, 1) := by decide +kernel
theorem dX10_goes_102 : decode cX10_goes 102 = .ok (.iload 4, 2) := by decide +kernel
theorem dX10_goes_104 : decode cX10_goes 104 = .ok (.iadd, 1) := by decide +kernel
theorem dX10_goes_105 : decode cX10_goes 105 = .ok (.iconst 4, 1) := by decide +kernel
theorem dX10_goes_106 : decode cX10_goes 106 = .ok (.iload_n 2, 1) := by decide +kernel
theorem dX10_goes_107 : decode cX10_goes 107 = .ok (.imul, 1) := by decide +kernel
theorem dX10_goes_108 : decode cX10_goes 108 = .ok (.iload 4, 2) := by decide +kernel
theorem dX10_goes_110 : decode cX10_goes 110 = .ok (.iadd, 1) := by decide +kernel
theorem dX10_goes_111 : decode cX10_goes 111 = .ok (.invokevirtual 258, 3) := by decide +kernel
theorem dX10_goes_114 : decode cX10_goes 114 = .ok (.iadd, 1) := by decide +kernel
theorem dX10_goes_115 : decode cX10_goes 115 = .ok (.istore_n 3, 1) := by decide +kernel
theorem dX10_goes_116 : decode cX10_goes 116 = .ok (.iinc 4 1, 3) := by decide +kernel
theorem dX10_goes_119 : decode cX10_goes 119 = .ok (.goto (-28), 3) := by decide +kernel
theorem dX10_goes_122 : decode cX10_goes 122 = .ok (.iload_n 3, 1) := by decide +kernel
theorem dX10_goes_123 : decode cX10_goes 123 = .ok (.ireturn, 1) := by decide +kernel
theorem dX10_move_0 : decode cX10_move 0 = .ok (.aload_n 0, 1) := by decide +kernel
theorem dX10_move_1 : decode cX10_move 1 = .ok (.iload_n 1, 1) := by decide +kernel
theorem dX10_move_2 : decode cX10_move 2 = .ok (.i2l, 1) := by decide +kernel
theorem dX10_move_3 : decode cX10_move 3 = .ok (.lconst 1, 1) := by decide +kernel
theorem dX10_move_4 : decode cX10_move 4 = .ok (.ldc2_w 121, 3) := by decide +kernel
theorem dX10_move_7 : decode cX10_move 7 = .ok (.invokestatic 117, 3) := by decide +kernel
theorem dX10_move_10 : decode cX10_move 10 = .ok (.ifCond .eq 15, 3) := by decide +kernel
theorem dX10_move_13 : decode cX10_move 13 = .ok (.iload_n 2, 1) := by decide +kernel
theorem dX10_move_14 : decode cX10_move 14 = .ok (.i2l, 1) := by decide +kernel
theorem dX10_move_15 : decode cX10_move 15 = .ok (.lconst 1, 1) := by decide +kernel
theorem dX10_move_16 : decode cX10_move 16 = .ok (.ldc2_w 121, 3) := by decide +kernel
theorem dX10_move_19 : decode cX10_move 19 = .ok (.invokestatic 117, 3) := by decide +kernel
theorem dX10_move_22 : decode cX10_move 22 = .ok (.ifCond .ne 7, 3) := by decide +kernel
theorem dX10_move_25 : decode cX10_move 25 = .ok (.iconst 1, 1) := by decide +kernel
theorem dX10_move_26 : decode cX10_move 26 = .ok (.goto 19, 3) := by decide +kernel
theorem dX10_move_29 : decode cX10_move 29 = .ok (.iload_n 1, 1) := by decide +kernel
theorem dX10_move_30 : decode cX10_move 30 = .ok (.invokestatic 262, 3) := by decide +kernel
theorem dX10_move_33 : decode cX10_move 33 = .ok (.iload_n 2, 1) := by decide +kernel
theorem dX10_move_34 : decode cX10_move 34 = .ok (.invokestatic 262, 3) := by decide +kernel
theorem dX10_move_37 : decode cX10_move 37 = .ok (.if_icmp .eq 7, 3) := by decide +kernel
theorem dX10_move_40 : decode cX10_move 40 = .ok (.iconst 2, 1) := by decide +kernel
theorem dX10_move_41 : decode cX10_move 41 = .ok (.goto 4, 3) := by decide +kernel
theorem dX10_move_44 : decode cX10_move 44 = .ok (.iconst 0, 1) := by decide +kernel
theorem dX10_move_45 : decode cX10_move 45 = .ok (.putfield 82, 3) := by decide +kernel
theorem dX10_move_48 : decode cX10_move 48 = .ok (.aload_n 0, 1) := by decide +kernel
theorem dX10_move_49 : decode cX10_move 49 = .ok (.getfield 82, 3) := by decide +kernel
theorem dX10_move_52 : decode cX10_move 52 = .ok (.ifCond .le 5, 3) := by decide +kernel
theorem dX10_move_55 : decode cX10_move 55 = .ok (.iconst 0, 1) := by decide +kernel
theorem dX10_move_56 : decode cX10_move 56 = .ok (.ireturn, 1) := by decide +kernel
theorem dX10_move_57 : decode cX10_move 57 = .ok (.aload_n 0, 1) := by decide +kernel
theorem dX10_move_58 : decode cX10_move 58 = .ok (.aload_n 0, 1) := by decide +kernel
theorem dX10_move_59 : decode cX10_move 59 = .ok (.getfield 7, 3) := by decide +kernel
theorem dX10_move_62 : decode cX10_move 62 = .ok (.iload_n 1, 1) := by decide +kernel
theorem dX10_move_63 : decode cX10_move 63 = .ok (.iaload, 1) := by decide +kernel
theorem dX10_move_64 : decode cX10_move 64 = .ok (.ifCond .eq 37, 3) := by decide +kernel
theorem dX10_move_67 : decode cX10_move 67 = .ok (.aload_n 0, 1) := by decide +kernel
theorem dX10_move_68 : decode cX10_move 68 = .ok (.getfield 7, 3) := by decide +kernel
theorem dX10_move_71 : decode cX10_move 71 = .ok (.iload_n 2, 1) := by decide +kernel
theorem dX10_move_72 : decode cX10_move 72 = .ok (.iaload, 1) := by decide +kernel
theorem dX10_move_73 : decode cX10_move 73 = .ok (.ifCond .ne 28, 3) := by decide +kernel
theorem dX10_move_76 : decode cX10_move 76 = .ok (.aload_n 0, 1) := by decide +kernel
theorem dX10_move_77 : decode cX10_move 77 = .ok (.iload_n 1, 1) := by decide +kernel
theorem dX10_move_78 : decode cX10_move 78 = .ok (.invokevirtual 265, 3) := by decide +kernel
theorem dX10_move_81 : decode cX10_move 81 = .ok (.ifCond .ne 20, 3) := by decide +kernel
theorem dX10_move_84 : decode cX10_move 84 = .ok (.aload_n 0, 1) := by decide +kernel
theorem dX10_move_85 : decode cX10_move 85 = .ok (.aload_n 0, 1) := by decide +kernel
theorem dX10_move_86 : decode cX10_move 86 = .ok (.iconst (-1), 1) := by decide +kernel
theorem dX10_move_87 : decode cX10_move 87 = .ok (.invokevirtual 123, 3) := by decide +kernel
theorem dX10_move_90 : decode cX10_move 90 = .ok (.aload_n 0, 1) := by decide +kernel
theorem dX10_move_91 : decode cX10_move 91 = .ok (.iload_n 2, 1) := by decide +kernel
theorem dX10_move_92 : decode cX10_move 92 = .ok (.invokevirtual 173, 3) := by decide +kernel
theorem dX10_move_95 : decode cX10_move 95 = .ok (.invokevirtual 176, 3) := by decide +kernel
theorem dX10_move_98 : decode cX10_move 98 = .ok (.ifCond .ne 7, 3) := by decide +kernel
theorem dX10_move_101 : decode cX10_move 101 = .ok (.iconst 3, 1) := by decide +kernel
theorem dX10_move_102 : decode cX10_move 102 = .ok (.goto 4, 3) := by decide +kernel
theorem dX10_move_105 : decode cX10_move 105 = .ok (.iconst 0, 1) := by decide +kernel
theorem dX10_move_106 : decode cX10_move 106 = .ok (.putfield 82, 3) := by decide +kernel
theorem dX10_move_109 : decode cX10_move 109 = .ok (.aload_n 0, 1) := by decide +kernel
theorem dX10_move_110 : decode cX10_move 110 = .ok (.getfield 82, 3) := by decide +kernel
theorem dX10_move_113 : decode cX10_move 113 = .ok (.ifCond .le 5, 3) := by decide +kernel
theorem dX10_move_116 : decode cX10_move 116 = .ok (.iconst 0, 1) := by decide +kernel
theorem dX10_move_117 : decode cX10_move 117 = .ok (.ireturn, 1) := by decide +kernel
theorem dX10_move_118 : decode cX10_move 118 = .ok (.aload_n 0, 1) := by decide +kernel
theorem dX10_move_119 : decode cX10_move 119 = .ok (.iload_n 2, 1) := by decide +kernel
theorem dX10_move_120 : decode cX10_move 120 = .ok (.invokestatic 112, 3) := by decide +kernel
theorem dX10_move_123 : decode cX10_move 123 = .ok (.invokevirtual 163, 3) := by decide +kernel
theorem dX10_move_126 : decode cX10_move 126 = .ok (.aload_n 0, 1) := by decide +kernel
theorem dX10_move_127 : decode cX10_move 127 = .ok (.iload_n 1, 1) := by decide +kernel
theorem dX10_move_128 : decode cX10_move 128 = .ok (.iload_n 2, 1) := by decide +kernel
theorem dX10_move_129 : decode cX10_move 129 = .ok (.invokevirtual 258, 3) := by decide +kernel
theorem dX10_move_132 : decode cX10_move 132 = .ok (.istore_n 3, 1) := by decide +kernel
theorem dX10_move_133 : decode cX10_move 133 = .ok (.aload_n 0, 1) := by decide +kernel
theorem dX10_move_134 : decode cX10_move 134 = .ok (.aload_n 0, 1) := by decide +kernel
theorem dX10_move_135 : decode cX10_move 135 = .ok (.getfield 7, 3) := by decide +kernel
theorem dX10_move_138 : decode cX10_move 138 = .ok (.iload_n 2, 1) := by decide +kernel
theorem dX10_move_139 : decode cX10_move 139 = .ok (.iaload, 1) := by decide +kernel
theorem dX10_move_140 : decode cX10_move 140 = .ok (.aload_n 0, 1) := by decide +kernel
theorem dX10_move_141 : decode cX10_move 141 = .ok (.getfield 7, 3) := by decide +kernel
theorem dX10_move_144 : decode cX10_move 144 = .ok (.iload_n 2, 1) := by decide +kernel
theorem dX10_move_145 : decode cX10_move 145 = .ok (.invokestatic 112, 3) := by decide +kernel
theorem dX10_move_148 : decode cX10_move 148 = .ok (.iaload, 1) := by decide +kernel
theorem dX10_move_149 : decode cX10_move 149 = .ok (.invokevirtual 166, 3) := by decide +kernel
theorem dX10_move_152 : decode cX10_move 152 = .ok (.iload_n 1, 1) := by decide +kernel
theorem dX10_move_153 : decode cX10_move 153 = .ok (.invokestatic 112, 3) := by decide +kernel
theorem dX10_move_156 : decode cX10_move 156 = .ok (.istore 4, 2) := by decide +kernel
theorem dX10_move_158 : decode cX10_move 158 = .ok (.iload 4, 2) := by decide +kernel
theorem dX10_move_160 : decode cX10_move 160 = .ok (.ifCond .le 30, 3) := by decide +kernel
theorem dX10_move_163 : decode cX10_move 163 = .ok (.aload_n 0, 1) := by decide +kernel
theorem dX10_move_164 : decode cX10_move 164 = .ok (.iload 4, 2) := by decide +kernel
theorem dX10_move_166 : decode cX10_move 166 = .ok (.invokevirtual 255, 3) := by decide +kernel
theorem dX10_move_169 : decode cX10_move 169 = .ok (.ifCond .ne 21, 3) := by decide +kernel
theorem dX10_move_172 : decode cX10_move 172 = .ok (.aload_n 0, 1) := by decide +kernel
theorem dX10_move_173 : decode cX10_move 173 = .ok (.getfield 7, 3) := by decide +kernel
theorem dX10_move_176 : decode cX10_move 176 = .ok (.iload 4, 2) := by decide +kernel
theorem dX10_move_178 : decode cX10_move 178 = .ok (.iconst 0, 1) := by decide +kernel
theorem dX10_move_179 : decode cX10_move 179 = .ok (.iastore, 1) := by decide +kernel
theorem dX10_move_180 : decode cX10_move 180 = .ok (.iload 4, 2) := by decide +kernel
theorem dX10_move_182 : decode cX10_move 182 = .ok (.invokestatic 112, 3) := by decide +kernel
theorem dX10_move_185 : decode cX10_move 185 = .ok (.istore 4, 2) := by decide +kernel
theorem dX10_move_187 : decode cX10_move 187 = .ok (.goto (-29), 3) := by decide +kernel
theorem dX10_move_190 : decode cX10_move 190 = .ok (.iload_n 3, 1) := by decide +kernel
theorem dX10_move_191 : decode cX10_move 191 = .ok (.ireturn, 1) := by decide +kernel
theorem dX10_openingKeys_0 : decode cX10_openingKeys 0 = .ok (.aload_n 0, 1) := by decide +kernel
theorem dX10_openingKeys_1 : decode cX10_openingKeys 1 = .ok (.aload_n 0, 1) := by decide +kernel
theorem dX10_openingKeys_2 : decode cX10_openingKeys 2 = .ok (.iload_n 1, 1) := by decide +kernel
theorem dX10_openingKeys_3 : decode cX10_openingKeys 3 = .ok (.invokevirtual 183, 3) := by decide +kernel
theorem dX10_openingKeys_6 : decode cX10_openingKeys 6 = .ok (.ifCond .eq 7, 3) := by decide +kernel
theorem dX10_openingKeys_9 : decode cX10_openingKeys 9 = .ok (.iconst 0, 1) := by decide +kernel
theorem dX10_openingKeys_10 : decode cX10_openingKeys 10 = .ok (.goto 4, 3) := by decide +kernel
theorem dX10_openingKeys_13 : decode cX10_openingKeys 13 = .ok (.iconst 1, 1) := by decide +kernel
theorem dX10_openingKeys_14 : decode cX10_openingKeys 14 = .ok (.putfield 82, 3) := by decide +kernel
theorem dX10_openingKeys_17 : decode cX10_openingKeys 17 = .ok (.aload_n 0, 1) := by decide +kernel
theorem dX10_openingKeys_18 : decode cX10_openingKeys 18 = .ok (.getfield 82, 3) := by decide +kernel
theorem dX10_openingKeys_21 : decode cX10_openingKeys 21 = .ok (.ifCond .le 5, 3) := by decide +kernel
theorem dX10_openingKeys_24 : decode cX10_openingKeys 24 = .ok (.iconst 0, 1) := by decide +kernel
theorem dX10_openingKeys_25 : decode cX10_openingKeys 25 = .ok (.ireturn, 1) := by decide +kernel
theorem dX10_openingKeys_26 : decode cX10_openingKeys 26 = .ok (.aload_n 0, 1) := by decide +kernel
theorem dX10_openingKeys_27 : decode cX10_openingKeys 27 = .ok (.iload_n 1, 1) := by decide +kernel
theorem dX10_openingKeys_28 : decode cX10_openingKeys 28 = .ok (.invokevirtual 188, 3) := by decide +kernel
theorem dX10_openingKeys_31 : decode cX10_openingKeys 31 = .ok (.aload_n 0, 1) := by decide +kernel
theorem dX10_openingKeys_32 : decode cX10_openingKeys 32 = .ok (.getfield 146, 3) := by decide +kernel
theorem dX10_openingKeys_35 : decode cX10_openingKeys 35 = .ok (.ireturn, 1) := by decide +kernel
theorem dX10_addMedium_0 : decode cX10_addMedium 0 = .ok (.aload_n 0, 1) := by decide +kernel
theorem dX10_addMedium_1 : decode cX10_addMedium 1 = .ok (.aload_n 0, 1) := by decide +kernel
theorem dX10_addMedium_2 : decode cX10_addMedium 2 = .ok (.getfield 89, 3) := by decide +kernel
theorem dX10_addMedium_5 : decode cX10_addMedium 5 = .ok (.bipush 8, 2) := by decide +kernel
theorem dX10_addMedium_7 : decode cX10_addMedium 7 = .ok (.if_icmp .ne 7, 3) := by decide +kernel
theorem dX10_addMedium_10 : decode cX10_addMedium 10 = .ok (.iconst 1, 1) := by decide +kernel
theorem dX10_addMedium_11 : decode cX10_addMedium 11 = .ok (.goto 4, 3) := by decide +kernel
theorem dX10_addMedium_14 : decode cX10_addMedium 14 = .ok (.iconst 0, 1) := by decide +kernel
theorem dX10_addMedium_15 : decode cX10_addMedium 15 = .ok (.putfield 82, 3) := by decide +kernel
theorem dX10_addMedium_18 : decode cX10_addMedium 18 = .ok (.aload_n 0, 1) := by decide +kernel
theorem dX10_addMedium_19 : decode cX10_addMedium 19 = .ok (.getfield 82, 3) := by decide +kernel
theorem dX10_addMedium_22 : decode cX10_addMedium 22 = .ok (.ifCond .le 5, 3) := by decide +kernel
theorem dX10_addMedium_25 : decode cX10_addMedium 25 = .ok (.iconst 0, 1) := by decide +kernel
theorem dX10_addMedium_26 : decode cX10_addMedium 26 = .ok (.ireturn, 1) := by decide +kernel
theorem dX10_addMedium_27 : decode cX10_addMedium 27 = .ok (.aload_n 0, 1) := by decide +kernel
theorem dX10_addMedium_28 : decode cX10_addMedium 28 = .ok (.getfield 38, 3) := by decide +kernel
theorem dX10_addMedium_31 : decode cX10_addMedium 31 = .ok (.aload_n 0, 1) := by decide +kernel
theorem dX10_addMedium_32 : decode cX10_addMedium 32 = .ok (.getfield 89, 3) := by decide +kernel
theorem dX10_addMedium_35 : decode cX10_addMedium 35 = .ok (.iconst 0, 1) := by decide +kernel
theorem dX10_addMedium_36 : decode cX10_addMedium 36 = .ok (.iastore, 1) := by decide +kernel
theorem dX10_addMedium_37 : decode cX10_addMedium 37 = .ok (.aload_n 0, 1) := by decide +kernel
theorem dX10_addMedium_38 : decode cX10_addMedium 38 = .ok (.getfield 41, 3) := by decide +kernel
theorem dX10_addMedium_41 : decode cX10_addMedium 41 = .ok (.aload_n 0, 1) := by decide +kernel
theorem dX10_addMedium_42 : decode cX10_addMedium 42 = .ok (.getfield 89, 3) := by decide +kernel
theorem dX10_addMedium_45 : decode cX10_addMedium 45 = .ok (.iconst 0, 1) := by decide +kernel
theorem dX10_addMedium_46 : decode cX10_addMedium 46 = .ok (.iastore, 1) := by decide +kernel
theorem dX10_addMedium_47 : decode cX10_addMedium 47 = .ok (.aload_n 0, 1) := by decide +kernel
theorem dX10_addMedium_48 : decode cX10_addMedium 48 = .ok (.dup, 1) := by decide +kernel
theorem dX10_addMedium_49 : decode cX10_addMedium 49 = .ok (.getfield 89, 3) := by decide +kernel
theorem dX10_addMedium_52 : decode cX10_addMedium 52 = .ok (.iconst 1, 1) := by decide +kernel
theorem dX10_addMedium_53 : decode cX10_addMedium 53 = .ok (.iadd, 1) := by decide +kernel
theorem dX10_addMedium_54 : decode cX10_addMedium 54 = .ok (.putfield 89, 3) := by decide +kernel
theorem dX10_addMedium_57 : decode cX10_addMedium 57 = .ok (.aload_n 0, 1) := by decide +kernel
theorem dX10_addMedium_58 : decode cX10_addMedium 58 = .ok (.getfield 89, 3) := by decide +kernel
theorem dX10_addMedium_61 : decode cX10_addMedium 61 = .ok (.iconst 1, 1) := by decide +kernel
theorem dX10_addMedium_62 : decode cX10_addMedium 62 = .ok (.isub, 1) := by decide +kernel
theorem dX10_addMedium_63 : decode cX10_addMedium 63 = .ok (.ireturn, 1) := by decide +kernel
theorem dX10_mediumCount_0 : decode cX10_mediumCount 0 = .ok (.aload_n 0, 1) := by decide +kernel
theorem dX10_mediumCount_1 : decode cX10_mediumCount 1 = .ok (.iconst 0, 1) := by decide +kernel
theorem dX10_mediumCount_2 : decode cX10_mediumCount 2 = .ok (.putfield 82, 3) := by decide +kernel
theorem dX10_mediumCount_5 : decode cX10_mediumCount 5 = .ok (.aload_n 0, 1) := by decide +kernel
theorem dX10_mediumCount_6 : decode cX10_mediumCount 6 = .ok (.getfield 89, 3) := by decide +kernel
theorem dX10_mediumCount_9 : decode cX10_mediumCount 9 = .ok (.ireturn, 1) := by decide +kernel
theorem dX10_isLive_0 : decode cX10_isLive 0 = .ok (.aload_n 0, 1) := by decide +kernel
theorem dX10_isLive_1 : decode cX10_isLive 1 = .ok (.getfield 44, 3) := by decide +kernel
theorem dX10_isLive_4 : decode cX10_isLive 4 = .ok (.iload_n 1, 1) := by decide +kernel
theorem dX10_isLive_5 : decode cX10_isLive 5 = .ok (.iaload, 1) := by decide +kernel
theorem dX10_isLive_6 : decode cX10_isLive 6 = .ok (.iconst 1, 1) := by decide +kernel
theorem dX10_isLive_7 : decode cX10_isLive 7 = .ok (.if_icmp .ne 52, 3) := by decide +kernel
theorem dX10_isLive_10 : decode cX10_isLive 10 = .ok (.aload_n 0, 1) := by decide +kernel
theorem dX10_isLive_11 : decode cX10_isLive 11 = .ok (.getfield 60, 3) := by decide +kernel
theorem dX10_isLive_14 : decode cX10_isLive 14 = .ok (.aload_n 0, 1) := by decide +kernel
theorem dX10_isLive_15 : decode cX10_isLive 15 = .ok (.getfield 47, 3) := by decide +kernel
theorem dX10_isLive_18 : decode cX10_isLive 18 = .ok (.iload_n 1, 1) := by decide +kernel
theorem dX10_isLive_19 : decode cX10_isLive 19 = .ok (.iaload, 1) := by decide +kernel
theorem dX10_isLive_20 : decode cX10_isLive 20 = .ok (.iaload, 1) := by decide +kernel
theorem dX10_isLive_21 : decode cX10_isLive 21 = .ok (.iconst (-1), 1) := by decide +kernel
theorem dX10_isLive_22 : decode cX10_isLive 22 = .ok (.if_icmp .eq 35, 3) := by decide +kernel
theorem dX10_isLive_25 : decode cX10_isLive 25 = .ok (.aload_n 0, 1) := by decide +kernel
theorem dX10_isLive_26 : decode cX10_isLive 26 = .ok (.getfield 7, 3) := by decide +kernel
theorem dX10_isLive_29 : decode cX10_isLive 29 = .ok (.bipush 21, 2) := by decide +kernel
theorem dX10_isLive_31 : decode cX10_isLive 31 = .ok (.aload_n 0, 1) := by decide +kernel
theorem dX10_isLive_32 : decode cX10_isLive 32 = .ok (.getfield 60, 3) := by decide +kernel
theorem dX10_isLive_35 : decode cX10_isLive 35 = .ok (.aload_n 0, 1) := by decide +kernel
theorem dX10_isLive_36 : decode cX10_isLive 36 = .ok (.getfield 47, 3) := by decide +kernel
theorem dX10_isLive_39 : decode cX10_isLive 39 = .ok (.iload_n 1, 1) := by decide +kernel
theorem dX10_isLive_40 : decode cX10_isLive 40 = .ok (.iaload, 1) := by decide +kernel
theorem dX10_isLive_41 : decode cX10_isLive 41 = .ok (.iaload, 1) := by decide +kernel
theorem dX10_isLive_42 : decode cX10_isLive 42 = .ok (.iadd, 1) := by decide +kernel
theorem dX10_isLive_43 : decode cX10_isLive 43 = .ok (.iaload, 1) := by decide +kernel
theorem dX10_isLive_44 : decode cX10_isLive 44 = .ok (.aload_n 0, 1) := by decide +kernel
theorem dX10_isLive_45 : decode cX10_isLive 45 = .ok (.getfield 50, 3) := by decide +kernel
theorem dX10_isLive_48 : decode cX10_isLive 48 = .ok (.iload_n 1, 1) := by decide +kernel
theorem dX10_isLive_49 : decode cX10_isLive 49 = .ok (.iaload, 1) := by decide +kernel
theorem dX10_isLive_50 : decode cX10_isLive 50 = .ok (.if_icmp .ne 7, 3) := by decide +kernel
theorem dX10_isLive_53 : decode cX10_isLive 53 = .ok (.iconst 1, 1) := by decide +kernel
theorem dX10_isLive_54 : decode cX10_isLive 54 = .ok (.goto 4, 3) := by decide +kernel
theorem dX10_isLive_57 : decode cX10_isLive 57 = .ok (.iconst 0, 1) := by decide +kernel
theorem dX10_isLive_58 : decode cX10_isLive 58 = .ok (.ireturn, 1) := by decide +kernel
theorem dX10_isLive_59 : decode cX10_isLive 59 = .ok (.iconst 1, 1) := by decide +kernel
theorem dX10_isLive_60 : decode cX10_isLive 60 = .ok (.istore_n 2, 1) := by decide +kernel
theorem dX10_isLive_61 : decode cX10_isLive 61 = .ok (.iload_n 2, 1) := by decide +kernel
theorem dX10_isLive_62 : decode cX10_isLive 62 = .ok (.bipush 85, 2) := by decide +kernel
theorem dX10_isLive_64 : decode cX10_isLive 64 = .ok (.if_icmp .ge 44, 3) := by decide +kernel
theorem dX10_isLive_67 : decode cX10_isLive 67 = .ok (.aload_n 0, 1) := by decide +kernel
theorem dX10_isLive_68 : decode cX10_isLive 68 = .ok (.getfield 7, 3) := by decide +kernel
theorem dX10_isLive_71 : decode cX10_isLive 71 = .ok (.iload_n 2, 1) := by decide +kernel
theorem dX10_isLive_72 : decode cX10_isLive 72 = .ok (.iaload, 1) := by decide +kernel
theorem dX10_isLive_73 : decode cX10_isLive 73 = .ok (.aload_n 0, 1) := by decide +kernel
theorem dX10_isLive_74 : decode cX10_isLive 74 = .ok (.getfield 47, 3) := by decide +kernel
theorem dX10_isLive_77 : decode cX10_isLive 77 = .ok (.iload_n 1, 1) := by decide +kernel
theorem dX10_isLive_78 : decode cX10_isLive 78 = .ok (.iaload, 1) := by decide +kernel
theorem dX10_isLive_79 : decode cX10_isLive 79 = .ok (.if_icmp .ne 23, 3) := by decide +kernel
theorem dX10_isLive_82 : decode cX10_isLive 82 = .ok (.aload_n 0, 1) := by decide +kernel
theorem dX10_isLive_83 : decode cX10_isLive 83 = .ok (.getfield 7, 3) := by decide +kernel
theorem dX10_isLive_86 : decode cX10_isLive 86 = .ok (.iload_n 2, 1) := by decide +kernel
theorem dX10_isLive_87 : decode cX10_isLive 87 = .ok (.invokestatic 112, 3) := by decide +kernel
theorem dX10_isLive_90 : decode cX10_isLive 90 = .ok (.iaload, 1) := by decide +kernel
theorem dX10_isLive_91 : decode cX10_isLive 91 = .ok (.aload_n 0, 1) := by decide +kernel
theorem dX10_isLive_92 : decode cX10_isLive 92 = .ok (.getfield 50, 3) := by decide +kernel
theorem dX10_isLive_95 : decode cX10_isLive 95 = .ok (.iload_n 1, 1) := by decide +kernel
theorem dX10_isLive_96 : decode cX10_isLive 96 = .ok (.iaload, 1) := by decide +kernel
theorem dX10_isLive_97 : decode cX10_isLive 97 = .ok (.if_icmp .ne 5, 3) := by decide +kernel
theorem dX10_isLive_100 : decode cX10_isLive 100 = .ok (.iconst 1, 1) := by decide +kernel
theorem dX10_isLive_101 : decode cX10_isLive 101 = .ok (.ireturn, 1) := by decide +kernel
theorem dX10_isLive_102 : decode cX10_isLive 102 = .ok (.iinc 2 1, 3) := by decide +kernel
theorem dX10_isLive_105 : decode cX10_isLive 105 = .ok (.goto (-44), 3) := by decide +kernel
theorem dX10_isLive_108 : decode cX10_isLive 108 = .ok (.iconst 0, 1) := by decide +kernel
theorem dX10_isLive_109 : decode cX10_isLive 109 = .ok (.ireturn, 1) := by decide +kernel
theorem dX10_livesOn_0 : decode cX10_livesOn 0 = .ok (.iconst 0, 1) := by decide +kernel
theorem dX10_livesOn_1 : decode cX10_livesOn 1 = .ok (.istore_n 2, 1) := by decide +kernel
theorem dX10_livesOn_2 : decode cX10_livesOn 2 = .ok (.sipush 150, 3) := by decide +kernel
theorem dX10_livesOn_5 : decode cX10_livesOn 5 = .ok (.iload_n 1, 1) := by decide +kernel
theorem dX10_livesOn_6 : decode cX10_livesOn 6 = .ok (.imul, 1) := by decide +kernel
theorem dX10_livesOn_7 : decode cX10_livesOn 7 = .ok (.istore_n 3, 1) := by decide +kernel
theorem dX10_livesOn_8 : decode cX10_livesOn 8 = .ok (.iload_n 3, 1) := by decide +kernel
theorem dX10_livesOn_9 : decode cX10_livesOn 9 = .ok (.sipush 150, 3) := by decide +kernel
theorem dX10_livesOn_12 : decode cX10_livesOn 12 = .ok (.iload_n 1, 1) := by decide +kernel
theorem dX10_livesOn_13 : decode cX10_livesOn 13 = .ok (.imul, 1) := by decide +kernel
theorem dX10_livesOn_14 : decode cX10_livesOn 14 = .ok (.aload_n 0, 1) := by decide +kernel
theorem dX10_livesOn_15 : decode cX10_livesOn 15 = .ok (.getfield 41, 3) := by decide +kernel
theorem dX10_livesOn_18 : decode cX10_livesOn 18 = .ok (.iload_n 1, 1) := by decide +kernel
theorem dX10_livesOn_19 : decode cX10_livesOn 19 = .ok (.iaload, 1) := by decide +kernel
theorem dX10_livesOn_20 : decode cX10_livesOn 20 = .ok (.iadd, 1) := by decide +kernel
theorem dX10_livesOn_21 : decode cX10_livesOn 21 = .ok (.if_icmp .ge 25, 3) := by decide +kernel
theorem dX10_livesOn_24 : decode cX10_livesOn 24 = .ok (.iload_n 2, 1) := by decide +kernel
theorem dX10_livesOn_25 : decode cX10_livesOn 25 = .ok (.aload_n 0, 1) := by decide +kernel
theorem dX10_livesOn_26 : decode cX10_livesOn 26 = .ok (.iload_n 3, 1) := by decide +kernel
theorem dX10_livesOn_27 : decode cX10_livesOn 27 = .ok (.invokevirtual 268, 3) := by decide +kernel
theorem dX10_livesOn_30 : decode cX10_livesOn 30 = .ok (.ifCond .eq 7, 3) := by decide +kernel
theorem dX10_livesOn_33 : decode cX10_livesOn 33 = .ok (.iconst 1, 1) := by decide +kernel
theorem dX10_livesOn_34 : decode cX10_livesOn 34 = .ok (.goto 4, 3) := by decide +kernel
theorem dX10_livesOn_37 : decode cX10_livesOn 37 = .ok (.iconst 0, 1) := by decide +kernel
theorem dX10_livesOn_38 : decode cX10_livesOn 38 = .ok (.iadd, 1) := by decide +kernel
theorem dX10_livesOn_39 : decode cX10_livesOn 39 = .ok (.istore_n 2, 1) := by decide +kernel
theorem dX10_livesOn_40 : decode cX10_livesOn 40 = .ok (.iinc 3 1, 3) := by decide +kernel
theorem dX10_livesOn_43 : decode cX10_livesOn 43 = .ok (.goto (-35), 3) := by decide +kernel
theorem dX10_livesOn_46 : decode cX10_livesOn 46 = .ok (.iload_n 2, 1) := by decide +kernel
theorem dX10_livesOn_47 : decode cX10_livesOn 47 = .ok (.ireturn, 1) := by decide +kernel
theorem dX10_isNeeded_0 : decode cX10_isNeeded 0 = .ok (.aload_n 0, 1) := by decide +kernel
theorem dX10_isNeeded_1 : decode cX10_isNeeded 1 = .ok (.iload_n 2, 1) := by decide +kernel
theorem dX10_isNeeded_2 : decode cX10_isNeeded 2 = .ok (.invokevirtual 268, 3) := by decide +kernel
theorem dX10_isNeeded_5 : decode cX10_isNeeded 5 = .ok (.ifCond .eq 29, 3) := by decide +kernel
theorem dX10_isNeeded_8 : decode cX10_isNeeded 8 = .ok (.aload_n 0, 1) := by decide +kernel
theorem dX10_isNeeded_9 : decode cX10_isNeeded 9 = .ok (.aload_n 0, 1) := by decide +kernel
theorem dX10_isNeeded_10 : decode cX10_isNeeded 10 = .ok (.getfield 44, 3) := by decide +kernel
theorem dX10_isNeeded_13 : decode cX10_isNeeded 13 = .ok (.iload_n 2, 1) := by decide +kernel
theorem dX10_isNeeded_14 : decode cX10_isNeeded 14 = .ok (.iaload, 1) := by decide +kernel
theorem dX10_isNeeded_15 : decode cX10_isNeeded 15 = .ok (.aload_n 0, 1) := by decide +kernel
theorem dX10_isNeeded_16 : decode cX10_isNeeded 16 = .ok (.getfield 47, 3) := by decide +kernel
theorem dX10_isNeeded_19 : decode cX10_isNeeded 19 = .ok (.iload_n 2, 1) := by decide +kernel
theorem dX10_isNeeded_20 : decode cX10_isNeeded 20 = .ok (.iaload, 1) := by decide +kernel
theorem dX10_isNeeded_21 : decode cX10_isNeeded 21 = .ok (.aload_n 0, 1) := by decide +kernel
theorem dX10_isNeeded_22 : decode cX10_isNeeded 22 = .ok (.getfield 50, 3) := by decide +kernel
theorem dX10_isNeeded_25 : decode cX10_isNeeded 25 = .ok (.iload_n 2, 1) := by decide +kernel
theorem dX10_isNeeded_26 : decode cX10_isNeeded 26 = .ok (.iaload, 1) := by decide +kernel
theorem dX10_isNeeded_27 : decode cX10_isNeeded 27 = .ok (.iload_n 1, 1) := by decide +kernel
theorem dX10_isNeeded_28 : decode cX10_isNeeded 28 = .ok (.invokevirtual 139, 3) := by decide +kernel
theorem dX10_isNeeded_31 : decode cX10_isNeeded 31 = .ok (.ifCond .eq 5, 3) := by decide +kernel
theorem dX10_isNeeded_34 : decode cX10_isNeeded 34 = .ok (.iconst 0, 1) := by decide +kernel
theorem dX10_isNeeded_35 : decode cX10_isNeeded 35 = .ok (.ireturn, 1) := by decide +kernel
theorem dX10_isNeeded_36 : decode cX10_isNeeded 36 = .ok (.sipush 150, 3) := by decide +kernel
theorem dX10_isNeeded_39 : decode cX10_isNeeded 39 = .ok (.iload_n 1, 1) := by decide +kernel
theorem dX10_isNeeded_40 : decode cX10_isNeeded 40 = .ok (.imul, 1) := by decide +kernel
theorem dX10_isNeeded_41 : decode cX10_isNeeded 41 = .ok (.istore_n 3, 1) := by decide +kernel
theorem dX10_isNeeded_42 : decode cX10_isNeeded 42 = .ok (.iload_n 3, 1) := by decide +kernel
theorem dX10_isNeeded_43 : decode cX10_isNeeded 43 = .ok (.iload_n 2, 1) := by decide +kernel
theorem dX10_isNeeded_44 : decode cX10_isNeeded 44 = .ok (.if_icmp .ge 56, 3) := by decide +kernel
theorem dX10_isNeeded_47 : decode cX10_isNeeded 47 = .ok (.aload_n 0, 1) := by decide +kernel
theorem dX10_isNeeded_48 : decode cX10_isNeeded 48 = .ok (.getfield 44, 3) := by decide +kernel
theorem dX10_isNeeded_51 : decode cX10_isNeeded 51 = .ok (.iload_n 3, 1) := by decide +kernel
theorem dX10_isNeeded_52 : decode cX10_isNeeded 52 = .ok (.iaload, 1) := by decide +kernel
theorem dX10_isNeeded_53 : decode cX10_isNeeded 53 = .ok (.aload_n 0, 1) := by decide +kernel
theorem dX10_isNeeded_54 : decode cX10_isNeeded 54 = .ok (.getfield 44, 3) := by decide +kernel
theorem dX10_isNeeded_57 : decode cX10_isNeeded 57 = .ok (.iload_n 2, 1) := by decide +kernel
theorem dX10_isNeeded_58 : decode cX10_isNeeded 58 = .ok (.iaload, 1) := by decide +kernel
theorem dX10_isNeeded_59 : decode cX10_isNeeded 59 = .ok (.if_icmp .ne 35, 3) := by decide +kernel
theorem dX10_isNeeded_62 : decode cX10_isNeeded 62 = .ok (.aload_n 0, 1) := by decide +kernel
theorem dX10_isNeeded_63 : decode cX10_isNeeded 63 = .ok (.getfield 47, 3) := by decide +kernel
theorem dX10_isNeeded_66 : decode cX10_isNeeded 66 = .ok (.iload_n 3, 1) := by decide +kernel
theorem dX10_isNeeded_67 : decode cX10_isNeeded 67 = .ok (.iaload, 1) := by decide +kernel
theorem dX10_isNeeded_68 : decode cX10_isNeeded 68 = .ok (.aload_n 0, 1) := by decide +kernel
theorem dX10_isNeeded_69 : decode cX10_isNeeded 69 = .ok (.getfield 47, 3) := by decide +kernel
theorem dX10_isNeeded_72 : decode cX10_isNeeded 72 = .ok (.iload_n 2, 1) := by decide +kernel
theorem dX10_isNeeded_73 : decode cX10_isNeeded 73 = .ok (.iaload, 1) := by decide +kernel
theorem dX10_isNeeded_74 : decode cX10_isNeeded 74 = .ok (.if_icmp .ne 20, 3) := by decide +kernel
theorem dX10_isNeeded_77 : decode cX10_isNeeded 77 = .ok (.aload_n 0, 1) := by decide +kernel
theorem dX10_isNeeded_78 : decode cX10_isNeeded 78 = .ok (.getfield 50, 3) := by decide +kernel
theorem dX10_isNeeded_81 : decode cX10_isNeeded 81 = .ok (.iload_n 3, 1) := by decide +kernel
theorem dX10_isNeeded_82 : decode cX10_isNeeded 82 = .ok (.iaload, 1) := by decide +kernel
theorem dX10_isNeeded_83 : decode cX10_isNeeded 83 = .ok (.aload_n 0, 1) := by decide +kernel
theorem dX10_isNeeded_84 : decode cX10_isNeeded 84 = .ok (.getfield 50, 3) := by decide +kernel
theorem dX10_isNeeded_87 : decode cX10_isNeeded 87 = .ok (.iload_n 2, 1) := by decide +kernel
theorem dX10_isNeeded_88 : decode cX10_isNeeded 88 = .ok (.iaload, 1) := by decide +kernel
theorem dX10_isNeeded_89 : decode cX10_isNeeded 89 = .ok (.if_icmp .ne 5, 3) := by decide +kernel
theorem dX10_isNeeded_92 : decode cX10_isNeeded 92 = .ok (.iconst 0, 1) := by decide +kernel
theorem dX10_isNeeded_93 : decode cX10_isNeeded 93 = .ok (.ireturn, 1) := by decide +kernel
theorem dX10_isNeeded_94 : decode cX10_isNeeded 94 = .ok (.iinc 3 1, 3) := by decide +kernel
theorem dX10_isNeeded_97 : decode cX10_isNeeded 97 = .ok (.goto (-55), 3) := by decide +kernel
theorem dX10_isNeeded_100 : decode cX10_isNeeded 100 = .ok (.iconst 1, 1) := by decide +kernel
theorem dX10_isNeeded_101 : decode cX10_isNeeded 101 = .ok (.ireturn, 1) := by decide +kernel
theorem dX10_neededFrom_0 : decode cX10_neededFrom 0 = .ok (.iconst 0, 1) := by decide +kernel
theorem dX10_neededFrom_1 : decode cX10_neededFrom 1 = .ok (.istore_n 2, 1) := by decide +kernel
theorem dX10_neededFrom_2 : decode cX10_neededFrom 2 = .ok (.sipush 150, 3) := by decide +kernel
theorem dX10_neededFrom_5 : decode cX10_neededFrom 5 = .ok (.iload_n 1, 1) := by decide +kernel
theorem dX10_neededFrom_6 : decode cX10_neededFrom 6 = .ok (.imul, 1) := by decide +kernel
theorem dX10_neededFrom_7 : decode cX10_neededFrom 7 = .ok (.istore_n 3, 1) := by decide +kernel
theorem dX10_neededFrom_8 : decode cX10_neededFrom 8 = .ok (.iload_n 3, 1) := by decide +kernel
theorem dX10_neededFrom_9 : decode cX10_neededFrom 9 = .ok (.sipush 150, 3) := by decide +kernel
theorem dX10_neededFrom_12 : decode cX10_neededFrom 12 = .ok (.iload_n 1, 1) := by decide +kernel
theorem dX10_neededFrom_13 : decode cX10_neededFrom 13 = .ok (.imul, 1) := by decide +kernel
theorem dX10_neededFrom_14 : decode cX10_neededFrom 14 = .ok (.aload_n 0, 1) := by decide +kernel
theorem dX10_neededFrom_15 : decode cX10_neededFrom 15 = .ok (.getfield 41, 3) := by decide +kernel
theorem dX10_neededFrom_18 : decode cX10_neededFrom 18 = .ok (.iload_n 1, 1) := by decide +kernel
theorem dX10_neededFrom_19 : decode cX10_neededFrom 19 = .ok (.iaload, 1) := by decide +kernel
theorem dX10_neededFrom_20 : decode cX10_neededFrom 20 = .ok (.iadd, 1) := by decide +kernel
theorem dX10_neededFrom_21 : decode cX10_neededFrom 21 = .ok (.if_icmp .ge 26, 3) := by decide +kernel
theorem dX10_neededFrom_24 : decode cX10_neededFrom 24 = .ok (.iload_n 2, 1) := by decide +kernel
theorem dX10_neededFrom_25 : decode cX10_neededFrom 25 = .ok (.aload_n 0, 1) := by decide +kernel
theorem dX10_neededFrom_26 : decode cX10_neededFrom 26 = .ok (.iload_n 1, 1) := by decide +kernel
theorem dX10_neededFrom_27 : decode cX10_neededFrom 27 = .ok (.iload_n 3, 1) := by decide +kernel
theorem dX10_neededFrom_28 : decode cX10_neededFrom 28 = .ok (.invokevirtual 271, 3) := by decide +kernel
theorem dX10_neededFrom_31 : decode cX10_neededFrom 31 = .ok (.ifCond .eq 7, 3) := by decide +kernel
theorem dX10_neededFrom_34 : decode cX10_neededFrom 34 = .ok (.iconst 1, 1) := by decide +kernel
theorem dX10_neededFrom_35 : decode cX10_neededFrom 35 = .ok (.goto 4, 3) := by decide +kernel
theorem dX10_neededFrom_38 : decode cX10_neededFrom 38 = .ok (.iconst 0, 1) := by decide +kernel
theorem dX10_neededFrom_39 : decode cX10_neededFrom 39 = .ok (.iadd, 1) := by decide +kernel
theorem dX10_neededFrom_40 : decode cX10_neededFrom 40 = .ok (.istore_n 2, 1) := by decide +kernel
theorem dX10_neededFrom_41 : decode cX10_neededFrom 41 = .ok (.iinc 3 1, 3) := by decide +kernel
theorem dX10_neededFrom_44 : decode cX10_neededFrom 44 = .ok (.goto (-36), 3) := by decide +kernel
theorem dX10_neededFrom_47 : decode cX10_neededFrom 47 = .ok (.iload_n 2, 1) := by decide +kernel
theorem dX10_neededFrom_48 : decode cX10_neededFrom 48 = .ok (.ireturn, 1) := by decide +kernel
theorem dX10_medium_0 : decode cX10_medium 0 = .ok (.aload_n 0, 1) := by decide +kernel
theorem dX10_medium_1 : decode cX10_medium 1 = .ok (.aload_n 0, 1) := by decide +kernel
theorem dX10_medium_2 : decode cX10_medium 2 = .ok (.iload_n 1, 1) := by decide +kernel
theorem dX10_medium_3 : decode cX10_medium 3 = .ok (.invokevirtual 205, 3) := by decide +kernel
theorem dX10_medium_6 : decode cX10_medium 6 = .ok (.ifCond .ne 7, 3) := by decide +kernel
theorem dX10_medium_9 : decode cX10_medium 9 = .ok (.iconst 1, 1) := by decide +kernel
theorem dX10_medium_10 : decode cX10_medium 10 = .ok (.goto 20, 3) := by decide +kernel
theorem dX10_medium_13 : decode cX10_medium 13 = .ok (.iload_n 2, 1) := by decide +kernel
theorem dX10_medium_14 : decode cX10_medium 14 = .ok (.i2l, 1) := by decide +kernel
theorem dX10_medium_15 : decode cX10_medium 15 = .ok (.lconst 0, 1) := by decide +kernel
theorem dX10_medium_16 : decode cX10_medium 16 = .ok (.ldc2_w 191, 3) := by decide +kernel
theorem dX10_medium_19 : decode cX10_medium 19 = .ok (.invokestatic 117, 3) := by decide +kernel
theorem dX10_medium_22 : decode cX10_medium 22 = .ok (.ifCond .ne 7, 3) := by decide +kernel
theorem dX10_medium_25 : decode cX10_medium 25 = .ok (.iconst 2, 1) := by decide +kernel
theorem dX10_medium_26 : decode cX10_medium 26 = .ok (.goto 4, 3) := by decide +kernel
theorem dX10_medium_29 : decode cX10_medium 29 = .ok (.iconst 0, 1) := by decide +kernel
theorem dX10_medium_30 : decode cX10_medium 30 = .ok (.putfield 82, 3) := by decide +kernel
theorem dX10_medium_33 : decode cX10_medium 33 = .ok (.aload_n 0, 1) := by decide +kernel
theorem dX10_medium_34 : decode cX10_medium 34 = .ok (.getfield 82, 3) := by decide +kernel
theorem dX10_medium_37 : decode cX10_medium 37 = .ok (.ifCond .le 5, 3) := by decide +kernel
theorem dX10_medium_40 : decode cX10_medium 40 = .ok (.iconst 0, 1) := by decide +kernel
theorem dX10_medium_41 : decode cX10_medium 41 = .ok (.ireturn, 1) := by decide +kernel
theorem dX10_medium_42 : decode cX10_medium 42 = .ok (.iload_n 2, 1) := by decide +kernel
theorem dX10_medium_43 : decode cX10_medium 43 = .ok (.ifCond .ne 12, 3) := by decide +kernel
theorem dX10_medium_46 : decode cX10_medium 46 = .ok (.aload_n 0, 1) := by decide +kernel
theorem dX10_medium_47 : decode cX10_medium 47 = .ok (.getfield 38, 3) := by decide +kernel
theorem dX10_medium_50 : decode cX10_medium 50 = .ok (.iload_n 1, 1) := by decide +kernel
theorem dX10_medium_51 : decode cX10_medium 51 = .ok (.iaload, 1) := by decide +kernel
theorem dX10_medium_52 : decode cX10_medium 52 = .ok (.goto 35, 3) := by decide +kernel
theorem dX10_medium_55 : decode cX10_medium 55 = .ok (.iload_n 2, 1) := by decide +kernel
theorem dX10_medium_56 : decode cX10_medium 56 = .ok (.iconst 1, 1) := by decide +kernel
theorem dX10_medium_57 : decode cX10_medium 57 = .ok (.if_icmp .ne 12, 3) := by decide +kernel
theorem dX10_medium_60 : decode cX10_medium 60 = .ok (.aload_n 0, 1) := by decide +kernel
theorem dX10_medium_61 : decode cX10_medium 61 = .ok (.getfield 41, 3) := by decide +kernel
theorem dX10_medium_64 : decode cX10_medium 64 = .ok (.iload_n 1, 1) := by decide +kernel
theorem dX10_medium_65 : decode cX10_medium 65 = .ok (.iaload, 1) := by decide +kernel
theorem dX10_medium_66 : decode cX10_medium 66 = .ok (.goto 21, 3) := by decide +kernel
theorem dX10_medium_69 : decode cX10_medium 69 = .ok (.iload_n 2, 1) := by decide +kernel
theorem dX10_medium_70 : decode cX10_medium 70 = .ok (.iconst 2, 1) := by decide +kernel
theorem dX10_medium_71 : decode cX10_medium 71 = .ok (.if_icmp .ne 11, 3) := by decide +kernel
theorem dX10_medium_74 : decode cX10_medium 74 = .ok (.aload_n 0, 1) := by decide +kernel
theorem dX10_medium_75 : decode cX10_medium 75 = .ok (.iload_n 1, 1) := by decide +kernel
theorem dX10_medium_76 : decode cX10_medium 76 = .ok (.invokevirtual 274, 3) := by decide +kernel
theorem dX10_medium_79 : decode cX10_medium 79 = .ok (.goto 8, 3) := by decide +kernel
theorem dX10_medium_82 : decode cX10_medium 82 = .ok (.aload_n 0, 1) := by decide +kernel
theorem dX10_medium_83 : decode cX10_medium 83 = .ok (.iload_n 1, 1) := by decide +kernel
theorem dX10_medium_84 : decode cX10_medium 84 = .ok (.invokevirtual 277, 3) := by decide +kernel
theorem dX10_medium_87 : decode cX10_medium 87 = .ok (.ireturn, 1) := by decide +kernel
theorem dX10_entry_0 : decode cX10_entry 0 = .ok (.aload_n 0, 1) := by decide +kernel
theorem dX10_entry_1 : decode cX10_entry 1 = .ok (.aload_n 0, 1) := by decide +kernel
theorem dX10_entry_2 : decode cX10_entry 2 = .ok (.iload_n 1, 1) := by decide +kernel
theorem dX10_entry_3 : decode cX10_entry 3 = .ok (.invokevirtual 205, 3) := by decide +kernel
theorem dX10_entry_6 : decode cX10_entry 6 = .ok (.ifCond .eq 21, 3) := by decide +kernel
theorem dX10_entry_9 : decode cX10_entry 9 = .ok (.iload_n 2, 1) := by decide +kernel
theorem dX10_entry_10 : decode cX10_entry 10 = .ok (.i2l, 1) := by decide +kernel
theorem dX10_entry_11 : decode cX10_entry 11 = .ok (.lconst 0, 1) := by decide +kernel
theorem dX10_entry_12 : decode cX10_entry 12 = .ok (.aload_n 0, 1) := by decide +kernel
theorem dX10_entry_13 : decode cX10_entry 13 = .ok (.getfield 41, 3) := by decide +kernel
theorem dX10_entry_16 : decode cX10_entry 16 = .ok (.iload_n 1, 1) := by decide +kernel
theorem dX10_entry_17 : decode cX10_entry 17 = .ok (.iaload, 1) := by decide +kernel
theorem dX10_entry_18 : decode cX10_entry 18 = .ok (.iconst 1, 1) := by decide +kernel
theorem dX10_entry_19 : decode cX10_entry 19 = .ok (.isub, 1) := by decide +kernel
theorem dX10_entry_20 : decode cX10_entry 20 = .ok (.i2l, 1) := by decide +kernel
theorem dX10_entry_21 : decode cX10_entry 21 = .ok (.invokestatic 117, 3) := by decide +kernel
theorem dX10_entry_24 : decode cX10_entry 24 = .ok (.ifCond .ne 7, 3) := by decide +kernel
theorem dX10_entry_27 : decode cX10_entry 27 = .ok (.iconst 1, 1) := by decide +kernel
theorem dX10_entry_28 : decode cX10_entry 28 = .ok (.goto 20, 3) := by decide +kernel
theorem dX10_entry_31 : decode cX10_entry 31 = .ok (.iload_n 3, 1) := by decide +kernel
theorem dX10_entry_32 : decode cX10_entry 32 = .ok (.i2l, 1) := by decide +kernel
theorem dX10_entry_33 : decode cX10_entry 33 = .ok (.lconst 0, 1) := by decide +kernel
theorem dX10_entry_34 : decode cX10_entry 34 = .ok (.ldc2_w 191, 3) := by decide +kernel
theorem dX10_entry_37 : decode cX10_entry 37 = .ok (.invokestatic 117, 3) := by decide +kernel
theorem dX10_entry_40 : decode cX10_entry 40 = .ok (.ifCond .ne 7, 3) := by decide +kernel
theorem dX10_entry_43 : decode cX10_entry 43 = .ok (.iconst 2, 1) := by decide +kernel
theorem dX10_entry_44 : decode cX10_entry 44 = .ok (.goto 4, 3) := by decide +kernel
theorem dX10_entry_47 : decode cX10_entry 47 = .ok (.iconst 0, 1) := by decide +kernel
theorem dX10_entry_48 : decode cX10_entry 48 = .ok (.putfield 82, 3) := by decide +kernel
theorem dX10_entry_51 : decode cX10_entry 51 = .ok (.aload_n 0, 1) := by decide +kernel
theorem dX10_entry_52 : decode cX10_entry 52 = .ok (.getfield 82, 3) := by decide +kernel
theorem dX10_entry_55 : decode cX10_entry 55 = .ok (.ifCond .le 5, 3) := by decide +kernel
theorem dX10_entry_58 : decode cX10_entry 58 = .ok (.lconst 0, 1) := by decide +kernel
theorem dX10_entry_59 : decode cX10_entry 59 = .ok (.lreturn, 1) := by decide +kernel
theorem dX10_entry_60 : decode cX10_entry 60 = .ok (.sipush 150, 3) := by decide +kernel
theorem dX10_entry_63 : decode cX10_entry 63 = .ok (.iload_n 1, 1) := by decide +kernel
theorem dX10_entry_64 : decode cX10_entry 64 = .ok (.imul, 1) := by decide +kernel
theorem dX10_entry_65 : decode cX10_entry 65 = .ok (.iload_n 2, 1) := by decide +kernel
theorem dX10_entry_66 : decode cX10_entry 66 = .ok (.iadd, 1) := by decide +kernel
theorem dX10_entry_67 : decode cX10_entry 67 = .ok (.istore 4, 2) := by decide +kernel
theorem dX10_entry_69 : decode cX10_entry 69 = .ok (.iload_n 3, 1) := by decide +kernel
theorem dX10_entry_70 : decode cX10_entry 70 = .ok (.ifCond .ne 14, 3) := by decide +kernel
theorem dX10_entry_73 : decode cX10_entry 73 = .ok (.aload_n 0, 1) := by decide +kernel
theorem dX10_entry_74 : decode cX10_entry 74 = .ok (.getfield 44, 3) := by decide +kernel
theorem dX10_entry_77 : decode cX10_entry 77 = .ok (.iload 4, 2) := by decide +kernel
theorem dX10_entry_79 : decode cX10_entry 79 = .ok (.iaload, 1) := by decide +kernel
theorem dX10_entry_80 : decode cX10_entry 80 = .ok (.i2l, 1) := by decide +kernel
theorem dX10_entry_81 : decode cX10_entry 81 = .ok (.goto 42, 3) := by decide +kernel
theorem dX10_entry_84 : decode cX10_entry 84 = .ok (.iload_n 3, 1) := by decide +kernel
theorem dX10_entry_85 : decode cX10_entry 85 = .ok (.iconst 1, 1) := by decide +kernel
theorem dX10_entry_86 : decode cX10_entry 86 = .ok (.if_icmp .ne 14, 3) := by decide +kernel
theorem dX10_entry_89 : decode cX10_entry 89 = .ok (.aload_n 0, 1) := by decide +kernel
theorem dX10_entry_90 : decode cX10_entry 90 = .ok (.getfield 47, 3) := by decide +kernel
theorem dX10_entry_93 : decode cX10_entry 93 = .ok (.iload 4, 2) := by decide +kernel
theorem dX10_entry_95 : decode cX10_entry 95 = .ok (.iaload, 1) := by decide +kernel
theorem dX10_entry_96 : decode cX10_entry 96 = .ok (.i2l, 1) := by decide +kernel
theorem dX10_entry_97 : decode cX10_entry 97 = .ok (.goto 26, 3) := by decide +kernel
theorem dX10_entry_100 : decode cX10_entry 100 = .ok (.iload_n 3, 1) := by decide +kernel
theorem dX10_entry_101 : decode cX10_entry 101 = .ok (.iconst 2, 1) := by decide +kernel
theorem dX10_entry_102 : decode cX10_entry 102 = .ok (.if_icmp .ne 14, 3) := by decide +kernel
theorem dX10_entry_105 : decode cX10_entry 105 = .ok (.aload_n 0, 1) := by decide +kernel
theorem dX10_entry_106 : decode cX10_entry 106 = .ok (.getfield 50, 3) := by decide +kernel
theorem dX10_entry_109 : decode cX10_entry 109 = .ok (.iload 4, 2) := by decide +kernel
theorem dX10_entry_111 : decode cX10_entry 111 = .ok (.iaload, 1) := by decide +kernel
theorem dX10_entry_112 : decode cX10_entry 112 = .ok (.i2l, 1) := by decide +kernel
theorem dX10_entry_113 : decode cX10_entry 113 = .ok (.goto 10, 3) := by decide +kernel
theorem dX10_entry_116 : decode cX10_entry 116 = .ok (.aload_n 0, 1) := by decide +kernel
theorem dX10_entry_117 : decode cX10_entry 117 = .ok (.getfield 53, 3) := by decide +kernel
theorem dX10_entry_120 : decode cX10_entry 120 = .ok (.iload 4, 2) := by decide +kernel
theorem dX10_entry_122 : decode cX10_entry 122 = .ok (.laload, 1) := by decide +kernel
theorem dX10_entry_123 : decode cX10_entry 123 = .ok (.lreturn, 1) := by decide +kernel
theorem dX10_becomes_0 : decode cX10_becomes 0 = .ok (.aload_n 0, 1) := by decide +kernel
theorem dX10_becomes_1 : decode cX10_becomes 1 = .ok (.aload_n 0, 1) := by decide +kernel
theorem dX10_becomes_2 : decode cX10_becomes 2 = .ok (.iload_n 1, 1) := by decide +kernel
theorem dX10_becomes_3 : decode cX10_becomes 3 = .ok (.invokevirtual 205, 3) := by decide +kernel
theorem dX10_becomes_6 : decode cX10_becomes 6 = .ok (.ifCond .ne 7, 3) := by decide +kernel
theorem dX10_becomes_9 : decode cX10_becomes 9 = .ok (.iconst 1, 1) := by decide +kernel
theorem dX10_becomes_10 : decode cX10_becomes 10 = .ok (.goto 17, 3) := by decide +kernel
theorem dX10_becomes_13 : decode cX10_becomes 13 = .ok (.aload_n 0, 1) := by decide +kernel
theorem dX10_becomes_14 : decode cX10_becomes 14 = .ok (.getfield 38, 3) := by decide +kernel
theorem dX10_becomes_17 : decode cX10_becomes 17 = .ok (.iload_n 1, 1) := by decide +kernel
theorem dX10_becomes_18 : decode cX10_becomes 18 = .ok (.iaload, 1) := by decide +kernel
theorem dX10_becomes_19 : decode cX10_becomes 19 = .ok (.ifCond .eq 7, 3) := by decide +kernel
theorem dX10_becomes_22 : decode cX10_becomes 22 = .ok (.iconst 2, 1) := by decide +kernel
theorem dX10_becomes_23 : decode cX10_becomes 23 = .ok (.goto 4, 3) := by decide +kernel
theorem dX10_becomes_26 : decode cX10_becomes 26 = .ok (.iconst 0, 1) := by decide +kernel
theorem dX10_becomes_27 : decode cX10_becomes 27 = .ok (.putfield 82, 3) := by decide +kernel
theorem dX10_becomes_30 : decode cX10_becomes 30 = .ok (.aload_n 0, 1) := by decide +kernel
theorem dX10_becomes_31 : decode cX10_becomes 31 = .ok (.getfield 82, 3) := by decide +kernel
theorem dX10_becomes_34 : decode cX10_becomes 34 = .ok (.ifCond .le 5, 3) := by decide +kernel
theorem dX10_becomes_37 : decode cX10_becomes 37 = .ok (.iconst 0, 1) := by decide +kernel
theorem dX10_becomes_38 : decode cX10_becomes 38 = .ok (.ireturn, 1) := by decide +kernel
theorem dX10_becomes_39 : decode cX10_becomes 39 = .ok (.aload_n 0, 1) := by decide +kernel
theorem dX10_becomes_40 : decode cX10_becomes 40 = .ok (.iload_n 1, 1) := by decide +kernel
theorem dX10_becomes_41 : decode cX10_becomes 41 = .ok (.invokevirtual 280, 3) := by decide +kernel
theorem dX10_becomes_44 : decode cX10_becomes 44 = .ok (.istore_n 3, 1) := by decide +kernel
theorem dX10_becomes_45 : decode cX10_becomes 45 = .ok (.aload_n 0, 1) := by decide +kernel
theorem dX10_becomes_46 : decode cX10_becomes 46 = .ok (.getfield 38, 3) := by decide +kernel
theorem dX10_becomes_49 : decode cX10_becomes 49 = .ok (.iload_n 1, 1) := by decide +kernel
theorem dX10_becomes_50 : decode cX10_becomes 50 = .ok (.iload_n 2, 1) := by decide +kernel
theorem dX10_becomes_51 : decode cX10_becomes 51 = .ok (.iastore, 1) := by decide +kernel
theorem dX10_becomes_52 : decode cX10_becomes 52 = .ok (.iload_n 2, 1) := by decide +kernel
theorem dX10_becomes_53 : decode cX10_becomes 53 = .ok (.iconst 2, 1) := by decide +kernel
theorem dX10_becomes_54 : decode cX10_becomes 54 = .ok (.if_icmp .ne 10, 3) := by decide +kernel
theorem dX10_becomes_57 : decode cX10_becomes 57 = .ok (.aload_n 0, 1) := by decide +kernel
theorem dX10_becomes_58 : decode cX10_becomes 58 = .ok (.getfield 41, 3) := by decide +kernel
theorem dX10_becomes_61 : decode cX10_becomes 61 = .ok (.iload_n 1, 1) := by decide +kernel
theorem dX10_becomes_62 : decode cX10_becomes 62 = .ok (.iconst 0, 1) := by decide +kernel
theorem dX10_becomes_63 : decode cX10_becomes 63 = .ok (.iastore, 1) := by decide +kernel
theorem dX10_becomes_64 : decode cX10_becomes 64 = .ok (.iload_n 3, 1) := by decide +kernel
theorem dX10_becomes_65 : decode cX10_becomes 65 = .ok (.ireturn, 1) := by decide +kernel
theorem dX10_lose_0 : decode cX10_lose 0 = .ok (.aload_n 0, 1) := by decide +kernel
theorem dX10_lose_1 : decode cX10_lose 1 = .ok (.iload_n 1, 1) := by decide +kernel
theorem dX10_lose_2 : decode cX10_lose 2 = .ok (.iconst 1, 1) := by decide +kernel
theorem dX10_lose_3 : decode cX10_lose 3 = .ok (.invokevirtual 283, 3) := by decide +kernel
theorem dX10_lose_6 : decode cX10_lose 6 = .ok (.ireturn, 1) := by decide +kernel
theorem dX10_destroy_0 : decode cX10_destroy 0 = .ok (.aload_n 0, 1) := by decide +kernel
theorem dX10_destroy_1 : decode cX10_destroy 1 = .ok (.iload_n 1, 1) := by decide +kernel
theorem dX10_destroy_2 : decode cX10_destroy 2 = .ok (.iconst 2, 1) := by decide +kernel
theorem dX10_destroy_3 : decode cX10_destroy 3 = .ok (.invokevirtual 283, 3) := by decide +kernel
theorem dX10_destroy_6 : decode cX10_destroy 6 = .ok (.ireturn, 1) := by decide +kernel
theorem dX10_migrate_0 : decode cX10_migrate 0 = .ok (.aload_n 0, 1) := by decide +kernel
theorem dX10_migrate_1 : decode cX10_migrate 1 = .ok (.aload_n 0, 1) := by decide +kernel
theorem dX10_migrate_2 : decode cX10_migrate 2 = .ok (.iload_n 1, 1) := by decide +kernel
theorem dX10_migrate_3 : decode cX10_migrate 3 = .ok (.invokevirtual 205, 3) := by decide +kernel
theorem dX10_migrate_6 : decode cX10_migrate 6 = .ok (.ifCond .eq 7, 3) := by decide +kernel
theorem dX10_migrate_9 : decode cX10_migrate 9 = .ok (.iconst 0, 1) := by decide +kernel
theorem dX10_migrate_10 : decode cX10_migrate 10 = .ok (.goto 4, 3) := by decide +kernel
theorem dX10_migrate_13 : decode cX10_migrate 13 = .ok (.iconst 1, 1) := by decide +kernel
theorem dX10_migrate_14 : decode cX10_migrate 14 = .ok (.putfield 82, 3) := by decide +kernel
theorem dX10_migrate_17 : decode cX10_migrate 17 = .ok (.aload_n 0, 1) := by decide +kernel
theorem dX10_migrate_18 : decode cX10_migrate 18 = .ok (.getfield 82, 3) := by decide +kernel
theorem dX10_migrate_21 : decode cX10_migrate 21 = .ok (.ifCond .le 5, 3) := by decide +kernel
theorem dX10_migrate_24 : decode cX10_migrate 24 = .ok (.iconst 0, 1) := by decide +kernel
theorem dX10_migrate_25 : decode cX10_migrate 25 = .ok (.ireturn, 1) := by decide +kernel
theorem dX10_migrate_26 : decode cX10_migrate 26 = .ok (.aload_n 0, 1) := by decide +kernel
theorem dX10_migrate_27 : decode cX10_migrate 27 = .ok (.iload_n 1, 1) := by decide +kernel
theorem dX10_migrate_28 : decode cX10_migrate 28 = .ok (.invokevirtual 123, 3) := by decide +kernel
theorem dX10_migrate_31 : decode cX10_migrate 31 = .ok (.istore_n 2, 1) := by decide +kernel
theorem dX10_migrate_32 : decode cX10_migrate 32 = .ok (.aload_n 0, 1) := by decide +kernel
theorem dX10_migrate_33 : decode cX10_migrate 33 = .ok (.iload_n 1, 1) := by decide +kernel
theorem dX10_migrate_34 : decode cX10_migrate 34 = .ok (.invokevirtual 277, 3) := by decide +kernel
theorem dX10_migrate_37 : decode cX10_migrate 37 = .ok (.istore_n 3, 1) := by decide +kernel
theorem dX10_migrate_38 : decode cX10_migrate 38 = .ok (.aload_n 0, 1) := by decide +kernel
theorem dX10_migrate_39 : decode cX10_migrate 39 = .ok (.aload_n 0, 1) := by decide +kernel
theorem dX10_migrate_40 : decode cX10_migrate 40 = .ok (.getfield 38, 3) := by decide +kernel
theorem dX10_migrate_43 : decode cX10_migrate 43 = .ok (.iload_n 1, 1) := by decide +kernel
theorem dX10_migrate_44 : decode cX10_migrate 44 = .ok (.iaload, 1) := by decide +kernel
theorem dX10_migrate_45 : decode cX10_migrate 45 = .ok (.iconst 2, 1) := by decide +kernel
theorem dX10_migrate_46 : decode cX10_migrate 46 = .ok (.if_icmp .eq 12, 3) := by decide +kernel
theorem dX10_migrate_49 : decode cX10_migrate 49 = .ok (.aload_n 0, 1) := by decide +kernel
theorem dX10_migrate_50 : decode cX10_migrate 50 = .ok (.iload_n 2, 1) := by decide +kernel
theorem dX10_migrate_51 : decode cX10_migrate 51 = .ok (.iload_n 3, 1) := by decide +kernel
theorem dX10_migrate_52 : decode cX10_migrate 52 = .ok (.invokevirtual 176, 3) := by decide +kernel
theorem dX10_migrate_55 : decode cX10_migrate 55 = .ok (.ifCond .ne 7, 3) := by decide +kernel
theorem dX10_migrate_58 : decode cX10_migrate 58 = .ok (.iconst 2, 1) := by decide +kernel
theorem dX10_migrate_59 : decode cX10_migrate 59 = .ok (.goto 4, 3) := by decide +kernel
theorem dX10_migrate_62 : decode cX10_migrate 62 = .ok (.iconst 0, 1) := by decide +kernel
theorem dX10_migrate_63 : decode cX10_migrate 63 = .ok (.putfield 82, 3) := by decide +kernel
theorem dX10_migrate_66 : decode cX10_migrate 66 = .ok (.aload_n 0, 1) := by decide +kernel
theorem dX10_migrate_67 : decode cX10_migrate 67 = .ok (.getfield 82, 3) := by decide +kernel
theorem dX10_migrate_70 : decode cX10_migrate 70 = .ok (.ifCond .le 5, 3) := by decide +kernel
theorem dX10_migrate_73 : decode cX10_migrate 73 = .ok (.iconst 0, 1) := by decide +kernel
theorem dX10_migrate_74 : decode cX10_migrate 74 = .ok (.ireturn, 1) := by decide +kernel
theorem dX10_migrate_75 : decode cX10_migrate 75 = .ok (.sipush 150, 3) := by decide +kernel
theorem dX10_migrate_78 : decode cX10_migrate 78 = .ok (.iload_n 1, 1) := by decide +kernel
theorem dX10_migrate_79 : decode cX10_migrate 79 = .ok (.imul, 1) := by decide +kernel
theorem dX10_migrate_80 : decode cX10_migrate 80 = .ok (.istore 4, 2) := by decide +kernel
theorem dX10_migrate_82 : decode cX10_migrate 82 = .ok (.iload 4, 2) := by decide +kernel
theorem dX10_migrate_84 : decode cX10_migrate 84 = .ok (.sipush 150, 3) := by decide +kernel
theorem dX10_migrate_87 : decode cX10_migrate 87 = .ok (.iload_n 1, 1) := by decide +kernel
theorem dX10_migrate_88 : decode cX10_migrate 88 = .ok (.imul, 1) := by decide +kernel
theorem dX10_migrate_89 : decode cX10_migrate 89 = .ok (.aload_n 0, 1) := by decide +kernel
theorem dX10_migrate_90 : decode cX10_migrate 90 = .ok (.getfield 41, 3) := by decide +kernel
theorem dX10_migrate_93 : decode cX10_migrate 93 = .ok (.iload_n 1, 1) := by decide +kernel
theorem dX10_migrate_94 : decode cX10_migrate 94 = .ok (.iaload, 1) := by decide +kernel
theorem dX10_migrate_95 : decode cX10_migrate 95 = .ok (.iadd, 1) := by decide +kernel
theorem dX10_migrate_96 : decode cX10_migrate 96 = .ok (.if_icmp .ge 52, 3) := by decide +kernel
theorem dX10_migrate_99 : decode cX10_migrate 99 = .ok (.aload_n 0, 1) := by decide +kernel
theorem dX10_migrate_100 : decode cX10_migrate 100 = .ok (.iload_n 1, 1) := by decide +kernel
theorem dX10_migrate_101 : decode cX10_migrate 101 = .ok (.iload 4, 2) := by decide +kernel
theorem dX10_migrate_103 : decode cX10_migrate 103 = .ok (.invokevirtual 271, 3) := by decide +kernel
theorem dX10_migrate_106 : decode cX10_migrate 106 = .ok (.ifCond .eq 36, 3) := by decide +kernel
theorem dX10_migrate_109 : decode cX10_migrate 109 = .ok (.aload_n 0, 1) := by decide +kernel
theorem dX10_migrate_110 : decode cX10_migrate 110 = .ok (.iload_n 2, 1) := by decide +kernel
theorem dX10_migrate_111 : decode cX10_migrate 111 = .ok (.aload_n 0, 1) := by decide +kernel
theorem dX10_migrate_112 : decode cX10_migrate 112 = .ok (.getfield 44, 3) := by decide +kernel
theorem dX10_migrate_115 : decode cX10_migrate 115 = .ok (.iload 4, 2) := by decide +kernel
theorem dX10_migrate_117 : decode cX10_migrate 117 = .ok (.iaload, 1) := by decide +kernel
theorem dX10_migrate_118 : decode cX10_migrate 118 = .ok (.aload_n 0, 1) := by decide +kernel
theorem dX10_migrate_119 : decode cX10_migrate 119 = .ok (.getfield 47, 3) := by decide +kernel
theorem dX10_migrate_122 : decode cX10_migrate 122 = .ok (.iload 4, 2) := by decide +kernel
theorem dX10_migrate_124 : decode cX10_migrate 124 = .ok (.iaload, 1) := by decide +kernel
theorem dX10_migrate_125 : decode cX10_migrate 125 = .ok (.aload_n 0, 1) := by decide +kernel
theorem dX10_migrate_126 : decode cX10_migrate 126 = .ok (.getfield 50, 3) := by decide +kernel
theorem dX10_migrate_129 : decode cX10_migrate 129 = .ok (.iload 4, 2) := by decide +kernel
theorem dX10_migrate_131 : decode cX10_migrate 131 = .ok (.iaload, 1) := by decide +kernel
theorem dX10_migrate_132 : decode cX10_migrate 132 = .ok (.aload_n 0, 1) := by decide +kernel
theorem dX10_migrate_133 : decode cX10_migrate 133 = .ok (.getfield 53, 3) := by decide +kernel
theorem dX10_migrate_136 : decode cX10_migrate 136 = .ok (.iload 4, 2) := by decide +kernel
theorem dX10_migrate_138 : decode cX10_migrate 138 = .ok (.laload, 1) := by decide +kernel
theorem dX10_migrate_139 : decode cX10_migrate 139 = .ok (.invokevirtual 129, 3) := by decide +kernel
theorem dX10_migrate_142 : decode cX10_migrate 142 = .ok (.iinc 4 1, 3) := by decide +kernel
theorem dX10_migrate_145 : decode cX10_migrate 145 = .ok (.goto (-63), 3) := by decide +kernel
theorem dX10_migrate_148 : decode cX10_migrate 148 = .ok (.aload_n 0, 1) := by decide +kernel
theorem dX10_migrate_149 : decode cX10_migrate 149 = .ok (.getfield 38, 3) := by decide +kernel
theorem dX10_migrate_152 : decode cX10_migrate 152 = .ok (.iload_n 1, 1) := by decide +kernel
theorem dX10_migrate_153 : decode cX10_migrate 153 = .ok (.iaload, 1) := by decide +kernel
theorem dX10_migrate_154 : decode cX10_migrate 154 = .ok (.ifCond .ne 17, 3) := by decide +kernel
theorem dX10_migrate_157 : decode cX10_migrate 157 = .ok (.aload_n 0, 1) := by decide +kernel
theorem dX10_migrate_158 : decode cX10_migrate 158 = .ok (.getfield 38, 3) := by decide +kernel
theorem dX10_migrate_161 : decode cX10_migrate 161 = .ok (.iload_n 1, 1) := by decide +kernel
theorem dX10_migrate_162 : decode cX10_migrate 162 = .ok (.iconst 2, 1) := by decide +kernel
theorem dX10_migrate_163 : decode cX10_migrate 163 = .ok (.iastore, 1) := by decide +kernel
theorem dX10_migrate_164 : decode cX10_migrate 164 = .ok (.aload_n 0, 1) := by decide +kernel
theorem dX10_migrate_165 : decode cX10_migrate 165 = .ok (.getfield 41, 3) := by decide +kernel
theorem dX10_migrate_168 : decode cX10_migrate 168 = .ok (.iload_n 1, 1) := by decide +kernel
theorem dX10_migrate_169 : decode cX10_migrate 169 = .ok (.iconst 0, 1) := by decide +kernel
theorem dX10_migrate_170 : decode cX10_migrate 170 = .ok (.iastore, 1) := by decide +kernel
theorem dX10_migrate_171 : decode cX10_migrate 171 = .ok (.iload_n 3, 1) := by decide +kernel
theorem dX10_migrate_172 : decode cX10_migrate 172 = .ok (.ireturn, 1) := by decide +kernel
theorem dX10_redundantMedia_0 : decode cX10_redundantMedia 0 = .ok (.aload_n 0, 1) := by decide +kernel
theorem dX10_redundantMedia_1 : decode cX10_redundantMedia 1 = .ok (.iconst 0, 1) := by decide +kernel
theorem dX10_redundantMedia_2 : decode cX10_redundantMedia 2 = .ok (.putfield 82, 3) := by decide +kernel
theorem dX10_redundantMedia_5 : decode cX10_redundantMedia 5 = .ok (.iconst 0, 1) := by decide +kernel
theorem dX10_redundantMedia_6 : decode cX10_redundantMedia 6 = .ok (.istore_n 1, 1) := by decide +kernel
theorem dX10_redundantMedia_7 : decode cX10_redundantMedia 7 = .ok (.iconst 0, 1) := by decide +kernel
theorem dX10_redundantMedia_8 : decode cX10_redundantMedia 8 = .ok (.istore_n 2, 1) := by decide +kernel
theorem dX10_redundantMedia_9 : decode cX10_redundantMedia 9 = .ok (.iload_n 2, 1) := by decide +kernel
theorem dX10_redundantMedia_10 : decode cX10_redundantMedia 10 = .ok (.aload_n 0, 1) := by decide +kernel
theorem dX10_redundantMedia_11 : decode cX10_redundantMedia 11 = .ok (.getfield 89, 3) := by decide +kernel
theorem dX10_redundantMedia_14 : decode cX10_redundantMedia 14 = .ok (.if_icmp .ge 36, 3) := by decide +kernel
theorem dX10_redundantMedia_17 : decode cX10_redundantMedia 17 = .ok (.iload_n 1, 1) := by decide +kernel
theorem dX10_redundantMedia_18 : decode cX10_redundantMedia 18 = .ok (.aload_n 0, 1) := by decide +kernel
theorem dX10_redundantMedia_19 : decode cX10_redundantMedia 19 = .ok (.getfield 38, 3) := by decide +kernel
theorem dX10_redundantMedia_22 : decode cX10_redundantMedia 22 = .ok (.iload_n 2, 1) := by decide +kernel
theorem dX10_redundantMedia_23 : decode cX10_redundantMedia 23 = .ok (.iaload, 1) := by decide +kernel
theorem dX10_redundantMedia_24 : decode cX10_redundantMedia 24 = .ok (.ifCond .ne 17, 3) := by decide +kernel
theorem dX10_redundantMedia_27 : decode cX10_redundantMedia 27 = .ok (.aload_n 0, 1) := by decide +kernel
theorem dX10_redundantMedia_28 : decode cX10_redundantMedia 28 = .ok (.iload_n 2, 1) := by decide +kernel
theorem dX10_redundantMedia_29 : decode cX10_redundantMedia 29 = .ok (.invokevirtual 280, 3) := by decide +kernel
theorem dX10_redundantMedia_32 : decode cX10_redundantMedia 32 = .ok (.ifCond .ne 9, 3) := by decide +kernel
theorem dX10_redundantMedia_35 : decode cX10_redundantMedia 35 = .ok (.iconst 1, 1) := by decide +kernel
theorem dX10_redundantMedia_36 : decode cX10_redundantMedia 36 = .ok (.iload_n 2, 1) := by decide +kernel
theorem dX10_redundantMedia_37 : decode cX10_redundantMedia 37 = .ok (.ishl, 1) := by decide +kernel
theorem dX10_redundantMedia_38 : decode cX10_redundantMedia 38 = .ok (.goto 4, 3) := by decide +kernel
theorem dX10_redundantMedia_41 : decode cX10_redundantMedia 41 = .ok (.iconst 0, 1) := by decide +kernel
theorem dX10_redundantMedia_42 : decode cX10_redundantMedia 42 = .ok (.ior, 1) := by decide +kernel
theorem dX10_redundantMedia_43 : decode cX10_redundantMedia 43 = .ok (.istore_n 1, 1) := by decide +kernel
theorem dX10_redundantMedia_44 : decode cX10_redundantMedia 44 = .ok (.iinc 2 1, 3) := by decide +kernel
theorem dX10_redundantMedia_47 : decode cX10_redundantMedia 47 = .ok (.goto (-38), 3) := by decide +kernel
theorem dX10_redundantMedia_50 : decode cX10_redundantMedia 50 = .ok (.iload_n 1, 1) := by decide +kernel
theorem dX10_redundantMedia_51 : decode cX10_redundantMedia 51 = .ok (.ireturn, 1) := by decide +kernel
theorem dX10_copiesOf_0 : decode cX10_copiesOf 0 = .ok (.iconst 0, 1) := by decide +kernel
theorem dX10_copiesOf_1 : decode cX10_copiesOf 1 = .ok (.istore 4, 2) := by decide +kernel
theorem dX10_copiesOf_3 : decode cX10_copiesOf 3 = .ok (.iconst 0, 1) := by decide +kernel
theorem dX10_copiesOf_4 : decode cX10_copiesOf 4 = .ok (.istore 5, 2) := by decide +kernel
theorem dX10_copiesOf_6 : decode cX10_copiesOf 6 = .ok (.iload 5, 2) := by decide +kernel
theorem dX10_copiesOf_8 : decode cX10_copiesOf 8 = .ok (.aload_n 0, 1) := by decide +kernel
theorem dX10_copiesOf_9 : decode cX10_copiesOf 9 = .ok (.getfield 89, 3) := by decide +kernel
theorem dX10_copiesOf_12 : decode cX10_copiesOf 12 = .ok (.if_icmp .ge 41, 3) := by decide +kernel
theorem dX10_copiesOf_15 : decode cX10_copiesOf 15 = .ok (.iload 4, 2) := by decide +kernel
theorem dX10_copiesOf_17 : decode cX10_copiesOf 17 = .ok (.aload_n 0, 1) := by decide +kernel
theorem dX10_copiesOf_18 : decode cX10_copiesOf 18 = .ok (.getfield 38, 3) := by decide +kernel
theorem dX10_copiesOf_21 : decode cX10_copiesOf 21 = .ok (.iload 5, 2) := by decide +kernel
theorem dX10_copiesOf_23 : decode cX10_copiesOf 23 = .ok (.iaload, 1) := by decide +kernel
theorem dX10_copiesOf_24 : decode cX10_copiesOf 24 = .ok (.ifCond .ne 19, 3) := by decide +kernel
theorem dX10_copiesOf_27 : decode cX10_copiesOf 27 = .ok (.aload_n 0, 1) := by decide +kernel
theorem dX10_copiesOf_28 : decode cX10_copiesOf 28 = .ok (.iload 5, 2) := by decide +kernel
theorem dX10_copiesOf_30 : decode cX10_copiesOf 30 = .ok (.iload_n 1, 1) := by decide +kernel
theorem dX10_copiesOf_31 : decode cX10_copiesOf 31 = .ok (.iload_n 2, 1) := by decide +kernel
theorem dX10_copiesOf_32 : decode cX10_copiesOf 32 = .ok (.iload_n 3, 1) := by decide +kernel
theorem dX10_copiesOf_33 : decode cX10_copiesOf 33 = .ok (.invokevirtual 135, 3) := by decide +kernel
theorem dX10_copiesOf_36 : decode cX10_copiesOf 36 = .ok (.ifCond .eq 7, 3) := by decide +kernel
theorem dX10_copiesOf_39 : decode cX10_copiesOf 39 = .ok (.iconst 1, 1) := by decide +kernel
theorem dX10_copiesOf_40 : decode cX10_copiesOf 40 = .ok (.goto 4, 3) := by decide +kernel
theorem dX10_copiesOf_43 : decode cX10_copiesOf 43 = .ok (.iconst 0, 1) := by decide +kernel
theorem dX10_copiesOf_44 : decode cX10_copiesOf 44 = .ok (.iadd, 1) := by decide +kernel
theorem dX10_copiesOf_45 : decode cX10_copiesOf 45 = .ok (.istore 4, 2) := by decide +kernel
theorem dX10_copiesOf_47 : decode cX10_copiesOf 47 = .ok (.iinc 5 1, 3) := by decide +kernel
theorem dX10_copiesOf_50 : decode cX10_copiesOf 50 = .ok (.goto (-44), 3) := by decide +kernel
theorem dX10_copiesOf_53 : decode cX10_copiesOf 53 = .ok (.iload 4, 2) := by decide +kernel
theorem dX10_copiesOf_55 : decode cX10_copiesOf 55 = .ok (.ireturn, 1) := by decide +kernel
theorem dX10_redundancy_0 : decode cX10_redundancy 0 = .ok (.aload_n 0, 1) := by decide +kernel
theorem dX10_redundancy_1 : decode cX10_redundancy 1 = .ok (.iload_n 1, 1) := by decide +kernel
theorem dX10_redundancy_2 : decode cX10_redundancy 2 = .ok (.invokestatic 170, 3) := by decide +kernel
theorem dX10_redundancy_5 : decode cX10_redundancy 5 = .ok (.ifCond .eq 7, 3) := by decide +kernel
theorem dX10_redundancy_8 : decode cX10_redundancy 8 = .ok (.iconst 0, 1) := by decide +kernel
theorem dX10_redundancy_9 : decode cX10_redundancy 9 = .ok (.goto 4, 3) := by decide +kernel
theorem dX10_redundancy_12 : decode cX10_redundancy 12 = .ok (.iconst 1, 1) := by decide +kernel
theorem dX10_redundancy_13 : decode cX10_redundancy 13 = .ok (.putfield 82, 3) := by decide +kernel
theorem dX10_redundancy_16 : decode cX10_redundancy 16 = .ok (.aload_n 0, 1) := by decide +kernel
theorem dX10_redundancy_17 : decode cX10_redundancy 17 = .ok (.getfield 82, 3) := by decide +kernel
theorem dX10_redundancy_20 : decode cX10_redundancy 20 = .ok (.ifCond .le 5, 3) := by decide +kernel
theorem dX10_redundancy_23 : decode cX10_redundancy 23 = .ok (.iconst 0, 1) := by decide +kernel
theorem dX10_redundancy_24 : decode cX10_redundancy 24 = .ok (.ireturn, 1) := by decide +kernel
theorem dX10_redundancy_25 : decode cX10_redundancy 25 = .ok (.aload_n 0, 1) := by decide +kernel
theorem dX10_redundancy_26 : decode cX10_redundancy 26 = .ok (.getfield 16, 3) := by decide +kernel
theorem dX10_redundancy_29 : decode cX10_redundancy 29 = .ok (.iload_n 1, 1) := by decide +kernel
theorem dX10_redundancy_30 : decode cX10_redundancy 30 = .ok (.iaload, 1) := by decide +kernel
theorem dX10_redundancy_31 : decode cX10_redundancy 31 = .ok (.iconst (-1), 1) := by decide +kernel
theorem dX10_redundancy_32 : decode cX10_redundancy 32 = .ok (.if_icmp .ne 5, 3) := by decide +kernel
theorem dX10_redundancy_35 : decode cX10_redundancy 35 = .ok (.iconst (-1), 1) := by decide +kernel
theorem dX10_redundancy_36 : decode cX10_redundancy 36 = .ok (.ireturn, 1) := by decide +kernel
theorem dX10_redundancy_37 : decode cX10_redundancy 37 = .ok (.bipush 21, 2) := by decide +kernel
theorem dX10_redundancy_39 : decode cX10_redundancy 39 = .ok (.iload_n 1, 1) := by decide +kernel
theorem dX10_redundancy_40 : decode cX10_redundancy 40 = .ok (.iadd, 1) := by decide +kernel
theorem dX10_redundancy_41 : decode cX10_redundancy 41 = .ok (.istore_n 2, 1) := by decide +kernel
theorem dX10_redundancy_42 : decode cX10_redundancy 42 = .ok (.aload_n 0, 1) := by decide +kernel
theorem dX10_redundancy_43 : decode cX10_redundancy 43 = .ok (.iconst 1, 1) := by decide +kernel
theorem dX10_redundancy_44 : decode cX10_redundancy 44 = .ok (.aload_n 0, 1) := by decide +kernel
theorem dX10_redundancy_45 : decode cX10_redundancy 45 = .ok (.getfield 16, 3) := by decide +kernel
theorem dX10_redundancy_48 : decode cX10_redundancy 48 = .ok (.iload_n 1, 1) := by decide +kernel
theorem dX10_redundancy_49 : decode cX10_redundancy 49 = .ok (.iaload, 1) := by decide +kernel
theorem dX10_redundancy_50 : decode cX10_redundancy 50 = .ok (.aload_n 0, 1) := by decide +kernel
theorem dX10_redundancy_51 : decode cX10_redundancy 51 = .ok (.getfield 7, 3) := by decide +kernel
theorem dX10_redundancy_54 : decode cX10_redundancy 54 = .ok (.iload_n 2, 1) := by decide +kernel
theorem dX10_redundancy_55 : decode cX10_redundancy 55 = .ok (.iaload, 1) := by decide +kernel
theorem dX10_redundancy_56 : decode cX10_redundancy 56 = .ok (.invokevirtual 286, 3) := by decide +kernel
theorem dX10_redundancy_59 : decode cX10_redundancy 59 = .ok (.istore_n 3, 1) := by decide +kernel
theorem dX10_redundancy_60 : decode cX10_redundancy 60 = .ok (.iload_n 2, 1) := by decide +kernel
theorem dX10_redundancy_61 : decode cX10_redundancy 61 = .ok (.ifCond .le 46, 3) := by decide +kernel
theorem dX10_redundancy_64 : decode cX10_redundancy 64 = .ok (.aload_n 0, 1) := by decide +kernel
theorem dX10_redundancy_65 : decode cX10_redundancy 65 = .ok (.iconst 0, 1) := by decide +kernel
theorem dX10_redundancy_66 : decode cX10_redundancy 66 = .ok (.aload_n 0, 1) := by decide +kernel
theorem dX10_redundancy_67 : decode cX10_redundancy 67 = .ok (.getfield 7, 3) := by decide +kernel
theorem dX10_redundancy_70 : decode cX10_redundancy 70 = .ok (.iload_n 2, 1) := by decide +kernel
theorem dX10_redundancy_71 : decode cX10_redundancy 71 = .ok (.iaload, 1) := by decide +kernel
theorem dX10_redundancy_72 : decode cX10_redundancy 72 = .ok (.aload_n 0, 1) := by decide +kernel
theorem dX10_redundancy_73 : decode cX10_redundancy 73 = .ok (.getfield 7, 3) := by decide +kernel
theorem dX10_redundancy_76 : decode cX10_redundancy 76 = .ok (.iload_n 2, 1) := by decide +kernel
theorem dX10_redundancy_77 : decode cX10_redundancy 77 = .ok (.invokestatic 112, 3) := by decide +kernel
theorem dX10_redundancy_80 : decode cX10_redundancy 80 = .ok (.iaload, 1) := by decide +kernel
theorem dX10_redundancy_81 : decode cX10_redundancy 81 = .ok (.invokevirtual 286, 3) := by decide +kernel
theorem dX10_redundancy_84 : decode cX10_redundancy 84 = .ok (.istore 4, 2) := by decide +kernel
theorem dX10_redundancy_86 : decode cX10_redundancy 86 = .ok (.iload 4, 2) := by decide +kernel
theorem dX10_redundancy_88 : decode cX10_redundancy 88 = .ok (.iload_n 3, 1) := by decide +kernel
theorem dX10_redundancy_89 : decode cX10_redundancy 89 = .ok (.if_icmp .ge 8, 3) := by decide +kernel
theorem dX10_redundancy_92 : decode cX10_redundancy 92 = .ok (.iload 4, 2) := by decide +kernel
theorem dX10_redundancy_94 : decode cX10_redundancy 94 = .ok (.goto 4, 3) := by decide +kernel
theorem dX10_redundancy_97 : decode cX10_redundancy 97 = .ok (.iload_n 3, 1) := by decide +kernel
theorem dX10_redundancy_98 : decode cX10_redundancy 98 = .ok (.istore_n 3, 1) := by decide +kernel
theorem dX10_redundancy_99 : decode cX10_redundancy 99 = .ok (.iload_n 2, 1) := by decide +kernel
theorem dX10_redundancy_100 : decode cX10_redundancy 100 = .ok (.invokestatic 112, 3) := by decide +kernel
theorem dX10_redundancy_103 : decode cX10_redundancy 103 = .ok (.istore_n 2, 1) := by decide +kernel
theorem dX10_redundancy_104 : decode cX10_redundancy 104 = .ok (.goto (-44), 3) := by decide +kernel
theorem dX10_redundancy_107 : decode cX10_redundancy 107 = .ok (.iload_n 3, 1) := by decide +kernel
theorem dX10_redundancy_108 : decode cX10_redundancy 108 = .ok (.ireturn, 1) := by decide +kernel
theorem dX10_lacks_0 : decode cX10_lacks 0 = .ok (.aload_n 0, 1) := by decide +kernel
theorem dX10_lacks_1 : decode cX10_lacks 1 = .ok (.iload_n 1, 1) := by decide +kernel
theorem dX10_lacks_2 : decode cX10_lacks 2 = .ok (.iload_n 2, 1) := by decide +kernel
theorem dX10_lacks_3 : decode cX10_lacks 3 = .ok (.iload_n 3, 1) := by decide +kernel
theorem dX10_lacks_4 : decode cX10_lacks 4 = .ok (.iload 4, 2) := by decide +kernel
theorem dX10_lacks_6 : decode cX10_lacks 6 = .ok (.invokevirtual 135, 3) := by decide +kernel
theorem dX10_lacks_9 : decode cX10_lacks 9 = .ok (.ifCond .ne 19, 3) := by decide +kernel
theorem dX10_lacks_12 : decode cX10_lacks 12 = .ok (.aload_n 0, 1) := by decide +kernel
theorem dX10_lacks_13 : decode cX10_lacks 13 = .ok (.iload_n 2, 1) := by decide +kernel
theorem dX10_lacks_14 : decode cX10_lacks 14 = .ok (.iload_n 3, 1) := by decide +kernel
theorem dX10_lacks_15 : decode cX10_lacks 15 = .ok (.iload 4, 2) := by decide +kernel
theorem dX10_lacks_17 : decode cX10_lacks 17 = .ok (.iload_n 1, 1) := by decide +kernel
theorem dX10_lacks_18 : decode cX10_lacks 18 = .ok (.invokevirtual 139, 3) := by decide +kernel
theorem dX10_lacks_21 : decode cX10_lacks 21 = .ok (.ifCond .eq 7, 3) := by decide +kernel
theorem dX10_lacks_24 : decode cX10_lacks 24 = .ok (.iconst 1, 1) := by decide +kernel
theorem dX10_lacks_25 : decode cX10_lacks 25 = .ok (.goto 4, 3) := by decide +kernel
theorem dX10_lacks_28 : decode cX10_lacks 28 = .ok (.iconst 0, 1) := by decide +kernel
theorem dX10_lacks_29 : decode cX10_lacks 29 = .ok (.ireturn, 1) := by decide +kernel
theorem dX10_duplicates_0 : decode cX10_duplicates 0 = .ok (.iconst 0, 1) := by decide +kernel
theorem dX10_duplicates_1 : decode cX10_duplicates 1 = .ok (.istore_n 3, 1) := by decide +kernel
theorem dX10_duplicates_2 : decode cX10_duplicates 2 = .ok (.iconst 1, 1) := by decide +kernel
theorem dX10_duplicates_3 : decode cX10_duplicates 3 = .ok (.istore 4, 2) := by decide +kernel
theorem dX10_duplicates_5 : decode cX10_duplicates 5 = .ok (.iload 4, 2) := by decide +kernel
theorem dX10_duplicates_7 : decode cX10_duplicates 7 = .ok (.bipush 85, 2) := by decide +kernel
theorem dX10_duplicates_9 : decode cX10_duplicates 9 = .ok (.if_icmp .ge 76, 3) := by decide +kernel
theorem dX10_duplicates_12 : decode cX10_duplicates 12 = .ok (.aload_n 0, 1) := by decide +kernel
theorem dX10_duplicates_13 : decode cX10_duplicates 13 = .ok (.getfield 7, 3) := by decide +kernel
theorem dX10_duplicates_16 : decode cX10_duplicates 16 = .ok (.iload 4, 2) := by decide +kernel
theorem dX10_duplicates_18 : decode cX10_duplicates 18 = .ok (.iaload, 1) := by decide +kernel
theorem dX10_duplicates_19 : decode cX10_duplicates 19 = .ok (.ifCond .eq 60, 3) := by decide +kernel
theorem dX10_duplicates_22 : decode cX10_duplicates 22 = .ok (.aload_n 0, 1) := by decide +kernel
theorem dX10_duplicates_23 : decode cX10_duplicates 23 = .ok (.iload_n 1, 1) := by decide +kernel
theorem dX10_duplicates_24 : decode cX10_duplicates 24 = .ok (.iconst 0, 1) := by decide +kernel
theorem dX10_duplicates_25 : decode cX10_duplicates 25 = .ok (.aload_n 0, 1) := by decide +kernel
theorem dX10_duplicates_26 : decode cX10_duplicates 26 = .ok (.getfield 7, 3) := by decide +kernel
theorem dX10_duplicates_29 : decode cX10_duplicates 29 = .ok (.iload 4, 2) := by decide +kernel
theorem dX10_duplicates_31 : decode cX10_duplicates 31 = .ok (.iaload, 1) := by decide +kernel
theorem dX10_duplicates_32 : decode cX10_duplicates 32 = .ok (.aload_n 0, 1) := by decide +kernel
theorem dX10_duplicates_33 : decode cX10_duplicates 33 = .ok (.getfield 7, 3) := by decide +kernel
theorem dX10_duplicates_36 : decode cX10_duplicates 36 = .ok (.iload 4, 2) := by decide +kernel
theorem dX10_duplicates_38 : decode cX10_duplicates 38 = .ok (.invokestatic 112, 3) := by decide +kernel
theorem dX10_duplicates_41 : decode cX10_duplicates 41 = .ok (.iaload, 1) := by decide +kernel
theorem dX10_duplicates_42 : decode cX10_duplicates 42 = .ok (.invokevirtual 290, 3) := by decide +kernel
theorem dX10_duplicates_45 : decode cX10_duplicates 45 = .ok (.ifCond .ne 6, 3) := by decide +kernel
theorem dX10_duplicates_48 : decode cX10_duplicates 48 = .ok (.goto 31, 3) := by decide +kernel
theorem dX10_duplicates_51 : decode cX10_duplicates 51 = .ok (.iinc 3 1, 3) := by decide +kernel
theorem dX10_duplicates_54 : decode cX10_duplicates 54 = .ok (.iload_n 2, 1) := by decide +kernel
theorem dX10_duplicates_55 : decode cX10_duplicates 55 = .ok (.ifCond .eq 24, 3) := by decide +kernel
theorem dX10_duplicates_58 : decode cX10_duplicates 58 = .ok (.aload_n 0, 1) := by decide +kernel
theorem dX10_duplicates_59 : decode cX10_duplicates 59 = .ok (.aload_n 0, 1) := by decide +kernel
theorem dX10_duplicates_60 : decode cX10_duplicates 60 = .ok (.getfield 7, 3) := by decide +kernel
theorem dX10_duplicates_63 : decode cX10_duplicates 63 = .ok (.iload 4, 2) := by decide +kernel
theorem dX10_duplicates_65 : decode cX10_duplicates 65 = .ok (.iaload, 1) := by decide +kernel
theorem dX10_duplicates_66 : decode cX10_duplicates 66 = .ok (.aload_n 0, 1) := by decide +kernel
theorem dX10_duplicates_67 : decode cX10_duplicates 67 = .ok (.getfield 7, 3) := by decide +kernel
theorem dX10_duplicates_70 : decode cX10_duplicates 70 = .ok (.iload 4, 2) := by decide +kernel
theorem dX10_duplicates_72 : decode cX10_duplicates 72 = .ok (.invokestatic 112, 3) := by decide +kernel
theorem dX10_duplicates_75 : decode cX10_duplicates 75 = .ok (.iaload, 1) := by decide +kernel
theorem dX10_duplicates_76 : decode cX10_duplicates 76 = .ok (.invokevirtual 166, 3) := by decide +kernel
theorem dX10_duplicates_79 : decode cX10_duplicates 79 = .ok (.iinc 4 1, 3) := by decide +kernel
theorem dX10_duplicates_82 : decode cX10_duplicates 82 = .ok (.goto (-77), 3) := by decide +kernel
theorem dX10_duplicates_85 : decode cX10_duplicates 85 = .ok (.iconst 0, 1) := by decide +kernel
theorem dX10_duplicates_86 : decode cX10_duplicates 86 = .ok (.istore 4, 2) := by decide +kernel
theorem dX10_duplicates_88 : decode cX10_duplicates 88 = .ok (.iload 4, 2) := by decide +kernel
theorem dX10_duplicates_90 : decode cX10_duplicates 90 = .ok (.bipush 64, 2) := by decide +kernel
theorem dX10_duplicates_92 : decode cX10_duplicates 92 = .ok (.if_icmp .ge 94, 3) := by decide +kernel
theorem dX10_duplicates_95 : decode cX10_duplicates 95 = .ok (.aload_n 0, 1) := by decide +kernel
theorem dX10_duplicates_96 : decode cX10_duplicates 96 = .ok (.getfield 7, 3) := by decide +kernel
theorem dX10_duplicates_99 : decode cX10_duplicates 99 = .ok (.bipush 21, 2) := by decide +kernel
theorem dX10_duplicates_101 : decode cX10_duplicates 101 = .ok (.iload 4, 2) := by decide +kernel
theorem dX10_duplicates_103 : decode cX10_duplicates 103 = .ok (.iadd, 1) := by decide +kernel
theorem dX10_duplicates_104 : decode cX10_duplicates 104 = .ok (.iaload, 1) := by decide +kernel
theorem dX10_duplicates_105 : decode cX10_duplicates 105 = .ok (.istore 5, 2) := by decide +kernel
theorem dX10_duplicates_107 : decode cX10_duplicates 107 = .ok (.aload_n 0, 1) := by decide +kernel
theorem dX10_duplicates_108 : decode cX10_duplicates 108 = .ok (.getfield 16, 3) := by decide +kernel
theorem dX10_duplicates_111 : decode cX10_duplicates 111 = .ok (.iload 4, 2) := by decide +kernel
theorem dX10_duplicates_113 : decode cX10_duplicates 113 = .ok (.iaload, 1) := by decide +kernel
theorem dX10_duplicates_114 : decode cX10_duplicates 114 = .ok (.iconst (-1), 1) := by decide +kernel
theorem dX10_duplicates_115 : decode cX10_duplicates 115 = .ok (.if_icmp .eq 65, 3) := by decide +kernel
theorem dX10_duplicates_118 : decode cX10_duplicates 118 = .ok (.aload_n 0, 1) := by decide +kernel
theorem dX10_duplicates_119 : decode cX10_duplicates 119 = .ok (.iload_n 1, 1) := by decide +kernel
theorem dX10_duplicates_120 : decode cX10_duplicates 120 = .ok (.iconst 1, 1) := by decide +kernel
theorem dX10_duplicates_121 : decode cX10_duplicates 121 = .ok (.aload_n 0, 1) := by decide +kernel
theorem dX10_duplicates_122 : decode cX10_duplicates 122 = .ok (.getfield 16, 3) := by decide +kernel
theorem dX10_duplicates_125 : decode cX10_duplicates 125 = .ok (.iload 4, 2) := by decide +kernel
theorem dX10_duplicates_127 : decode cX10_duplicates 127 = .ok (.iaload, 1) := by decide +kernel
theorem dX10_duplicates_128 : decode cX10_duplicates 128 = .ok (.iload 5, 2) := by decide +kernel
theorem dX10_duplicates_130 : decode cX10_duplicates 130 = .ok (.invokevirtual 290, 3) := by decide +kernel
theorem dX10_duplicates_133 : decode cX10_duplicates 133 = .ok (.ifCond .ne 6, 3) := by decide +kernel
theorem dX10_duplicates_136 : decode cX10_duplicates 136 = .ok (.goto 44, 3) := by decide +kernel
theorem dX10_duplicates_139 : decode cX10_duplicates 139 = .ok (.iinc 3 1, 3) := by decide +kernel
theorem dX10_duplicates_142 : decode cX10_duplicates 142 = .ok (.iload_n 2, 1) := by decide +kernel
theorem dX10_duplicates_143 : decode cX10_duplicates 143 = .ok (.ifCond .eq 37, 3) := by decide +kernel
theorem dX10_duplicates_146 : decode cX10_duplicates 146 = .ok (.aload_n 0, 1) := by decide +kernel
theorem dX10_duplicates_147 : decode cX10_duplicates 147 = .ok (.iload_n 1, 1) := by decide +kernel
theorem dX10_duplicates_148 : decode cX10_duplicates 148 = .ok (.iconst 1, 1) := by decide +kernel
theorem dX10_duplicates_149 : decode cX10_duplicates 149 = .ok (.aload_n 0, 1) := by decide +kernel
theorem dX10_duplicates_150 : decode cX10_duplicates 150 = .ok (.getfield 16, 3) := by decide +kernel
theorem dX10_duplicates_153 : decode cX10_duplicates 153 = .ok (.iload 4, 2) := by decide +kernel
theorem dX10_duplicates_155 : decode cX10_duplicates 155 = .ok (.iaload, 1) := by decide +kernel
theorem dX10_duplicates_156 : decode cX10_duplicates 156 = .ok (.iload 5, 2) := by decide +kernel
theorem dX10_duplicates_158 : decode cX10_duplicates 158 = .ok (.aload_n 0, 1) := by decide +kernel
theorem dX10_duplicates_159 : decode cX10_duplicates 159 = .ok (.getfield 57, 3) := by decide +kernel
theorem dX10_duplicates_162 : decode cX10_duplicates 162 = .ok (.aload_n 0, 1) := by decide +kernel
theorem dX10_duplicates_163 : decode cX10_duplicates 163 = .ok (.getfield 16, 3) := by decide +kernel
theorem dX10_duplicates_166 : decode cX10_duplicates 166 = .ok (.iload 4, 2) := by decide +kernel
theorem dX10_duplicates_168 : decode cX10_duplicates 168 = .ok (.iaload, 1) := by decide +kernel
theorem dX10_duplicates_169 : decode cX10_duplicates 169 = .ok (.laload, 1) := by decide +kernel
theorem dX10_duplicates_170 : decode cX10_duplicates 170 = .ok (.aload_n 0, 1) := by decide +kernel
theorem dX10_duplicates_171 : decode cX10_duplicates 171 = .ok (.iload 5, 2) := by decide +kernel
theorem dX10_duplicates_173 : decode cX10_duplicates 173 = .ok (.invokevirtual 179, 3) := by decide +kernel
theorem dX10_duplicates_176 : decode cX10_duplicates 176 = .ok (.lxor, 1) := by decide +kernel
theorem dX10_duplicates_177 : decode cX10_duplicates 177 = .ok (.invokevirtual 129, 3) := by decide +kernel
theorem dX10_duplicates_180 : decode cX10_duplicates 180 = .ok (.iinc 4 1, 3) := by decide +kernel
theorem dX10_duplicates_183 : decode cX10_duplicates 183 = .ok (.goto (-95), 3) := by decide +kernel
theorem dX10_duplicates_186 : decode cX10_duplicates 186 = .ok (.iload_n 3, 1) := by decide +kernel
theorem dX10_duplicates_187 : decode cX10_duplicates 187 = .ok (.ireturn, 1) := by decide +kernel
theorem dX10_duplicate_0 : decode cX10_duplicate 0 = .ok (.aload_n 0, 1) := by decide +kernel
theorem dX10_duplicate_1 : decode cX10_duplicate 1 = .ok (.iconst (-1), 1) := by decide +kernel
theorem dX10_duplicate_2 : decode cX10_duplicate 2 = .ok (.invokevirtual 123, 3) := by decide +kernel
theorem dX10_duplicate_5 : decode cX10_duplicate 5 = .ok (.istore_n 1, 1) := by decide +kernel
theorem dX10_duplicate_6 : decode cX10_duplicate 6 = .ok (.iload_n 1, 1) := by decide +kernel
theorem dX10_duplicate_7 : decode cX10_duplicate 7 = .ok (.iconst (-1), 1) := by decide +kernel
theorem dX10_duplicate_8 : decode cX10_duplicate 8 = .ok (.if_icmp .ne 7, 3) := by decide +kernel
theorem dX10_duplicate_11 : decode cX10_duplicate 11 = .ok (.iconst 0, 1) := by decide +kernel
theorem dX10_duplicate_12 : decode cX10_duplicate 12 = .ok (.goto 9, 3) := by decide +kernel
theorem dX10_duplicate_15 : decode cX10_duplicate 15 = .ok (.aload_n 0, 1) := by decide +kernel
theorem dX10_duplicate_16 : decode cX10_duplicate 16 = .ok (.iload_n 1, 1) := by decide +kernel
theorem dX10_duplicate_17 : decode cX10_duplicate 17 = .ok (.iconst 0, 1) := by decide +kernel
theorem dX10_duplicate_18 : decode cX10_duplicate 18 = .ok (.invokevirtual 293, 3) := by decide +kernel
theorem dX10_duplicate_21 : decode cX10_duplicate 21 = .ok (.istore_n 2, 1) := by decide +kernel
theorem dX10_duplicate_22 : decode cX10_duplicate 22 = .ok (.aload_n 0, 1) := by decide +kernel
theorem dX10_duplicate_23 : decode cX10_duplicate 23 = .ok (.aload_n 0, 1) := by decide +kernel
theorem dX10_duplicate_24 : decode cX10_duplicate 24 = .ok (.iload_n 1, 1) := by decide +kernel
theorem dX10_duplicate_25 : decode cX10_duplicate 25 = .ok (.iload_n 2, 1) := by decide +kernel
theorem dX10_duplicate_26 : decode cX10_duplicate 26 = .ok (.invokevirtual 176, 3) := by decide +kernel
theorem dX10_duplicate_29 : decode cX10_duplicate 29 = .ok (.ifCond .eq 7, 3) := by decide +kernel
theorem dX10_duplicate_32 : decode cX10_duplicate 32 = .ok (.iconst 0, 1) := by decide +kernel
theorem dX10_duplicate_33 : decode cX10_duplicate 33 = .ok (.goto 4, 3) := by decide +kernel
theorem dX10_duplicate_36 : decode cX10_duplicate 36 = .ok (.iconst 1, 1) := by decide +kernel
theorem dX10_duplicate_37 : decode cX10_duplicate 37 = .ok (.putfield 82, 3) := by decide +kernel
theorem dX10_duplicate_40 : decode cX10_duplicate 40 = .ok (.aload_n 0, 1) := by decide +kernel
theorem dX10_duplicate_41 : decode cX10_duplicate 41 = .ok (.getfield 82, 3) := by decide +kernel
theorem dX10_duplicate_44 : decode cX10_duplicate 44 = .ok (.ifCond .gt 8, 3) := by decide +kernel
theorem dX10_duplicate_47 : decode cX10_duplicate 47 = .ok (.iload_n 1, 1) := by decide +kernel
theorem dX10_duplicate_48 : decode cX10_duplicate 48 = .ok (.iconst (-1), 1) := by decide +kernel
theorem dX10_duplicate_49 : decode cX10_duplicate 49 = .ok (.if_icmp .ne 7, 3) := by decide +kernel
theorem dX10_duplicate_52 : decode cX10_duplicate 52 = .ok (.iconst 0, 1) := by decide +kernel
theorem dX10_duplicate_53 : decode cX10_duplicate 53 = .ok (.goto 9, 3) := by decide +kernel
theorem dX10_duplicate_56 : decode cX10_duplicate 56 = .ok (.aload_n 0, 1) := by decide +kernel
theorem dX10_duplicate_57 : decode cX10_duplicate 57 = .ok (.iload_n 1, 1) := by decide +kernel
theorem dX10_duplicate_58 : decode cX10_duplicate 58 = .ok (.iconst 1, 1) := by decide +kernel
theorem dX10_duplicate_59 : decode cX10_duplicate 59 = .ok (.invokevirtual 293, 3) := by decide +kernel
theorem dX10_duplicate_62 : decode cX10_duplicate 62 = .ok (.ireturn, 1) := by decide +kernel
theorem dX10_hashOf_0 : decode cX10_hashOf 0 = .ok (.aload_n 0, 1) := by decide +kernel
theorem dX10_hashOf_1 : decode cX10_hashOf 1 = .ok (.getfield 7, 3) := by decide +kernel
theorem dX10_hashOf_4 : decode cX10_hashOf 4 = .ok (.iload_n 1, 1) := by decide +kernel
theorem dX10_hashOf_5 : decode cX10_hashOf 5 = .ok (.iaload, 1) := by decide +kernel
theorem dX10_hashOf_6 : decode cX10_hashOf 6 = .ok (.ifCond .ne 5, 3) := by decide +kernel
theorem dX10_hashOf_9 : decode cX10_hashOf 9 = .ok (.iconst 0, 1) := by decide +kernel
theorem dX10_hashOf_10 : decode cX10_hashOf 10 = .ok (.ireturn, 1) := by decide +kernel
theorem dX10_hashOf_11 : decode cX10_hashOf 11 = .ok (.aload_n 0, 1) := by decide +kernel
theorem dX10_hashOf_12 : decode cX10_hashOf 12 = .ok (.getfield 7, 3) := by decide +kernel
theorem dX10_hashOf_15 : decode cX10_hashOf 15 = .ok (.iload_n 1, 1) := by decide +kernel
theorem dX10_hashOf_16 : decode cX10_hashOf 16 = .ok (.iaload, 1) := by decide +kernel
theorem dX10_hashOf_17 : decode cX10_hashOf 17 = .ok (.invokestatic 108, 3) := by decide +kernel
theorem dX10_hashOf_20 : decode cX10_hashOf 20 = .ok (.istore_n 2, 1) := by decide +kernel
theorem dX10_hashOf_21 : decode cX10_hashOf 21 = .ok (.iload_n 1, 1) := by decide +kernel
theorem dX10_hashOf_22 : decode cX10_hashOf 22 = .ok (.bipush 21, 2) := by decide +kernel
theorem dX10_hashOf_24 : decode cX10_hashOf 24 = .ok (.if_icmp .lt 20, 3) := by decide +kernel
theorem dX10_hashOf_27 : decode cX10_hashOf 27 = .ok (.iload_n 2, 1) := by decide +kernel
theorem dX10_hashOf_28 : decode cX10_hashOf 28 = .ok (.aload_n 0, 1) := by decide +kernel
theorem dX10_hashOf_29 : decode cX10_hashOf 29 = .ok (.getfield 16, 3) := by decide +kernel
theorem dX10_hashOf_32 : decode cX10_hashOf 32 = .ok (.iload_n 1, 1) := by decide +kernel
theorem dX10_hashOf_33 : decode cX10_hashOf 33 = .ok (.bipush 21, 2) := by decide +kernel
theorem dX10_hashOf_35 : decode cX10_hashOf 35 = .ok (.isub, 1) := by decide +kernel
theorem dX10_hashOf_36 : decode cX10_hashOf 36 = .ok (.iaload, 1) := by decide +kernel
theorem dX10_hashOf_37 : decode cX10_hashOf 37 = .ok (.iconst 1, 1) := by decide +kernel
theorem dX10_hashOf_38 : decode cX10_hashOf 38 = .ok (.iadd, 1) := by decide +kernel
theorem dX10_hashOf_39 : decode cX10_hashOf 39 = .ok (.ixor, 1) := by decide +kernel
theorem dX10_hashOf_40 : decode cX10_hashOf 40 = .ok (.invokestatic 108, 3) := by decide +kernel
theorem dX10_hashOf_43 : decode cX10_hashOf 43 = .ok (.ireturn, 1) := by decide +kernel
theorem dX10_hashOf_44 : decode cX10_hashOf 44 = .ok (.iconst 4, 1) := by decide +kernel
theorem dX10_hashOf_45 : decode cX10_hashOf 45 = .ok (.iload_n 1, 1) := by decide +kernel
theorem dX10_hashOf_46 : decode cX10_hashOf 46 = .ok (.imul, 1) := by decide +kernel
theorem dX10_hashOf_47 : decode cX10_hashOf 47 = .ok (.iconst 1, 1) := by decide +kernel
theorem dX10_hashOf_48 : decode cX10_hashOf 48 = .ok (.iadd, 1) := by decide +kernel
theorem dX10_hashOf_49 : decode cX10_hashOf 49 = .ok (.istore_n 3, 1) := by decide +kernel
theorem dX10_hashOf_50 : decode cX10_hashOf 50 = .ok (.iload_n 3, 1) := by decide +kernel
theorem dX10_hashOf_51 : decode cX10_hashOf 51 = .ok (.iconst 4, 1) := by decide +kernel
theorem dX10_hashOf_52 : decode cX10_hashOf 52 = .ok (.iload_n 1, 1) := by decide +kernel
theorem dX10_hashOf_53 : decode cX10_hashOf 53 = .ok (.imul, 1) := by decide +kernel
theorem dX10_hashOf_54 : decode cX10_hashOf 54 = .ok (.iconst 4, 1) := by decide +kernel
theorem dX10_hashOf_55 : decode cX10_hashOf 55 = .ok (.iadd, 1) := by decide +kernel
theorem dX10_hashOf_56 : decode cX10_hashOf 56 = .ok (.if_icmp .gt 20, 3) := by decide +kernel
theorem dX10_hashOf_59 : decode cX10_hashOf 59 = .ok (.iload_n 2, 1) := by decide +kernel
theorem dX10_hashOf_60 : decode cX10_hashOf 60 = .ok (.aload_n 0, 1) := by decide +kernel
theorem dX10_hashOf_61 : decode cX10_hashOf 61 = .ok (.iload_n 3, 1) := by decide +kernel
theorem dX10_hashOf_62 : decode cX10_hashOf 62 = .ok (.invokevirtual 296, 3) := by decide +kernel
theorem dX10_hashOf_65 : decode cX10_hashOf 65 = .ok (.ixor, 1) := by decide +kernel
theorem dX10_hashOf_66 : decode cX10_hashOf 66 = .ok (.invokestatic 108, 3) := by decide +kernel
theorem dX10_hashOf_69 : decode cX10_hashOf 69 = .ok (.istore_n 2, 1) := by decide +kernel
theorem dX10_hashOf_70 : decode cX10_hashOf 70 = .ok (.iinc 3 1, 3) := by decide +kernel
theorem dX10_hashOf_73 : decode cX10_hashOf 73 = .ok (.goto (-23), 3) := by decide +kernel
theorem dX10_hashOf_76 : decode cX10_hashOf 76 = .ok (.iload_n 2, 1) := by decide +kernel
theorem dX10_hashOf_77 : decode cX10_hashOf 77 = .ok (.ireturn, 1) := by decide +kernel
theorem dX10_hash_0 : decode cX10_hash 0 = .ok (.aload_n 0, 1) := by decide +kernel
theorem dX10_hash_1 : decode cX10_hash 1 = .ok (.iload_n 1, 1) := by decide +kernel
theorem dX10_hash_2 : decode cX10_hash 2 = .ok (.invokestatic 226, 3) := by decide +kernel
theorem dX10_hash_5 : decode cX10_hash 5 = .ok (.ifCond .eq 7, 3) := by decide +kernel
theorem dX10_hash_8 : decode cX10_hash 8 = .ok (.iconst 0, 1) := by decide +kernel
theorem dX10_hash_9 : decode cX10_hash 9 = .ok (.goto 4, 3) := by decide +kernel
theorem dX10_hash_12 : decode cX10_hash 12 = .ok (.iconst 1, 1) := by decide +kernel
theorem dX10_hash_13 : decode cX10_hash 13 = .ok (.putfield 82, 3) := by decide +kernel
theorem dX10_hash_16 : decode cX10_hash 16 = .ok (.aload_n 0, 1) := by decide +kernel
theorem dX10_hash_17 : decode cX10_hash 17 = .ok (.getfield 82, 3) := by decide +kernel
theorem dX10_hash_20 : decode cX10_hash 20 = .ok (.ifCond .le 7, 3) := by decide +kernel
theorem dX10_hash_23 : decode cX10_hash 23 = .ok (.iconst 0, 1) := by decide +kernel
theorem dX10_hash_24 : decode cX10_hash 24 = .ok (.goto 8, 3) := by decide +kernel
theorem dX10_hash_27 : decode cX10_hash 27 = .ok (.aload_n 0, 1) := by decide +kernel
theorem dX10_hash_28 : decode cX10_hash 28 = .ok (.iload_n 1, 1) := by decide +kernel
theorem dX10_hash_29 : decode cX10_hash 29 = .ok (.invokevirtual 296, 3) := by decide +kernel
theorem dX10_hash_32 : decode cX10_hash 32 = .ok (.ireturn, 1) := by decide +kernel
theorem dX10_isSlot_0 : decode cX10_isSlot 0 = .ok (.iload_n 0, 1) := by decide +kernel
theorem dX10_isSlot_1 : decode cX10_isSlot 1 = .ok (.i2l, 1) := by decide +kernel
theorem dX10_isSlot_2 : decode cX10_isSlot 2 = .ok (.lconst 0, 1) := by decide +kernel
theorem dX10_isSlot_3 : decode cX10_isSlot 3 = .ok (.ldc2_w 191, 3) := by decide +kernel
theorem dX10_isSlot_6 : decode cX10_isSlot 6 = .ok (.invokestatic 117, 3) := by decide +kernel
theorem dX10_isSlot_9 : decode cX10_isSlot 9 = .ok (.ireturn, 1) := by decide +kernel
theorem dX10_keepProof_0 : decode cX10_keepProof 0 = .ok (.aload_n 0, 1) := by decide +kernel
theorem dX10_keepProof_1 : decode cX10_keepProof 1 = .ok (.iload_n 1, 1) := by decide +kernel
theorem dX10_keepProof_2 : decode cX10_keepProof 2 = .ok (.invokestatic 299, 3) := by decide +kernel
theorem dX10_keepProof_5 : decode cX10_keepProof 5 = .ok (.ifCond .eq 14, 3) := by decide +kernel
theorem dX10_keepProof_8 : decode cX10_keepProof 8 = .ok (.iload_n 2, 1) := by decide +kernel
theorem dX10_keepProof_9 : decode cX10_keepProof 9 = .ok (.invokestatic 170, 3) := by decide +kernel
theorem dX10_keepProof_12 : decode cX10_keepProof 12 = .ok (.ifCond .eq 7, 3) := by decide +kernel
theorem dX10_keepProof_15 : decode cX10_keepProof 15 = .ok (.iconst 0, 1) := by decide +kernel
theorem dX10_keepProof_16 : decode cX10_keepProof 16 = .ok (.goto 4, 3) := by decide +kernel
theorem dX10_keepProof_19 : decode cX10_keepProof 19 = .ok (.iconst 1, 1) := by decide +kernel
theorem dX10_keepProof_20 : decode cX10_keepProof 20 = .ok (.putfield 82, 3) := by decide +kernel
theorem dX10_keepProof_23 : decode cX10_keepProof 23 = .ok (.aload_n 0, 1) := by decide +kernel
theorem dX10_keepProof_24 : decode cX10_keepProof 24 = .ok (.getfield 82, 3) := by decide +kernel
theorem dX10_keepProof_27 : decode cX10_keepProof 27 = .ok (.ifCond .le 5, 3) := by decide +kernel
theorem dX10_keepProof_30 : decode cX10_keepProof 30 = .ok (.iconst 0, 1) := by decide +kernel
theorem dX10_keepProof_31 : decode cX10_keepProof 31 = .ok (.ireturn, 1) := by decide +kernel
theorem dX10_keepProof_32 : decode cX10_keepProof 32 = .ok (.bipush 13, 2) := by decide +kernel
theorem dX10_keepProof_34 : decode cX10_keepProof 34 = .ok (.iload_n 1, 1) := by decide +kernel
theorem dX10_keepProof_35 : decode cX10_keepProof 35 = .ok (.imul, 1) := by decide +kernel
theorem dX10_keepProof_36 : decode cX10_keepProof 36 = .ok (.istore_n 3, 1) := by decide +kernel
theorem dX10_keepProof_37 : decode cX10_keepProof 37 = .ok (.aload_n 0, 1) := by decide +kernel
theorem dX10_keepProof_38 : decode cX10_keepProof 38 = .ok (.getfield 69, 3) := by decide +kernel
theorem dX10_keepProof_41 : decode cX10_keepProof 41 = .ok (.iload_n 1, 1) := by decide +kernel
theorem dX10_keepProof_42 : decode cX10_keepProof 42 = .ok (.iload_n 2, 1) := by decide +kernel
theorem dX10_keepProof_43 : decode cX10_keepProof 43 = .ok (.iastore, 1) := by decide +kernel
theorem dX10_keepProof_44 : decode cX10_keepProof 44 = .ok (.aload_n 0, 1) := by decide +kernel
theorem dX10_keepProof_45 : decode cX10_keepProof 45 = .ok (.getfield 66, 3) := by decide +kernel
theorem dX10_keepProof_48 : decode cX10_keepProof 48 = .ok (.iload_n 3, 1) := by decide +kernel
theorem dX10_keepProof_49 : decode cX10_keepProof 49 = .ok (.aload_n 0, 1) := by decide +kernel
theorem dX10_keepProof_50 : decode cX10_keepProof 50 = .ok (.bipush 21, 2) := by decide +kernel
theorem dX10_keepProof_52 : decode cX10_keepProof 52 = .ok (.iload_n 2, 1) := by decide +kernel
theorem dX10_keepProof_53 : decode cX10_keepProof 53 = .ok (.iadd, 1) := by decide +kernel
theorem dX10_keepProof_54 : decode cX10_keepProof 54 = .ok (.invokevirtual 296, 3) := by decide +kernel
theorem dX10_keepProof_57 : decode cX10_keepProof 57 = .ok (.iastore, 1) := by decide +kernel
theorem dX10_keepProof_58 : decode cX10_keepProof 58 = .ok (.iinc 3 1, 3) := by decide +kernel
theorem dX10_keepProof_61 : decode cX10_keepProof 61 = .ok (.bipush 21, 2) := by decide +kernel
theorem dX10_keepProof_63 : decode cX10_keepProof 63 = .ok (.iload_n 2, 1) := by decide +kernel
theorem dX10_keepProof_64 : decode cX10_keepProof 64 = .ok (.iadd, 1) := by decide +kernel
theorem dX10_keepProof_65 : decode cX10_keepProof 65 = .ok (.istore 4, 2) := by decide +kernel
theorem dX10_keepProof_67 : decode cX10_keepProof 67 = .ok (.iload 4, 2) := by decide +kernel
theorem dX10_keepProof_69 : decode cX10_keepProof 69 = .ok (.ifCond .le 86, 3) := by decide +kernel
theorem dX10_keepProof_72 : decode cX10_keepProof 72 = .ok (.iload 4, 2) := by decide +kernel
theorem dX10_keepProof_74 : decode cX10_keepProof 74 = .ok (.invokestatic 112, 3) := by decide +kernel
theorem dX10_keepProof_77 : decode cX10_keepProof 77 = .ok (.istore 5, 2) := by decide +kernel
theorem dX10_keepProof_79 : decode cX10_keepProof 79 = .ok (.aload_n 0, 1) := by decide +kernel
theorem dX10_keepProof_80 : decode cX10_keepProof 80 = .ok (.getfield 66, 3) := by decide +kernel
theorem dX10_keepProof_83 : decode cX10_keepProof 83 = .ok (.iload_n 3, 1) := by decide +kernel
theorem dX10_keepProof_84 : decode cX10_keepProof 84 = .ok (.aload_n 0, 1) := by decide +kernel
theorem dX10_keepProof_85 : decode cX10_keepProof 85 = .ok (.getfield 7, 3) := by decide +kernel
theorem dX10_keepProof_88 : decode cX10_keepProof 88 = .ok (.iload 5, 2) := by decide +kernel
theorem dX10_keepProof_90 : decode cX10_keepProof 90 = .ok (.iaload, 1) := by decide +kernel
theorem dX10_keepProof_91 : decode cX10_keepProof 91 = .ok (.iastore, 1) := by decide +kernel
theorem dX10_keepProof_92 : decode cX10_keepProof 92 = .ok (.iinc 3 1, 3) := by decide +kernel
theorem dX10_keepProof_95 : decode cX10_keepProof 95 = .ok (.iconst 4, 1) := by decide +kernel
theorem dX10_keepProof_96 : decode cX10_keepProof 96 = .ok (.iload 5, 2) := by decide +kernel
theorem dX10_keepProof_98 : decode cX10_keepProof 98 = .ok (.imul, 1) := by decide +kernel
theorem dX10_keepProof_99 : decode cX10_keepProof 99 = .ok (.iconst 1, 1) := by decide +kernel
theorem dX10_keepProof_100 : decode cX10_keepProof 100 = .ok (.iadd, 1) := by decide +kernel
theorem dX10_keepProof_101 : decode cX10_keepProof 101 = .ok (.istore 6, 2) := by decide +kernel
theorem dX10_keepProof_103 : decode cX10_keepProof 103 = .ok (.iload 6, 2) := by decide +kernel
theorem dX10_keepProof_105 : decode cX10_keepProof 105 = .ok (.iconst 4, 1) := by decide +kernel
theorem dX10_keepProof_106 : decode cX10_keepProof 106 = .ok (.iload 5, 2) := by decide +kernel
theorem dX10_keepProof_108 : decode cX10_keepProof 108 = .ok (.imul, 1) := by decide +kernel
theorem dX10_keepProof_109 : decode cX10_keepProof 109 = .ok (.iconst 4, 1) := by decide +kernel
theorem dX10_keepProof_110 : decode cX10_keepProof 110 = .ok (.iadd, 1) := by decide +kernel
theorem dX10_keepProof_111 : decode cX10_keepProof 111 = .ok (.if_icmp .gt 34, 3) := by decide +kernel
theorem dX10_keepProof_114 : decode cX10_keepProof 114 = .ok (.iload 6, 2) := by decide +kernel
theorem dX10_keepProof_116 : decode cX10_keepProof 116 = .ok (.iload 4, 2) := by decide +kernel
theorem dX10_keepProof_118 : decode cX10_keepProof 118 = .ok (.if_icmp .ne 6, 3) := by decide +kernel
theorem dX10_keepProof_121 : decode cX10_keepProof 121 = .ok (.goto 18, 3) := by decide +kernel
theorem dX10_keepProof_124 : decode cX10_keepProof 124 = .ok (.aload_n 0, 1) := by decide +kernel
theorem dX10_keepProof_125 : decode cX10_keepProof 125 = .ok (.getfield 66, 3) := by decide +kernel
theorem dX10_keepProof_128 : decode cX10_keepProof 128 = .ok (.iload_n 3, 1) := by decide +kernel
theorem dX10_keepProof_129 : decode cX10_keepProof 129 = .ok (.aload_n 0, 1) := by decide +kernel
theorem dX10_keepProof_130 : decode cX10_keepProof 130 = .ok (.iload 6, 2) := by decide +kernel
theorem dX10_keepProof_132 : decode cX10_keepProof 132 = .ok (.invokevirtual 296, 3) := by decide +kernel
theorem dX10_keepProof_135 : decode cX10_keepProof 135 = .ok (.iastore, 1) := by decide +kernel
theorem dX10_keepProof_136 : decode cX10_keepProof 136 = .ok (.iinc 3 1, 3) := by decide +kernel
theorem dX10_keepProof_139 : decode cX10_keepProof 139 = .ok (.iinc 6 1, 3) := by decide +kernel
theorem dX10_keepProof_142 : decode cX10_keepProof 142 = .ok (.goto (-39), 3) := by decide +kernel
theorem dX10_keepProof_145 : decode cX10_keepProof 145 = .ok (.iload 4, 2) := by decide +kernel
theorem dX10_keepProof_147 : decode cX10_keepProof 147 = .ok (.invokestatic 112, 3) := by decide +kernel
theorem dX10_keepProof_150 : decode cX10_keepProof 150 = .ok (.istore 4, 2) := by decide +kernel
theorem dX10_keepProof_152 : decode cX10_keepProof 152 = .ok (.goto (-85), 3) := by decide +kernel
theorem dX10_keepProof_155 : decode cX10_keepProof 155 = .ok (.aload_n 0, 1) := by decide +kernel
theorem dX10_keepProof_156 : decode cX10_keepProof 156 = .ok (.getfield 66, 3) := by decide +kernel
theorem dX10_keepProof_159 : decode cX10_keepProof 159 = .ok (.bipush 13, 2) := by decide +kernel
theorem dX10_keepProof_161 : decode cX10_keepProof 161 = .ok (.iload_n 1, 1) := by decide +kernel
theorem dX10_keepProof_162 : decode cX10_keepProof 162 = .ok (.imul, 1) := by decide +kernel
theorem dX10_keepProof_163 : decode cX10_keepProof 163 = .ok (.iaload, 1) := by decide +kernel
theorem dX10_keepProof_164 : decode cX10_keepProof 164 = .ok (.ireturn, 1) := by decide +kernel
theorem dX10_proofRefusal_0 : decode cX10_proofRefusal 0 = .ok (.iload_n 1, 1) := by decide +kernel
theorem dX10_proofRefusal_1 : decode cX10_proofRefusal 1 = .ok (.invokestatic 299, 3) := by decide +kernel
theorem dX10_proofRefusal_4 : decode cX10_proofRefusal 4 = .ok (.ifCond .ne 7, 3) := by decide +kernel
theorem dX10_proofRefusal_7 : decode cX10_proofRefusal 7 = .ok (.iconst 1, 1) := by decide +kernel
theorem dX10_proofRefusal_8 : decode cX10_proofRefusal 8 = .ok (.goto 18, 3) := by decide +kernel
theorem dX10_proofRefusal_11 : decode cX10_proofRefusal 11 = .ok (.aload_n 0, 1) := by decide +kernel
theorem dX10_proofRefusal_12 : decode cX10_proofRefusal 12 = .ok (.getfield 69, 3) := by decide +kernel
theorem dX10_proofRefusal_15 : decode cX10_proofRefusal 15 = .ok (.iload_n 1, 1) := by decide +kernel
theorem dX10_proofRefusal_16 : decode cX10_proofRefusal 16 = .ok (.iaload, 1) := by decide +kernel
theorem dX10_proofRefusal_17 : decode cX10_proofRefusal 17 = .ok (.iconst (-1), 1) := by decide +kernel
theorem dX10_proofRefusal_18 : decode cX10_proofRefusal 18 = .ok (.if_icmp .ne 7, 3) := by decide +kernel
theorem dX10_proofRefusal_21 : decode cX10_proofRefusal 21 = .ok (.iconst 2, 1) := by decide +kernel
theorem dX10_proofRefusal_22 : decode cX10_proofRefusal 22 = .ok (.goto 4, 3) := by decide +kernel
theorem dX10_proofRefusal_25 : decode cX10_proofRefusal 25 = .ok (.iconst 0, 1) := by decide +kernel
theorem dX10_proofRefusal_26 : decode cX10_proofRefusal 26 = .ok (.ireturn, 1) := by decide +kernel
theorem dX10_proofNumber_0 : decode cX10_proofNumber 0 = .ok (.aload_n 0, 1) := by decide +kernel
theorem dX10_proofNumber_1 : decode cX10_proofNumber 1 = .ok (.iload_n 1, 1) := by decide +kernel
theorem dX10_proofNumber_2 : decode cX10_proofNumber 2 = .ok (.invokestatic 299, 3) := by decide +kernel
theorem dX10_proofNumber_5 : decode cX10_proofNumber 5 = .ok (.ifCond .eq 15, 3) := by decide +kernel
theorem dX10_proofNumber_8 : decode cX10_proofNumber 8 = .ok (.iload_n 2, 1) := by decide +kernel
theorem dX10_proofNumber_9 : decode cX10_proofNumber 9 = .ok (.i2l, 1) := by decide +kernel
theorem dX10_proofNumber_10 : decode cX10_proofNumber 10 = .ok (.lconst 0, 1) := by decide +kernel
theorem dX10_proofNumber_11 : decode cX10_proofNumber 11 = .ok (.ldc2_w 302, 3) := by decide +kernel
theorem dX10_proofNumber_14 : decode cX10_proofNumber 14 = .ok (.invokestatic 117, 3) := by decide +kernel
theorem dX10_proofNumber_17 : decode cX10_proofNumber 17 = .ok (.ifCond .ne 7, 3) := by decide +kernel
theorem dX10_proofNumber_20 : decode cX10_proofNumber 20 = .ok (.iconst 1, 1) := by decide +kernel
theorem dX10_proofNumber_21 : decode cX10_proofNumber 21 = .ok (.goto 8, 3) := by decide +kernel
theorem dX10_proofNumber_24 : decode cX10_proofNumber 24 = .ok (.aload_n 0, 1) := by decide +kernel
theorem dX10_proofNumber_25 : decode cX10_proofNumber 25 = .ok (.iload_n 1, 1) := by decide +kernel
theorem dX10_proofNumber_26 : decode cX10_proofNumber 26 = .ok (.invokevirtual 304, 3) := by decide +kernel
theorem dX10_proofNumber_29 : decode cX10_proofNumber 29 = .ok (.putfield 82, 3) := by decide +kernel
theorem dX10_proofNumber_32 : decode cX10_proofNumber 32 = .ok (.aload_n 0, 1) := by decide +kernel
theorem dX10_proofNumber_33 : decode cX10_proofNumber 33 = .ok (.getfield 82, 3) := by decide +kernel
theorem dX10_proofNumber_36 : decode cX10_proofNumber 36 = .ok (.ifCond .le 7, 3) := by decide +kernel
theorem dX10_proofNumber_39 : decode cX10_proofNumber 39 = .ok (.iconst 0, 1) := by decide +kernel
theorem dX10_proofNumber_40 : decode cX10_proofNumber 40 = .ok (.goto 14, 3) := by decide +kernel
theorem dX10_proofNumber_43 : decode cX10_proofNumber 43 = .ok (.aload_n 0, 1) := by decide +kernel
theorem dX10_proofNumber_44 : decode cX10_proofNumber 44 = .ok (.getfield 66, 3) := by decide +kernel
theorem dX10_proofNumber_47 : decode cX10_proofNumber 47 = .ok (.bipush 13, 2) := by decide +kernel
theorem dX10_proofNumber_49 : decode cX10_proofNumber 49 = .ok (.iload_n 1, 1) := by decide +kernel
theorem dX10_proofNumber_50 : decode cX10_proofNumber 50 = .ok (.imul, 1) := by decide +kernel
theorem dX10_proofNumber_51 : decode cX10_proofNumber 51 = .ok (.iload_n 2, 1) := by decide +kernel
theorem dX10_proofNumber_52 : decode cX10_proofNumber 52 = .ok (.iadd, 1) := by decide +kernel
theorem dX10_proofNumber_53 : decode cX10_proofNumber 53 = .ok (.iaload, 1) := by decide +kernel
theorem dX10_proofNumber_54 : decode cX10_proofNumber 54 = .ok (.ireturn, 1) := by decide +kernel
theorem dX10_followsFrom_0 : decode cX10_followsFrom 0 = .ok (.iload_n 2, 1) := by decide +kernel
theorem dX10_followsFrom_1 : decode cX10_followsFrom 1 = .ok (.istore_n 3, 1) := by decide +kernel
theorem dX10_followsFrom_2 : decode cX10_followsFrom 2 = .ok (.bipush 13, 2) := by decide +kernel
theorem dX10_followsFrom_4 : decode cX10_followsFrom 4 = .ok (.iload_n 1, 1) := by decide +kernel
theorem dX10_followsFrom_5 : decode cX10_followsFrom 5 = .ok (.imul, 1) := by decide +kernel
theorem dX10_followsFrom_6 : decode cX10_followsFrom 6 = .ok (.iconst 1, 1) := by decide +kernel
theorem dX10_followsFrom_7 : decode cX10_followsFrom 7 = .ok (.iadd, 1) := by decide +kernel
theorem dX10_followsFrom_8 : decode cX10_followsFrom 8 = .ok (.istore 4, 2) := by decide +kernel
theorem dX10_followsFrom_10 : decode cX10_followsFrom 10 = .ok (.bipush 21, 2) := by decide +kernel
theorem dX10_followsFrom_12 : decode cX10_followsFrom 12 = .ok (.aload_n 0, 1) := by decide +kernel
theorem dX10_followsFrom_13 : decode cX10_followsFrom 13 = .ok (.getfield 69, 3) := by decide +kernel
theorem dX10_followsFrom_16 : decode cX10_followsFrom 16 = .ok (.iload_n 1, 1) := by decide +kernel
theorem dX10_followsFrom_17 : decode cX10_followsFrom 17 = .ok (.iaload, 1) := by decide +kernel
theorem dX10_followsFrom_18 : decode cX10_followsFrom 18 = .ok (.iadd, 1) := by decide +kernel
theorem dX10_followsFrom_19 : decode cX10_followsFrom 19 = .ok (.istore 5, 2) := by decide +kernel
theorem dX10_followsFrom_21 : decode cX10_followsFrom 21 = .ok (.iload 5, 2) := by decide +kernel
theorem dX10_followsFrom_23 : decode cX10_followsFrom 23 = .ok (.ifCond .le 125, 3) := by decide +kernel
theorem dX10_followsFrom_26 : decode cX10_followsFrom 26 = .ok (.aload_n 0, 1) := by decide +kernel
theorem dX10_followsFrom_27 : decode cX10_followsFrom 27 = .ok (.getfield 66, 3) := by decide +kernel
theorem dX10_followsFrom_30 : decode cX10_followsFrom 30 = .ok (.iload 4, 2) := by decide +kernel
theorem dX10_followsFrom_32 : decode cX10_followsFrom 32 = .ok (.iaload, 1) := by decide +kernel
theorem dX10_followsFrom_33 : decode cX10_followsFrom 33 = .ok (.invokestatic 108, 3) := by decide +kernel
theorem dX10_followsFrom_36 : decode cX10_followsFrom 36 = .ok (.istore 6, 2) := by decide +kernel
theorem dX10_followsFrom_38 : decode cX10_followsFrom 38 = .ok (.iload 4, 2) := by decide +kernel
theorem dX10_followsFrom_40 : decode cX10_followsFrom 40 = .ok (.iconst 1, 1) := by decide +kernel
theorem dX10_followsFrom_41 : decode cX10_followsFrom 41 = .ok (.iadd, 1) := by decide +kernel
theorem dX10_followsFrom_42 : decode cX10_followsFrom 42 = .ok (.istore 7, 2) := by decide +kernel
theorem dX10_followsFrom_44 : decode cX10_followsFrom 44 = .ok (.iconst 4, 1) := by decide +kernel
theorem dX10_followsFrom_45 : decode cX10_followsFrom 45 = .ok (.iload 5, 2) := by decide +kernel
theorem dX10_followsFrom_47 : decode cX10_followsFrom 47 = .ok (.invokestatic 112, 3) := by decide +kernel
theorem dX10_followsFrom_50 : decode cX10_followsFrom 50 = .ok (.imul, 1) := by decide +kernel
theorem dX10_followsFrom_51 : decode cX10_followsFrom 51 = .ok (.iconst 1, 1) := by decide +kernel
theorem dX10_followsFrom_52 : decode cX10_followsFrom 52 = .ok (.iadd, 1) := by decide +kernel
theorem dX10_followsFrom_53 : decode cX10_followsFrom 53 = .ok (.istore 8, 2) := by decide +kernel
theorem dX10_followsFrom_55 : decode cX10_followsFrom 55 = .ok (.iload 8, 2) := by decide +kernel
theorem dX10_followsFrom_57 : decode cX10_followsFrom 57 = .ok (.iconst 4, 1) := by decide +kernel
theorem dX10_followsFrom_58 : decode cX10_followsFrom 58 = .ok (.iload 5, 2) := by decide +kernel
theorem dX10_followsFrom_60 : decode cX10_followsFrom 60 = .ok (.invokestatic 112, 3) := by decide +kernel
theorem dX10_followsFrom_63 : decode cX10_followsFrom 63 = .ok (.imul, 1) := by decide +kernel
theorem dX10_followsFrom_64 : decode cX10_followsFrom 64 = .ok (.iconst 4, 1) := by decide +kernel
theorem dX10_followsFrom_65 : decode cX10_followsFrom 65 = .ok (.iadd, 1) := by decide +kernel
theorem dX10_followsFrom_66 : decode cX10_followsFrom 66 = .ok (.if_icmp .gt 52, 3) := by decide +kernel
theorem dX10_followsFrom_69 : decode cX10_followsFrom 69 = .ok (.iload 6, 2) := by decide +kernel
theorem dX10_followsFrom_71 : decode cX10_followsFrom 71 = .ok (.iload 8, 2) := by decide +kernel
theorem dX10_followsFrom_73 : decode cX10_followsFrom 73 = .ok (.iload 5, 2) := by decide +kernel
theorem dX10_followsFrom_75 : decode cX10_followsFrom 75 = .ok (.if_icmp .ne 7, 3) := by decide +kernel
theorem dX10_followsFrom_78 : decode cX10_followsFrom 78 = .ok (.iload_n 3, 1) := by decide +kernel
theorem dX10_followsFrom_79 : decode cX10_followsFrom 79 = .ok (.goto 10, 3) := by decide +kernel
theorem dX10_followsFrom_82 : decode cX10_followsFrom 82 = .ok (.aload_n 0, 1) := by decide +kernel
theorem dX10_followsFrom_83 : decode cX10_followsFrom 83 = .ok (.getfield 66, 3) := by decide +kernel
theorem dX10_followsFrom_86 : decode cX10_followsFrom 86 = .ok (.iload 7, 2) := by decide +kernel
theorem dX10_followsFrom_88 : decode cX10_followsFrom 88 = .ok (.iaload, 1) := by decide +kernel
theorem dX10_followsFrom_89 : decode cX10_followsFrom 89 = .ok (.ixor, 1) := by decide +kernel
theorem dX10_followsFrom_90 : decode cX10_followsFrom 90 = .ok (.invokestatic 108, 3) := by decide +kernel
theorem dX10_followsFrom_93 : decode cX10_followsFrom 93 = .ok (.istore 6, 2) := by decide +kernel
theorem dX10_followsFrom_95 : decode cX10_followsFrom 95 = .ok (.iload 7, 2) := by decide +kernel
theorem dX10_followsFrom_97 : decode cX10_followsFrom 97 = .ok (.iload 8, 2) := by decide +kernel
theorem dX10_followsFrom_99 : decode cX10_followsFrom 99 = .ok (.iload 5, 2) := by decide +kernel
theorem dX10_followsFrom_101 : decode cX10_followsFrom 101 = .ok (.if_icmp .ne 7, 3) := by decide +kernel
theorem dX10_followsFrom_104 : decode cX10_followsFrom 104 = .ok (.iconst 0, 1) := by decide +kernel
theorem dX10_followsFrom_105 : decode cX10_followsFrom 105 = .ok (.goto 4, 3) := by decide +kernel
theorem dX10_followsFrom_108 : decode cX10_followsFrom 108 = .ok (.iconst 1, 1) := by decide +kernel
theorem dX10_followsFrom_109 : decode cX10_followsFrom 109 = .ok (.iadd, 1) := by decide +kernel
theorem dX10_followsFrom_110 : decode cX10_followsFrom 110 = .ok (.istore 7, 2) := by decide +kernel
theorem dX10_followsFrom_112 : decode cX10_followsFrom 112 = .ok (.iinc 8 1, 3) := by decide +kernel
theorem dX10_followsFrom_115 : decode cX10_followsFrom 115 = .ok (.goto (-60), 3) := by decide +kernel
theorem dX10_followsFrom_118 : decode cX10_followsFrom 118 = .ok (.aload_n 0, 1) := by decide +kernel
theorem dX10_followsFrom_119 : decode cX10_followsFrom 119 = .ok (.getfield 66, 3) := by decide +kernel
theorem dX10_followsFrom_122 : decode cX10_followsFrom 122 = .ok (.iload 4, 2) := by decide +kernel
theorem dX10_followsFrom_124 : decode cX10_followsFrom 124 = .ok (.iaload, 1) := by decide +kernel
theorem dX10_followsFrom_125 : decode cX10_followsFrom 125 = .ok (.ifCond .ne 7, 3) := by decide +kernel
theorem dX10_followsFrom_128 : decode cX10_followsFrom 128 = .ok (.iconst 0, 1) := by decide +kernel
theorem dX10_followsFrom_129 : decode cX10_followsFrom 129 = .ok (.goto 5, 3) := by decide +kernel
theorem dX10_followsFrom_132 : decode cX10_followsFrom 132 = .ok (.iload 6, 2) := by decide +kernel
theorem dX10_followsFrom_134 : decode cX10_followsFrom 134 = .ok (.istore_n 3, 1) := by decide +kernel
theorem dX10_followsFrom_135 : decode cX10_followsFrom 135 = .ok (.iinc 4 4, 3) := by decide +kernel
theorem dX10_followsFrom_138 : decode cX10_followsFrom 138 = .ok (.iload 5, 2) := by decide +kernel
theorem dX10_followsFrom_140 : decode cX10_followsFrom 140 = .ok (.invokestatic 112, 3) := by decide +kernel
theorem dX10_followsFrom_143 : decode cX10_followsFrom 143 = .ok (.istore 5, 2) := by decide +kernel
theorem dX10_followsFrom_145 : decode cX10_followsFrom 145 = .ok (.goto (-124), 3) := by decide +kernel
theorem dX10_followsFrom_148 : decode cX10_followsFrom 148 = .ok (.iload_n 3, 1) := by decide +kernel
theorem dX10_followsFrom_149 : decode cX10_followsFrom 149 = .ok (.ireturn, 1) := by decide +kernel
theorem dX10_proofHash_0 : decode cX10_proofHash 0 = .ok (.aload_n 0, 1) := by decide +kernel
theorem dX10_proofHash_1 : decode cX10_proofHash 1 = .ok (.aload_n 0, 1) := by decide +kernel
theorem dX10_proofHash_2 : decode cX10_proofHash 2 = .ok (.iload_n 1, 1) := by decide +kernel
theorem dX10_proofHash_3 : decode cX10_proofHash 3 = .ok (.invokevirtual 304, 3) := by decide +kernel
theorem dX10_proofHash_6 : decode cX10_proofHash 6 = .ok (.putfield 82, 3) := by decide +kernel
theorem dX10_proofHash_9 : decode cX10_proofHash 9 = .ok (.aload_n 0, 1) := by decide +kernel
theorem dX10_proofHash_10 : decode cX10_proofHash 10 = .ok (.getfield 82, 3) := by decide +kernel
theorem dX10_proofHash_13 : decode cX10_proofHash 13 = .ok (.ifCond .le 7, 3) := by decide +kernel
theorem dX10_proofHash_16 : decode cX10_proofHash 16 = .ok (.iconst 0, 1) := by decide +kernel
theorem dX10_proofHash_17 : decode cX10_proofHash 17 = .ok (.goto 17, 3) := by decide +kernel
theorem dX10_proofHash_20 : decode cX10_proofHash 20 = .ok (.aload_n 0, 1) := by decide +kernel
theorem dX10_proofHash_21 : decode cX10_proofHash 21 = .ok (.iload_n 1, 1) := by decide +kernel
theorem dX10_proofHash_22 : decode cX10_proofHash 22 = .ok (.aload_n 0, 1) := by decide +kernel
theorem dX10_proofHash_23 : decode cX10_proofHash 23 = .ok (.getfield 66, 3) := by decide +kernel
theorem dX10_proofHash_26 : decode cX10_proofHash 26 = .ok (.bipush 13, 2) := by decide +kernel
theorem dX10_proofHash_28 : decode cX10_proofHash 28 = .ok (.iload_n 1, 1) := by decide +kernel
theorem dX10_proofHash_29 : decode cX10_proofHash 29 = .ok (.imul, 1) := by decide +kernel
theorem dX10_proofHash_30 : decode cX10_proofHash 30 = .ok (.iaload, 1) := by decide +kernel
theorem dX10_proofHash_31 : decode cX10_proofHash 31 = .ok (.invokevirtual 307, 3) := by decide +kernel
theorem dX10_proofHash_34 : decode cX10_proofHash 34 = .ok (.ireturn, 1) := by decide +kernel
theorem dX10_proofHashWith_0 : decode cX10_proofHashWith 0 = .ok (.aload_n 0, 1) := by decide +kernel
theorem dX10_proofHashWith_1 : decode cX10_proofHashWith 1 = .ok (.aload_n 0, 1) := by decide +kernel
theorem dX10_proofHashWith_2 : decode cX10_proofHashWith 2 = .ok (.iload_n 1, 1) := by decide +kernel
theorem dX10_proofHashWith_3 : decode cX10_proofHashWith 3 = .ok (.invokevirtual 304, 3) := by decide +kernel
theorem dX10_proofHashWith_6 : decode cX10_proofHashWith 6 = .ok (.putfield 82, 3) := by decide +kernel
theorem dX10_proofHashWith_9 : decode cX10_proofHashWith 9 = .ok (.aload_n 0, 1) := by decide +kernel
theorem dX10_proofHashWith_10 : decode cX10_proofHashWith 10 = .ok (.getfield 82, 3) := by decide +kernel
theorem dX10_proofHashWith_13 : decode cX10_proofHashWith 13 = .ok (.ifCond .le 7, 3) := by decide +kernel
theorem dX10_proofHashWith_16 : decode cX10_proofHashWith 16 = .ok (.iconst 0, 1) := by decide +kernel
theorem dX10_proofHashWith_17 : decode cX10_proofHashWith 17 = .ok (.goto 9, 3) := by decide +kernel
theorem dX10_proofHashWith_20 : decode cX10_proofHashWith 20 = .ok (.aload_n 0, 1) := by decide +kernel
theorem dX10_proofHashWith_21 : decode cX10_proofHashWith 21 = .ok (.iload_n 1, 1) := by decide +kernel
theorem dX10_proofHashWith_22 : decode cX10_proofHashWith 22 = .ok (.iload_n 2, 1) := by decide +kernel
theorem dX10_proofHashWith_23 : decode cX10_proofHashWith 23 = .ok (.invokevirtual 307, 3) := by decide +kernel
theorem dX10_proofHashWith_26 : decode cX10_proofHashWith 26 = .ok (.ireturn, 1) := by decide +kernel
theorem dJ6_bitCount_0f7a4_0 : decode cJ6_bitCount_0f7a4 0 = .ok (.iload_n 0, 1) := by decide +kernel
theorem dJ6_bitCount_0f7a4_1 : decode cJ6_bitCount_0f7a4 1 = .ok (.iload_n 0, 1) := by decide +kernel
theorem dJ6_bitCount_0f7a4_2 : decode cJ6_bitCount_0f7a4 2 = .ok (.iconst 1, 1) := by decide +kernel
theorem dJ6_bitCount_0f7a4_3 : decode cJ6_bitCount_0f7a4 3 = .ok (.iushr, 1) := by decide +kernel
theorem dJ6_bitCount_0f7a4_4 : decode cJ6_bitCount_0f7a4 4 = .ok (.ldc_w 265, 3) := by decide +kernel
theorem dJ6_bitCount_0f7a4_7 : decode cJ6_bitCount_0f7a4 7 = .ok (.iand, 1) := by decide +kernel
theorem dJ6_bitCount_0f7a4_8 : decode cJ6_bitCount_0f7a4 8 = .ok (.isub, 1) := by decide +kernel
theorem dJ6_bitCount_0f7a4_9 : decode cJ6_bitCount_0f7a4 9 = .ok (.istore_n 0, 1) := by decide +kernel
theorem dJ6_bitCount_0f7a4_10 : decode cJ6_bitCount_0f7a4 10 = .ok (.iload_n 0, 1) := by decide +kernel
theorem dJ6_bitCount_0f7a4_11 : decode cJ6_bitCount_0f7a4 11 = .ok (.ldc_w 266, 3) := by decide +kernel
theorem dJ6_bitCount_0f7a4_14 : decode cJ6_bitCount_0f7a4 14 = .ok (.iand, 1) := by decide +kernel
theorem dJ6_bitCount_0f7a4_15 : decode cJ6_bitCount_0f7a4 15 = .ok (.iload_n 0, 1) := by decide +kernel
theorem dJ6_bitCount_0f7a4_16 : decode cJ6_bitCount_0f7a4 16 = .ok (.iconst 2, 1) := by decide +kernel
theorem dJ6_bitCount_0f7a4_17 : decode cJ6_bitCount_0f7a4 17 = .ok (.iushr, 1) := by decide +kernel
theorem dJ6_bitCount_0f7a4_18 : decode cJ6_bitCount_0f7a4 18 = .ok (.ldc_w 266, 3) := by decide +kernel
theorem dJ6_bitCount_0f7a4_21 : decode cJ6_bitCount_0f7a4 21 = .ok (.iand, 1) := by decide +kernel
theorem dJ6_bitCount_0f7a4_22 : decode cJ6_bitCount_0f7a4 22 = .ok (.iadd, 1) := by decide +kernel
theorem dJ6_bitCount_0f7a4_23 : decode cJ6_bitCount_0f7a4 23 = .ok (.istore_n 0, 1) := by decide +kernel
theorem dJ6_bitCount_0f7a4_24 : decode cJ6_bitCount_0f7a4 24 = .ok (.iload_n 0, 1) := by decide +kernel
theorem dJ6_bitCount_0f7a4_25 : decode cJ6_bitCount_0f7a4 25 = .ok (.iload_n 0, 1) := by decide +kernel
theorem dJ6_bitCount_0f7a4_26 : decode cJ6_bitCount_0f7a4 26 = .ok (.iconst 4, 1) := by decide +kernel
theorem dJ6_bitCount_0f7a4_27 : decode cJ6_bitCount_0f7a4 27 = .ok (.iushr, 1) := by decide +kernel
theorem dJ6_bitCount_0f7a4_28 : decode cJ6_bitCount_0f7a4 28 = .ok (.iadd, 1) := by decide +kernel
theorem dJ6_bitCount_0f7a4_29 : decode cJ6_bitCount_0f7a4 29 = .ok (.ldc_w 267, 3) := by decide +kernel
theorem dJ6_bitCount_0f7a4_32 : decode cJ6_bitCount_0f7a4 32 = .ok (.iand, 1) := by decide +kernel
theorem dJ6_bitCount_0f7a4_33 : decode cJ6_bitCount_0f7a4 33 = .ok (.istore_n 0, 1) := by decide +kernel
theorem dJ6_bitCount_0f7a4_34 : decode cJ6_bitCount_0f7a4 34 = .ok (.iload_n 0, 1) := by decide +kernel
theorem dJ6_bitCount_0f7a4_35 : decode cJ6_bitCount_0f7a4 35 = .ok (.iload_n 0, 1) := by decide +kernel
theorem dJ6_bitCount_0f7a4_36 : decode cJ6_bitCount_0f7a4 36 = .ok (.bipush 8, 2) := by decide +kernel
theorem dJ6_bitCount_0f7a4_38 : decode cJ6_bitCount_0f7a4 38 = .ok (.iushr, 1) := by decide +kernel
theorem dJ6_bitCount_0f7a4_39 : decode cJ6_bitCount_0f7a4 39 = .ok (.iadd, 1) := by decide +kernel
theorem dJ6_bitCount_0f7a4_40 : decode cJ6_bitCount_0f7a4 40 = .ok (.istore_n 0, 1) := by decide +kernel
theorem dJ6_bitCount_0f7a4_41 : decode cJ6_bitCount_0f7a4 41 = .ok (.iload_n 0, 1) := by decide +kernel
theorem dJ6_bitCount_0f7a4_42 : decode cJ6_bitCount_0f7a4 42 = .ok (.iload_n 0, 1) := by decide +kernel
theorem dJ6_bitCount_0f7a4_43 : decode cJ6_bitCount_0f7a4 43 = .ok (.bipush 16, 2) := by decide +kernel
theorem dJ6_bitCount_0f7a4_45 : decode cJ6_bitCount_0f7a4 45 = .ok (.iushr, 1) := by decide +kernel
theorem dJ6_bitCount_0f7a4_46 : decode cJ6_bitCount_0f7a4 46 = .ok (.iadd, 1) := by decide +kernel
theorem dJ6_bitCount_0f7a4_47 : decode cJ6_bitCount_0f7a4 47 = .ok (.istore_n 0, 1) := by decide +kernel
theorem dJ6_bitCount_0f7a4_48 : decode cJ6_bitCount_0f7a4 48 = .ok (.iload_n 0, 1) := by decide +kernel
theorem dJ6_bitCount_0f7a4_49 : decode cJ6_bitCount_0f7a4 49 = .ok (.bipush 63, 2) := by decide +kernel
theorem dJ6_bitCount_0f7a4_51 : decode cJ6_bitCount_0f7a4 51 = .ok (.iand, 1) := by decide +kernel
theorem dJ6_bitCount_0f7a4_52 : decode cJ6_bitCount_0f7a4 52 = .ok (.ireturn, 1) := by decide +kernel
theorem dJ9_min_7cf53_0 : decode cJ9_min_7cf53 0 = .ok (.iload_n 0, 1) := by decide +kernel
theorem dJ9_min_7cf53_1 : decode cJ9_min_7cf53 1 = .ok (.iload_n 1, 1) := by decide +kernel
theorem dJ9_min_7cf53_2 : decode cJ9_min_7cf53 2 = .ok (.if_icmp .gt 7, 3) := by decide +kernel
theorem dJ9_min_7cf53_5 : decode cJ9_min_7cf53 5 = .ok (.iload_n 0, 1) := by decide +kernel
theorem dJ9_min_7cf53_6 : decode cJ9_min_7cf53 6 = .ok (.goto 4, 3) := by decide +kernel
theorem dJ9_min_7cf53_9 : decode cJ9_min_7cf53 9 = .ok (.iload_n 1, 1) := by decide +kernel
theorem dJ9_min_7cf53_10 : decode cJ9_min_7cf53 10 = .ok (.ireturn, 1) := by decide +kernel
theorem dJ7_fill_53178_0 : decode cJ7_fill_53178 0 = .ok (.iconst 0, 1) := by decide +kernel
theorem dJ7_fill_53178_1 : decode cJ7_fill_53178 1 = .ok (.istore_n 2, 1) := by decide +kernel
theorem dJ7_fill_53178_2 : decode cJ7_fill_53178 2 = .ok (.aload_n 0, 1) := by decide +kernel
theorem dJ7_fill_53178_3 : decode cJ7_fill_53178 3 = .ok (.arraylength, 1) := by decide +kernel
theorem dJ7_fill_53178_4 : decode cJ7_fill_53178 4 = .ok (.istore_n 3, 1) := by decide +kernel
theorem dJ7_fill_53178_5 : decode cJ7_fill_53178 5 = .ok (.iload_n 2, 1) := by decide +kernel
theorem dJ7_fill_53178_6 : decode cJ7_fill_53178 6 = .ok (.iload_n 3, 1) := by decide +kernel
theorem dJ7_fill_53178_7 : decode cJ7_fill_53178 7 = .ok (.if_icmp .ge 13, 3) := by decide +kernel
theorem dJ7_fill_53178_10 : decode cJ7_fill_53178 10 = .ok (.aload_n 0, 1) := by decide +kernel
theorem dJ7_fill_53178_11 : decode cJ7_fill_53178 11 = .ok (.iload_n 2, 1) := by decide +kernel
theorem dJ7_fill_53178_12 : decode cJ7_fill_53178 12 = .ok (.iload_n 1, 1) := by decide +kernel
theorem dJ7_fill_53178_13 : decode cJ7_fill_53178 13 = .ok (.iastore, 1) := by decide +kernel
theorem dJ7_fill_53178_14 : decode cJ7_fill_53178 14 = .ok (.iinc 2 1, 3) := by decide +kernel
theorem dJ7_fill_53178_17 : decode cJ7_fill_53178 17 = .ok (.goto (-12), 3) := by decide +kernel
theorem dJ7_fill_53178_20 : decode cJ7_fill_53178 20 = .ok (.return_, 1) := by decide +kernel
theorem dL_store_0 : decode cL_store 0 = .ok (.aload 4, 2) := by decide +kernel
theorem dL_store_2 : decode cL_store 2 = .ok (.iconst 0, 1) := by decide +kernel
theorem dL_store_3 : decode cL_store 3 = .ok (.aload_n 0, 1) := by decide +kernel
theorem dL_store_4 : decode cL_store 4 = .ok (.iload_n 1, 1) := by decide +kernel
theorem dL_store_5 : decode cL_store 5 = .ok (.lload_n 2, 1) := by decide +kernel
theorem dL_store_6 : decode cL_store 6 = .ok (.invokevirtual 7, 3) := by decide +kernel
theorem dL_store_9 : decode cL_store 9 = .ok (.i2l, 1) := by decide +kernel
theorem dL_store_10 : decode cL_store 10 = .ok (.lastore, 1) := by decide +kernel
theorem dL_store_11 : decode cL_store 11 = .ok (.goto 11, 3) := by decide +kernel
theorem dL_store_14 : decode cL_store 14 = .ok (.astore 5, 2) := by decide +kernel
theorem dL_store_16 : decode cL_store 16 = .ok (.iconst 1, 1) := by decide +kernel
theorem dL_store_17 : decode cL_store 17 = .ok (.ireturn, 1) := by decide +kernel
theorem dL_store_18 : decode cL_store 18 = .ok (.astore 5, 2) := by decide +kernel
theorem dL_store_20 : decode cL_store 20 = .ok (.iconst 2, 1) := by decide +kernel
theorem dL_store_21 : decode cL_store 21 = .ok (.ireturn, 1) := by decide +kernel
theorem dL_store_22 : decode cL_store 22 = .ok (.iconst 0, 1) := by decide +kernel
theorem dL_store_23 : decode cL_store 23 = .ok (.ireturn, 1) := by decide +kernel
theorem dL_read_0 : decode cL_read 0 = .ok (.aload_n 2, 1) := by decide +kernel
theorem dL_read_1 : decode cL_read 1 = .ok (.iconst 0, 1) := by decide +kernel
theorem dL_read_2 : decode cL_read 2 = .ok (.aload_n 0, 1) := by decide +kernel
theorem dL_read_3 : decode cL_read 3 = .ok (.iload_n 1, 1) := by decide +kernel
theorem dL_read_4 : decode cL_read 4 = .ok (.invokevirtual 17, 3) := by decide +kernel
theorem dL_read_7 : decode cL_read 7 = .ok (.lastore, 1) := by decide +kernel
theorem dL_read_8 : decode cL_read 8 = .ok (.goto 9, 3) := by decide +kernel
theorem dL_read_11 : decode cL_read 11 = .ok (.astore_n 3, 1) := by decide +kernel
theorem dL_read_12 : decode cL_read 12 = .ok (.iconst 1, 1) := by decide +kernel
theorem dL_read_13 : decode cL_read 13 = .ok (.ireturn, 1) := by decide +kernel
theorem dL_read_14 : decode cL_read 14 = .ok (.astore_n 3, 1) := by decide +kernel
theorem dL_read_15 : decode cL_read 15 = .ok (.iconst 2, 1) := by decide +kernel
theorem dL_read_16 : decode cL_read 16 = .ok (.ireturn, 1) := by decide +kernel
theorem dL_read_17 : decode cL_read 17 = .ok (.iconst 0, 1) := by decide +kernel
theorem dL_read_18 : decode cL_read 18 = .ok (.ireturn, 1) := by decide +kernel
theorem dL_recordAt_0 : decode cL_recordAt 0 = .ok (.aload_n 2, 1) := by decide +kernel
theorem dL_recordAt_1 : decode cL_recordAt 1 = .ok (.iconst 0, 1) := by decide +kernel
theorem dL_recordAt_2 : decode cL_recordAt 2 = .ok (.aload_n 0, 1) := by decide +kernel
theorem dL_recordAt_3 : decode cL_recordAt 3 = .ok (.iload_n 1, 1) := by decide +kernel
theorem dL_recordAt_4 : decode cL_recordAt 4 = .ok (.invokevirtual 23, 3) := by decide +kernel
theorem dL_recordAt_7 : decode cL_recordAt 7 = .ok (.i2l, 1) := by decide +kernel
theorem dL_recordAt_8 : decode cL_recordAt 8 = .ok (.lastore, 1) := by decide +kernel
theorem dL_recordAt_9 : decode cL_recordAt 9 = .ok (.goto 6, 3) := by decide +kernel
theorem dL_recordAt_12 : decode cL_recordAt 12 = .ok (.astore_n 3, 1) := by decide +kernel
theorem dL_recordAt_13 : decode cL_recordAt 13 = .ok (.iconst 1, 1) := by decide +kernel
theorem dL_recordAt_14 : decode cL_recordAt 14 = .ok (.ireturn, 1) := by decide +kernel
theorem dL_recordAt_15 : decode cL_recordAt 15 = .ok (.iconst 0, 1) := by decide +kernel
theorem dL_recordAt_16 : decode cL_recordAt 16 = .ok (.ireturn, 1) := by decide +kernel
theorem dL_leafOf_0 : decode cL_leafOf 0 = .ok (.aload_n 2, 1) := by decide +kernel
theorem dL_leafOf_1 : decode cL_leafOf 1 = .ok (.iconst 0, 1) := by decide +kernel
theorem dL_leafOf_2 : decode cL_leafOf 2 = .ok (.aload_n 0, 1) := by decide +kernel
theorem dL_leafOf_3 : decode cL_leafOf 3 = .ok (.iload_n 1, 1) := by decide +kernel
theorem dL_leafOf_4 : decode cL_leafOf 4 = .ok (.invokevirtual 27, 3) := by decide +kernel
theorem dL_leafOf_7 : decode cL_leafOf 7 = .ok (.i2l, 1) := by decide +kernel
theorem dL_leafOf_8 : decode cL_leafOf 8 = .ok (.lastore, 1) := by decide +kernel
theorem dL_leafOf_9 : decode cL_leafOf 9 = .ok (.goto 6, 3) := by decide +kernel
theorem dL_leafOf_12 : decode cL_leafOf 12 = .ok (.astore_n 3, 1) := by decide +kernel
theorem dL_leafOf_13 : decode cL_leafOf 13 = .ok (.iconst 1, 1) := by decide +kernel
theorem dL_leafOf_14 : decode cL_leafOf 14 = .ok (.ireturn, 1) := by decide +kernel
theorem dL_leafOf_15 : decode cL_leafOf 15 = .ok (.iconst 0, 1) := by decide +kernel
theorem dL_leafOf_16 : decode cL_leafOf 16 = .ok (.ireturn, 1) := by decide +kernel
theorem dL_recordCount_0 : decode cL_recordCount 0 = .ok (.aload_n 2, 1) := by decide +kernel
theorem dL_recordCount_1 : decode cL_recordCount 1 = .ok (.iconst 0, 1) := by decide +kernel
theorem dL_recordCount_2 : decode cL_recordCount 2 = .ok (.aload_n 0, 1) := by decide +kernel
theorem dL_recordCount_3 : decode cL_recordCount 3 = .ok (.iload_n 1, 1) := by decide +kernel
theorem dL_recordCount_4 : decode cL_recordCount 4 = .ok (.invokevirtual 30, 3) := by decide +kernel
theorem dL_recordCount_7 : decode cL_recordCount 7 = .ok (.i2l, 1) := by decide +kernel
theorem dL_recordCount_8 : decode cL_recordCount 8 = .ok (.lastore, 1) := by decide +kernel
theorem dL_recordCount_9 : decode cL_recordCount 9 = .ok (.goto 6, 3) := by decide +kernel
theorem dL_recordCount_12 : decode cL_recordCount 12 = .ok (.astore_n 3, 1) := by decide +kernel
theorem dL_recordCount_13 : decode cL_recordCount 13 = .ok (.iconst 1, 1) := by decide +kernel
theorem dL_recordCount_14 : decode cL_recordCount 14 = .ok (.ireturn, 1) := by decide +kernel
theorem dL_recordCount_15 : decode cL_recordCount 15 = .ok (.iconst 0, 1) := by decide +kernel
theorem dL_recordCount_16 : decode cL_recordCount 16 = .ok (.ireturn, 1) := by decide +kernel
theorem dL_openers_0 : decode cL_openers 0 = .ok (.aload_n 2, 1) := by decide +kernel
theorem dL_openers_1 : decode cL_openers 1 = .ok (.iconst 0, 1) := by decide +kernel
theorem dL_openers_2 : decode cL_openers 2 = .ok (.aload_n 0, 1) := by decide +kernel
theorem dL_openers_3 : decode cL_openers 3 = .ok (.iload_n 1, 1) := by decide +kernel
theorem dL_openers_4 : decode cL_openers 4 = .ok (.invokevirtual 35, 3) := by decide +kernel
theorem dL_openers_7 : decode cL_openers 7 = .ok (.i2l, 1) := by decide +kernel
theorem dL_openers_8 : decode cL_openers 8 = .ok (.lastore, 1) := by decide +kernel
theorem dL_openers_9 : decode cL_openers 9 = .ok (.goto 6, 3) := by decide +kernel
theorem dL_openers_12 : decode cL_openers 12 = .ok (.astore_n 3, 1) := by decide +kernel
theorem dL_openers_13 : decode cL_openers 13 = .ok (.iconst 1, 1) := by decide +kernel
theorem dL_openers_14 : decode cL_openers 14 = .ok (.ireturn, 1) := by decide +kernel
theorem dL_openers_15 : decode cL_openers 15 = .ok (.iconst 0, 1) := by decide +kernel
theorem dL_openers_16 : decode cL_openers 16 = .ok (.ireturn, 1) := by decide +kernel
theorem dL_openWith_0 : decode cL_openWith 0 = .ok (.aload_n 3, 1) := by decide +kernel
theorem dL_openWith_1 : decode cL_openWith 1 = .ok (.iconst 0, 1) := by decide +kernel
theorem dL_openWith_2 : decode cL_openWith 2 = .ok (.aload_n 0, 1) := by decide +kernel
theorem dL_openWith_3 : decode cL_openWith 3 = .ok (.iload_n 1, 1) := by decide +kernel
theorem dL_openWith_4 : decode cL_openWith 4 = .ok (.iload_n 2, 1) := by decide +kernel
theorem dL_openWith_5 : decode cL_openWith 5 = .ok (.invokevirtual 38, 3) := by decide +kernel
theorem dL_openWith_8 : decode cL_openWith 8 = .ok (.lastore, 1) := by decide +kernel
theorem dL_openWith_9 : decode cL_openWith 9 = .ok (.goto 11, 3) := by decide +kernel
theorem dL_openWith_12 : decode cL_openWith 12 = .ok (.astore 4, 2) := by decide +kernel
theorem dL_openWith_14 : decode cL_openWith 14 = .ok (.iconst 1, 1) := by decide +kernel
theorem dL_openWith_15 : decode cL_openWith 15 = .ok (.ireturn, 1) := by decide +kernel
theorem dL_openWith_16 : decode cL_openWith 16 = .ok (.astore 4, 2) := by decide +kernel
theorem dL_openWith_18 : decode cL_openWith 18 = .ok (.iconst 2, 1) := by decide +kernel
theorem dL_openWith_19 : decode cL_openWith 19 = .ok (.ireturn, 1) := by decide +kernel
theorem dL_openWith_20 : decode cL_openWith 20 = .ok (.iconst 0, 1) := by decide +kernel
theorem dL_openWith_21 : decode cL_openWith 21 = .ok (.ireturn, 1) := by decide +kernel
theorem dL_openSteps_0 : decode cL_openSteps 0 = .ok (.aload_n 3, 1) := by decide +kernel
theorem dL_openSteps_1 : decode cL_openSteps 1 = .ok (.iconst 0, 1) := by decide +kernel
theorem dL_openSteps_2 : decode cL_openSteps 2 = .ok (.aload_n 0, 1) := by decide +kernel
theorem dL_openSteps_3 : decode cL_openSteps 3 = .ok (.iload_n 1, 1) := by decide +kernel
theorem dL_openSteps_4 : decode cL_openSteps 4 = .ok (.iload_n 2, 1) := by decide +kernel
theorem dL_openSteps_5 : decode cL_openSteps 5 = .ok (.invokevirtual 42, 3) := by decide +kernel
theorem dL_openSteps_8 : decode cL_openSteps 8 = .ok (.i2l, 1) := by decide +kernel
theorem dL_openSteps_9 : decode cL_openSteps 9 = .ok (.lastore, 1) := by decide +kernel
theorem dL_openSteps_10 : decode cL_openSteps 10 = .ok (.goto 11, 3) := by decide +kernel
theorem dL_openSteps_13 : decode cL_openSteps 13 = .ok (.astore 4, 2) := by decide +kernel
theorem dL_openSteps_15 : decode cL_openSteps 15 = .ok (.iconst 1, 1) := by decide +kernel
theorem dL_openSteps_16 : decode cL_openSteps 16 = .ok (.ireturn, 1) := by decide +kernel
theorem dL_openSteps_17 : decode cL_openSteps 17 = .ok (.astore 4, 2) := by decide +kernel
theorem dL_openSteps_19 : decode cL_openSteps 19 = .ok (.iconst 2, 1) := by decide +kernel
theorem dL_openSteps_20 : decode cL_openSteps 20 = .ok (.ireturn, 1) := by decide +kernel
theorem dL_openSteps_21 : decode cL_openSteps 21 = .ok (.iconst 0, 1) := by decide +kernel
theorem dL_openSteps_22 : decode cL_openSteps 22 = .ok (.ireturn, 1) := by decide +kernel
theorem dL_exposedBy_0 : decode cL_exposedBy 0 = .ok (.aload_n 3, 1) := by decide +kernel
theorem dL_exposedBy_1 : decode cL_exposedBy 1 = .ok (.iconst 0, 1) := by decide +kernel
theorem dL_exposedBy_2 : decode cL_exposedBy 2 = .ok (.aload_n 0, 1) := by decide +kernel
theorem dL_exposedBy_3 : decode cL_exposedBy 3 = .ok (.iload_n 1, 1) := by decide +kernel
theorem dL_exposedBy_4 : decode cL_exposedBy 4 = .ok (.iload_n 2, 1) := by decide +kernel
theorem dL_exposedBy_5 : decode cL_exposedBy 5 = .ok (.invokevirtual 46, 3) := by decide +kernel
theorem dL_exposedBy_8 : decode cL_exposedBy 8 = .ok (.i2l, 1) := by decide +kernel
theorem dL_exposedBy_9 : decode cL_exposedBy 9 = .ok (.lastore, 1) := by decide +kernel
theorem dL_exposedBy_10 : decode cL_exposedBy 10 = .ok (.goto 7, 3) := by decide +kernel
theorem dL_exposedBy_13 : decode cL_exposedBy 13 = .ok (.astore 4, 2) := by decide +kernel
theorem dL_exposedBy_15 : decode cL_exposedBy 15 = .ok (.iconst 1, 1) := by decide +kernel
theorem dL_exposedBy_16 : decode cL_exposedBy 16 = .ok (.ireturn, 1) := by decide +kernel
theorem dL_exposedBy_17 : decode cL_exposedBy 17 = .ok (.iconst 0, 1) := by decide +kernel
theorem dL_exposedBy_18 : decode cL_exposedBy 18 = .ok (.ireturn, 1) := by decide +kernel
theorem dL_hold_0 : decode cL_hold 0 = .ok (.aload_n 3, 1) := by decide +kernel
theorem dL_hold_1 : decode cL_hold 1 = .ok (.iconst 0, 1) := by decide +kernel
theorem dL_hold_2 : decode cL_hold 2 = .ok (.aload_n 0, 1) := by decide +kernel
theorem dL_hold_3 : decode cL_hold 3 = .ok (.iload_n 1, 1) := by decide +kernel
theorem dL_hold_4 : decode cL_hold 4 = .ok (.iload_n 2, 1) := by decide +kernel
theorem dL_hold_5 : decode cL_hold 5 = .ok (.invokevirtual 49, 3) := by decide +kernel
theorem dL_hold_8 : decode cL_hold 8 = .ok (.i2l, 1) := by decide +kernel
theorem dL_hold_9 : decode cL_hold 9 = .ok (.lastore, 1) := by decide +kernel
theorem dL_hold_10 : decode cL_hold 10 = .ok (.goto 7, 3) := by decide +kernel
theorem dL_hold_13 : decode cL_hold 13 = .ok (.astore 4, 2) := by decide +kernel
theorem dL_hold_15 : decode cL_hold 15 = .ok (.iconst 1, 1) := by decide +kernel
theorem dL_hold_16 : decode cL_hold 16 = .ok (.ireturn, 1) := by decide +kernel
theorem dL_hold_17 : decode cL_hold 17 = .ok (.iconst 0, 1) := by decide +kernel
theorem dL_hold_18 : decode cL_hold 18 = .ok (.ireturn, 1) := by decide +kernel
theorem dL_release_0 : decode cL_release 0 = .ok (.aload_n 2, 1) := by decide +kernel
theorem dL_release_1 : decode cL_release 1 = .ok (.iconst 0, 1) := by decide +kernel
theorem dL_release_2 : decode cL_release 2 = .ok (.aload_n 0, 1) := by decide +kernel
theorem dL_release_3 : decode cL_release 3 = .ok (.iload_n 1, 1) := by decide +kernel
theorem dL_release_4 : decode cL_release 4 = .ok (.invokevirtual 52, 3) := by decide +kernel
theorem dL_release_7 : decode cL_release 7 = .ok (.i2l, 1) := by decide +kernel
theorem dL_release_8 : decode cL_release 8 = .ok (.lastore, 1) := by decide +kernel
theorem dL_release_9 : decode cL_release 9 = .ok (.goto 6, 3) := by decide +kernel
theorem dL_release_12 : decode cL_release 12 = .ok (.astore_n 3, 1) := by decide +kernel
theorem dL_release_13 : decode cL_release 13 = .ok (.iconst 1, 1) := by decide +kernel
theorem dL_release_14 : decode cL_release 14 = .ok (.ireturn, 1) := by decide +kernel
theorem dL_release_15 : decode cL_release 15 = .ok (.iconst 0, 1) := by decide +kernel
theorem dL_release_16 : decode cL_release 16 = .ok (.ireturn, 1) := by decide +kernel
theorem dL_pins_0 : decode cL_pins 0 = .ok (.aload_n 2, 1) := by decide +kernel
theorem dL_pins_1 : decode cL_pins 1 = .ok (.iconst 0, 1) := by decide +kernel
theorem dL_pins_2 : decode cL_pins 2 = .ok (.aload_n 0, 1) := by decide +kernel
theorem dL_pins_3 : decode cL_pins 3 = .ok (.iload_n 1, 1) := by decide +kernel
theorem dL_pins_4 : decode cL_pins 4 = .ok (.invokevirtual 55, 3) := by decide +kernel
theorem dL_pins_7 : decode cL_pins 7 = .ok (.i2l, 1) := by decide +kernel
theorem dL_pins_8 : decode cL_pins 8 = .ok (.lastore, 1) := by decide +kernel
theorem dL_pins_9 : decode cL_pins 9 = .ok (.goto 6, 3) := by decide +kernel
theorem dL_pins_12 : decode cL_pins 12 = .ok (.astore_n 3, 1) := by decide +kernel
theorem dL_pins_13 : decode cL_pins 13 = .ok (.iconst 1, 1) := by decide +kernel
theorem dL_pins_14 : decode cL_pins 14 = .ok (.ireturn, 1) := by decide +kernel
theorem dL_pins_15 : decode cL_pins 15 = .ok (.iconst 0, 1) := by decide +kernel
theorem dL_pins_16 : decode cL_pins 16 = .ok (.ireturn, 1) := by decide +kernel
theorem dL_mark_0 : decode cL_mark 0 = .ok (.aload_n 3, 1) := by decide +kernel
theorem dL_mark_1 : decode cL_mark 1 = .ok (.iconst 0, 1) := by decide +kernel
theorem dL_mark_2 : decode cL_mark 2 = .ok (.aload_n 0, 1) := by decide +kernel
theorem dL_mark_3 : decode cL_mark 3 = .ok (.iload_n 1, 1) := by decide +kernel
theorem dL_mark_4 : decode cL_mark 4 = .ok (.iload_n 2, 1) := by decide +kernel
theorem dL_mark_5 : decode cL_mark 5 = .ok (.invokevirtual 58, 3) := by decide +kernel
theorem dL_mark_8 : decode cL_mark 8 = .ok (.ifCond .eq 7, 3) := by decide +kernel
theorem dL_mark_11 : decode cL_mark 11 = .ok (.lconst 1, 1) := by decide +kernel
theorem dL_mark_12 : decode cL_mark 12 = .ok (.goto 4, 3) := by decide +kernel
theorem dL_mark_15 : decode cL_mark 15 = .ok (.lconst 0, 1) := by decide +kernel
theorem dL_mark_16 : decode cL_mark 16 = .ok (.lastore, 1) := by decide +kernel
theorem dL_mark_17 : decode cL_mark 17 = .ok (.goto 11, 3) := by decide +kernel
theorem dL_mark_20 : decode cL_mark 20 = .ok (.astore 4, 2) := by decide +kernel
theorem dL_mark_22 : decode cL_mark 22 = .ok (.iconst 1, 1) := by decide +kernel
theorem dL_mark_23 : decode cL_mark 23 = .ok (.ireturn, 1) := by decide +kernel
theorem dL_mark_24 : decode cL_mark 24 = .ok (.astore 4, 2) := by decide +kernel
theorem dL_mark_26 : decode cL_mark 26 = .ok (.iconst 2, 1) := by decide +kernel
theorem dL_mark_27 : decode cL_mark 27 = .ok (.ireturn, 1) := by decide +kernel
theorem dL_mark_28 : decode cL_mark 28 = .ok (.iconst 0, 1) := by decide +kernel
theorem dL_mark_29 : decode cL_mark 29 = .ok (.ireturn, 1) := by decide +kernel
theorem dL_setDue_0 : decode cL_setDue 0 = .ok (.aload_n 3, 1) := by decide +kernel
theorem dL_setDue_1 : decode cL_setDue 1 = .ok (.iconst 0, 1) := by decide +kernel
theorem dL_setDue_2 : decode cL_setDue 2 = .ok (.aload_n 0, 1) := by decide +kernel
theorem dL_setDue_3 : decode cL_setDue 3 = .ok (.iload_n 1, 1) := by decide +kernel
theorem dL_setDue_4 : decode cL_setDue 4 = .ok (.iload_n 2, 1) := by decide +kernel
theorem dL_setDue_5 : decode cL_setDue 5 = .ok (.invokevirtual 62, 3) := by decide +kernel
theorem dL_setDue_8 : decode cL_setDue 8 = .ok (.i2l, 1) := by decide +kernel
theorem dL_setDue_9 : decode cL_setDue 9 = .ok (.lastore, 1) := by decide +kernel
theorem dL_setDue_10 : decode cL_setDue 10 = .ok (.goto 15, 3) := by decide +kernel
theorem dL_setDue_13 : decode cL_setDue 13 = .ok (.astore 4, 2) := by decide +kernel
theorem dL_setDue_15 : decode cL_setDue 15 = .ok (.iconst 1, 1) := by decide +kernel
theorem dL_setDue_16 : decode cL_setDue 16 = .ok (.ireturn, 1) := by decide +kernel
theorem dL_setDue_17 : decode cL_setDue 17 = .ok (.astore 4, 2) := by decide +kernel
theorem dL_setDue_19 : decode cL_setDue 19 = .ok (.iconst 2, 1) := by decide +kernel
theorem dL_setDue_20 : decode cL_setDue 20 = .ok (.ireturn, 1) := by decide +kernel
theorem dL_setDue_21 : decode cL_setDue 21 = .ok (.astore 4, 2) := by decide +kernel
theorem dL_setDue_23 : decode cL_setDue 23 = .ok (.iconst 3, 1) := by decide +kernel
theorem dL_setDue_24 : decode cL_setDue 24 = .ok (.ireturn, 1) := by decide +kernel
theorem dL_setDue_25 : decode cL_setDue 25 = .ok (.iconst 0, 1) := by decide +kernel
theorem dL_setDue_26 : decode cL_setDue 26 = .ok (.ireturn, 1) := by decide +kernel
theorem dL_passDays_0 : decode cL_passDays 0 = .ok (.aload_n 2, 1) := by decide +kernel
theorem dL_passDays_1 : decode cL_passDays 1 = .ok (.iconst 0, 1) := by decide +kernel
theorem dL_passDays_2 : decode cL_passDays 2 = .ok (.aload_n 0, 1) := by decide +kernel
theorem dL_passDays_3 : decode cL_passDays 3 = .ok (.iload_n 1, 1) := by decide +kernel
theorem dL_passDays_4 : decode cL_passDays 4 = .ok (.invokevirtual 65, 3) := by decide +kernel
theorem dL_passDays_7 : decode cL_passDays 7 = .ok (.i2l, 1) := by decide +kernel
theorem dL_passDays_8 : decode cL_passDays 8 = .ok (.lastore, 1) := by decide +kernel
theorem dL_passDays_9 : decode cL_passDays 9 = .ok (.goto 9, 3) := by decide +kernel
theorem dL_passDays_12 : decode cL_passDays 12 = .ok (.astore_n 3, 1) := by decide +kernel
theorem dL_passDays_13 : decode cL_passDays 13 = .ok (.iconst 1, 1) := by decide +kernel
theorem dL_passDays_14 : decode cL_passDays 14 = .ok (.ireturn, 1) := by decide +kernel
theorem dL_passDays_15 : decode cL_passDays 15 = .ok (.astore_n 3, 1) := by decide +kernel
theorem dL_passDays_16 : decode cL_passDays 16 = .ok (.iconst 2, 1) := by decide +kernel
theorem dL_passDays_17 : decode cL_passDays 17 = .ok (.ireturn, 1) := by decide +kernel
theorem dL_passDays_18 : decode cL_passDays 18 = .ok (.iconst 0, 1) := by decide +kernel
theorem dL_passDays_19 : decode cL_passDays 19 = .ok (.ireturn, 1) := by decide +kernel
theorem dL_extraCost_0 : decode cL_extraCost 0 = .ok (.aload_n 2, 1) := by decide +kernel
theorem dL_extraCost_1 : decode cL_extraCost 1 = .ok (.iconst 0, 1) := by decide +kernel
theorem dL_extraCost_2 : decode cL_extraCost 2 = .ok (.aload_n 0, 1) := by decide +kernel
theorem dL_extraCost_3 : decode cL_extraCost 3 = .ok (.iload_n 1, 1) := by decide +kernel
theorem dL_extraCost_4 : decode cL_extraCost 4 = .ok (.invokevirtual 68, 3) := by decide +kernel
theorem dL_extraCost_7 : decode cL_extraCost 7 = .ok (.i2l, 1) := by decide +kernel
theorem dL_extraCost_8 : decode cL_extraCost 8 = .ok (.lastore, 1) := by decide +kernel
theorem dL_extraCost_9 : decode cL_extraCost 9 = .ok (.goto 9, 3) := by decide +kernel
theorem dL_extraCost_12 : decode cL_extraCost 12 = .ok (.astore_n 3, 1) := by decide +kernel
theorem dL_extraCost_13 : decode cL_extraCost 13 = .ok (.iconst 1, 1) := by decide +kernel
theorem dL_extraCost_14 : decode cL_extraCost 14 = .ok (.ireturn, 1) := by decide +kernel
theorem dL_extraCost_15 : decode cL_extraCost 15 = .ok (.astore_n 3, 1) := by decide +kernel
theorem dL_extraCost_16 : decode cL_extraCost 16 = .ok (.iconst 2, 1) := by decide +kernel
theorem dL_extraCost_17 : decode cL_extraCost 17 = .ok (.ireturn, 1) := by decide +kernel
theorem dL_extraCost_18 : decode cL_extraCost 18 = .ok (.iconst 0, 1) := by decide +kernel
theorem dL_extraCost_19 : decode cL_extraCost 19 = .ok (.ireturn, 1) := by decide +kernel
theorem dL_forget_0 : decode cL_forget 0 = .ok (.aload_n 2, 1) := by decide +kernel
theorem dL_forget_1 : decode cL_forget 1 = .ok (.iconst 0, 1) := by decide +kernel
theorem dL_forget_2 : decode cL_forget 2 = .ok (.aload_n 0, 1) := by decide +kernel
theorem dL_forget_3 : decode cL_forget 3 = .ok (.iload_n 1, 1) := by decide +kernel
theorem dL_forget_4 : decode cL_forget 4 = .ok (.invokevirtual 71, 3) := by decide +kernel
theorem dL_forget_7 : decode cL_forget 7 = .ok (.i2l, 1) := by decide +kernel
theorem dL_forget_8 : decode cL_forget 8 = .ok (.lastore, 1) := by decide +kernel
theorem dL_forget_9 : decode cL_forget 9 = .ok (.goto 6, 3) := by decide +kernel
theorem dL_forget_12 : decode cL_forget 12 = .ok (.astore_n 3, 1) := by decide +kernel
theorem dL_forget_13 : decode cL_forget 13 = .ok (.iconst 1, 1) := by decide +kernel
theorem dL_forget_14 : decode cL_forget 14 = .ok (.ireturn, 1) := by decide +kernel
theorem dL_forget_15 : decode cL_forget 15 = .ok (.iconst 0, 1) := by decide +kernel
theorem dL_forget_16 : decode cL_forget 16 = .ok (.ireturn, 1) := by decide +kernel
theorem dL_rekeyed_0 : decode cL_rekeyed 0 = .ok (.aload_n 2, 1) := by decide +kernel
theorem dL_rekeyed_1 : decode cL_rekeyed 1 = .ok (.iconst 0, 1) := by decide +kernel
theorem dL_rekeyed_2 : decode cL_rekeyed 2 = .ok (.aload_n 0, 1) := by decide +kernel
theorem dL_rekeyed_3 : decode cL_rekeyed 3 = .ok (.iload_n 1, 1) := by decide +kernel
theorem dL_rekeyed_4 : decode cL_rekeyed 4 = .ok (.invokevirtual 75, 3) := by decide +kernel
theorem dL_rekeyed_7 : decode cL_rekeyed 7 = .ok (.i2l, 1) := by decide +kernel
theorem dL_rekeyed_8 : decode cL_rekeyed 8 = .ok (.lastore, 1) := by decide +kernel
theorem dL_rekeyed_9 : decode cL_rekeyed 9 = .ok (.goto 6, 3) := by decide +kernel
theorem dL_rekeyed_12 : decode cL_rekeyed 12 = .ok (.astore_n 3, 1) := by decide +kernel
theorem dL_rekeyed_13 : decode cL_rekeyed 13 = .ok (.iconst 1, 1) := by decide +kernel
theorem dL_rekeyed_14 : decode cL_rekeyed 14 = .ok (.ireturn, 1) := by decide +kernel
theorem dL_rekeyed_15 : decode cL_rekeyed 15 = .ok (.iconst 0, 1) := by decide +kernel
theorem dL_rekeyed_16 : decode cL_rekeyed 16 = .ok (.ireturn, 1) := by decide +kernel
theorem dL_key_0 : decode cL_key 0 = .ok (.aload_n 2, 1) := by decide +kernel
theorem dL_key_1 : decode cL_key 1 = .ok (.iconst 0, 1) := by decide +kernel
theorem dL_key_2 : decode cL_key 2 = .ok (.aload_n 0, 1) := by decide +kernel
theorem dL_key_3 : decode cL_key 3 = .ok (.iload_n 1, 1) := by decide +kernel
theorem dL_key_4 : decode cL_key 4 = .ok (.invokevirtual 78, 3) := by decide +kernel
theorem dL_key_7 : decode cL_key 7 = .ok (.i2l, 1) := by decide +kernel
theorem dL_key_8 : decode cL_key 8 = .ok (.lastore, 1) := by decide +kernel
theorem dL_key_9 : decode cL_key 9 = .ok (.goto 6, 3) := by decide +kernel
theorem dL_key_12 : decode cL_key 12 = .ok (.astore_n 3, 1) := by decide +kernel
theorem dL_key_13 : decode cL_key 13 = .ok (.iconst 1, 1) := by decide +kernel
theorem dL_key_14 : decode cL_key 14 = .ok (.ireturn, 1) := by decide +kernel
theorem dL_key_15 : decode cL_key 15 = .ok (.iconst 0, 1) := by decide +kernel
theorem dL_key_16 : decode cL_key 16 = .ok (.ireturn, 1) := by decide +kernel
theorem dL_keyValue_0 : decode cL_keyValue 0 = .ok (.aload_n 2, 1) := by decide +kernel
theorem dL_keyValue_1 : decode cL_keyValue 1 = .ok (.iconst 0, 1) := by decide +kernel
theorem dL_keyValue_2 : decode cL_keyValue 2 = .ok (.aload_n 0, 1) := by decide +kernel
theorem dL_keyValue_3 : decode cL_keyValue 3 = .ok (.iload_n 1, 1) := by decide +kernel
theorem dL_keyValue_4 : decode cL_keyValue 4 = .ok (.invokevirtual 81, 3) := by decide +kernel
theorem dL_keyValue_7 : decode cL_keyValue 7 = .ok (.i2l, 1) := by decide +kernel
theorem dL_keyValue_8 : decode cL_keyValue 8 = .ok (.lastore, 1) := by decide +kernel
theorem dL_keyValue_9 : decode cL_keyValue 9 = .ok (.goto 6, 3) := by decide +kernel
theorem dL_keyValue_12 : decode cL_keyValue 12 = .ok (.astore_n 3, 1) := by decide +kernel
theorem dL_keyValue_13 : decode cL_keyValue 13 = .ok (.iconst 1, 1) := by decide +kernel
theorem dL_keyValue_14 : decode cL_keyValue 14 = .ok (.ireturn, 1) := by decide +kernel
theorem dL_keyValue_15 : decode cL_keyValue 15 = .ok (.iconst 0, 1) := by decide +kernel
theorem dL_keyValue_16 : decode cL_keyValue 16 = .ok (.ireturn, 1) := by decide +kernel
theorem dL_keep_0 : decode cL_keep 0 = .ok (.aload_n 3, 1) := by decide +kernel
theorem dL_keep_1 : decode cL_keep 1 = .ok (.iconst 0, 1) := by decide +kernel
theorem dL_keep_2 : decode cL_keep 2 = .ok (.aload_n 0, 1) := by decide +kernel
theorem dL_keep_3 : decode cL_keep 3 = .ok (.iload_n 1, 1) := by decide +kernel
theorem dL_keep_4 : decode cL_keep 4 = .ok (.iload_n 2, 1) := by decide +kernel
theorem dL_keep_5 : decode cL_keep 5 = .ok (.invokevirtual 84, 3) := by decide +kernel
theorem dL_keep_8 : decode cL_keep 8 = .ok (.i2l, 1) := by decide +kernel
theorem dL_keep_9 : decode cL_keep 9 = .ok (.lastore, 1) := by decide +kernel
theorem dL_keep_10 : decode cL_keep 10 = .ok (.goto 11, 3) := by decide +kernel
theorem dL_keep_13 : decode cL_keep 13 = .ok (.astore 4, 2) := by decide +kernel
theorem dL_keep_15 : decode cL_keep 15 = .ok (.iconst 1, 1) := by decide +kernel
theorem dL_keep_16 : decode cL_keep 16 = .ok (.ireturn, 1) := by decide +kernel
theorem dL_keep_17 : decode cL_keep 17 = .ok (.astore 4, 2) := by decide +kernel
theorem dL_keep_19 : decode cL_keep 19 = .ok (.iconst 2, 1) := by decide +kernel
theorem dL_keep_20 : decode cL_keep 20 = .ok (.ireturn, 1) := by decide +kernel
theorem dL_keep_21 : decode cL_keep 21 = .ok (.iconst 0, 1) := by decide +kernel
theorem dL_keep_22 : decode cL_keep 22 = .ok (.ireturn, 1) := by decide +kernel
theorem dL_drop_0 : decode cL_drop 0 = .ok (.aload_n 2, 1) := by decide +kernel
theorem dL_drop_1 : decode cL_drop 1 = .ok (.iconst 0, 1) := by decide +kernel
theorem dL_drop_2 : decode cL_drop 2 = .ok (.aload_n 0, 1) := by decide +kernel
theorem dL_drop_3 : decode cL_drop 3 = .ok (.iload_n 1, 1) := by decide +kernel
theorem dL_drop_4 : decode cL_drop 4 = .ok (.invokevirtual 87, 3) := by decide +kernel
theorem dL_drop_7 : decode cL_drop 7 = .ok (.i2l, 1) := by decide +kernel
theorem dL_drop_8 : decode cL_drop 8 = .ok (.lastore, 1) := by decide +kernel
theorem dL_drop_9 : decode cL_drop 9 = .ok (.goto 6, 3) := by decide +kernel
theorem dL_drop_12 : decode cL_drop 12 = .ok (.astore_n 3, 1) := by decide +kernel
theorem dL_drop_13 : decode cL_drop 13 = .ok (.iconst 1, 1) := by decide +kernel
theorem dL_drop_14 : decode cL_drop 14 = .ok (.ireturn, 1) := by decide +kernel
theorem dL_drop_15 : decode cL_drop 15 = .ok (.iconst 0, 1) := by decide +kernel
theorem dL_drop_16 : decode cL_drop 16 = .ok (.ireturn, 1) := by decide +kernel
theorem dL_custodian_0 : decode cL_custodian 0 = .ok (.aload_n 3, 1) := by decide +kernel
theorem dL_custodian_1 : decode cL_custodian 1 = .ok (.iconst 0, 1) := by decide +kernel
theorem dL_custodian_2 : decode cL_custodian 2 = .ok (.aload_n 0, 1) := by decide +kernel
theorem dL_custodian_3 : decode cL_custodian 3 = .ok (.iload_n 1, 1) := by decide +kernel
theorem dL_custodian_4 : decode cL_custodian 4 = .ok (.iload_n 2, 1) := by decide +kernel
theorem dL_custodian_5 : decode cL_custodian 5 = .ok (.invokevirtual 90, 3) := by decide +kernel
theorem dL_custodian_8 : decode cL_custodian 8 = .ok (.i2l, 1) := by decide +kernel
theorem dL_custodian_9 : decode cL_custodian 9 = .ok (.lastore, 1) := by decide +kernel
theorem dL_custodian_10 : decode cL_custodian 10 = .ok (.goto 11, 3) := by decide +kernel
theorem dL_custodian_13 : decode cL_custodian 13 = .ok (.astore 4, 2) := by decide +kernel
theorem dL_custodian_15 : decode cL_custodian 15 = .ok (.iconst 1, 1) := by decide +kernel
theorem dL_custodian_16 : decode cL_custodian 16 = .ok (.ireturn, 1) := by decide +kernel
theorem dL_custodian_17 : decode cL_custodian 17 = .ok (.astore 4, 2) := by decide +kernel
theorem dL_custodian_19 : decode cL_custodian 19 = .ok (.iconst 2, 1) := by decide +kernel
theorem dL_custodian_20 : decode cL_custodian 20 = .ok (.ireturn, 1) := by decide +kernel
theorem dL_custodian_21 : decode cL_custodian 21 = .ok (.iconst 0, 1) := by decide +kernel
theorem dL_custodian_22 : decode cL_custodian 22 = .ok (.ireturn, 1) := by decide +kernel
theorem dL_rekey_0 : decode cL_rekey 0 = .ok (.aload_n 2, 1) := by decide +kernel
theorem dL_rekey_1 : decode cL_rekey 1 = .ok (.iconst 0, 1) := by decide +kernel
theorem dL_rekey_2 : decode cL_rekey 2 = .ok (.aload_n 0, 1) := by decide +kernel
theorem dL_rekey_3 : decode cL_rekey 3 = .ok (.iload_n 1, 1) := by decide +kernel
theorem dL_rekey_4 : decode cL_rekey 4 = .ok (.invokevirtual 93, 3) := by decide +kernel
theorem dL_rekey_7 : decode cL_rekey 7 = .ok (.i2l, 1) := by decide +kernel
theorem dL_rekey_8 : decode cL_rekey 8 = .ok (.lastore, 1) := by decide +kernel
theorem dL_rekey_9 : decode cL_rekey 9 = .ok (.goto 9, 3) := by decide +kernel
theorem dL_rekey_12 : decode cL_rekey 12 = .ok (.astore_n 3, 1) := by decide +kernel
theorem dL_rekey_13 : decode cL_rekey 13 = .ok (.iconst 1, 1) := by decide +kernel
theorem dL_rekey_14 : decode cL_rekey 14 = .ok (.ireturn, 1) := by decide +kernel
theorem dL_rekey_15 : decode cL_rekey 15 = .ok (.astore_n 3, 1) := by decide +kernel
theorem dL_rekey_16 : decode cL_rekey 16 = .ok (.iconst 2, 1) := by decide +kernel
theorem dL_rekey_17 : decode cL_rekey 17 = .ok (.ireturn, 1) := by decide +kernel
theorem dL_rekey_18 : decode cL_rekey 18 = .ok (.iconst 0, 1) := by decide +kernel
theorem dL_rekey_19 : decode cL_rekey 19 = .ok (.ireturn, 1) := by decide +kernel
theorem dL_move_0 : decode cL_move 0 = .ok (.aload_n 3, 1) := by decide +kernel
theorem dL_move_1 : decode cL_move 1 = .ok (.iconst 0, 1) := by decide +kernel
theorem dL_move_2 : decode cL_move 2 = .ok (.aload_n 0, 1) := by decide +kernel
theorem dL_move_3 : decode cL_move 3 = .ok (.iload_n 1, 1) := by decide +kernel
theorem dL_move_4 : decode cL_move 4 = .ok (.iload_n 2, 1) := by decide +kernel
theorem dL_move_5 : decode cL_move 5 = .ok (.invokevirtual 96, 3) := by decide +kernel
theorem dL_move_8 : decode cL_move 8 = .ok (.i2l, 1) := by decide +kernel
theorem dL_move_9 : decode cL_move 9 = .ok (.lastore, 1) := by decide +kernel
theorem dL_move_10 : decode cL_move 10 = .ok (.goto 15, 3) := by decide +kernel
theorem dL_move_13 : decode cL_move 13 = .ok (.astore 4, 2) := by decide +kernel
theorem dL_move_15 : decode cL_move 15 = .ok (.iconst 1, 1) := by decide +kernel
theorem dL_move_16 : decode cL_move 16 = .ok (.ireturn, 1) := by decide +kernel
theorem dL_move_17 : decode cL_move 17 = .ok (.astore 4, 2) := by decide +kernel
theorem dL_move_19 : decode cL_move 19 = .ok (.iconst 2, 1) := by decide +kernel
theorem dL_move_20 : decode cL_move 20 = .ok (.ireturn, 1) := by decide +kernel
theorem dL_move_21 : decode cL_move 21 = .ok (.astore 4, 2) := by decide +kernel
theorem dL_move_23 : decode cL_move 23 = .ok (.iconst 3, 1) := by decide +kernel
theorem dL_move_24 : decode cL_move 24 = .ok (.ireturn, 1) := by decide +kernel
theorem dL_move_25 : decode cL_move 25 = .ok (.iconst 0, 1) := by decide +kernel
theorem dL_move_26 : decode cL_move 26 = .ok (.ireturn, 1) := by decide +kernel
theorem dL_openingKeys_0 : decode cL_openingKeys 0 = .ok (.aload_n 2, 1) := by decide +kernel
theorem dL_openingKeys_1 : decode cL_openingKeys 1 = .ok (.iconst 0, 1) := by decide +kernel
theorem dL_openingKeys_2 : decode cL_openingKeys 2 = .ok (.aload_n 0, 1) := by decide +kernel
theorem dL_openingKeys_3 : decode cL_openingKeys 3 = .ok (.iload_n 1, 1) := by decide +kernel
theorem dL_openingKeys_4 : decode cL_openingKeys 4 = .ok (.invokevirtual 99, 3) := by decide +kernel
theorem dL_openingKeys_7 : decode cL_openingKeys 7 = .ok (.i2l, 1) := by decide +kernel
theorem dL_openingKeys_8 : decode cL_openingKeys 8 = .ok (.lastore, 1) := by decide +kernel
theorem dL_openingKeys_9 : decode cL_openingKeys 9 = .ok (.goto 6, 3) := by decide +kernel
theorem dL_openingKeys_12 : decode cL_openingKeys 12 = .ok (.astore_n 3, 1) := by decide +kernel
theorem dL_openingKeys_13 : decode cL_openingKeys 13 = .ok (.iconst 1, 1) := by decide +kernel
theorem dL_openingKeys_14 : decode cL_openingKeys 14 = .ok (.ireturn, 1) := by decide +kernel
theorem dL_openingKeys_15 : decode cL_openingKeys 15 = .ok (.iconst 0, 1) := by decide +kernel
theorem dL_openingKeys_16 : decode cL_openingKeys 16 = .ok (.ireturn, 1) := by decide +kernel
theorem dL_addMedium_0 : decode cL_addMedium 0 = .ok (.aload_n 1, 1) := by decide +kernel
theorem dL_addMedium_1 : decode cL_addMedium 1 = .ok (.iconst 0, 1) := by decide +kernel
theorem dL_addMedium_2 : decode cL_addMedium 2 = .ok (.aload_n 0, 1) := by decide +kernel
theorem dL_addMedium_3 : decode cL_addMedium 3 = .ok (.invokevirtual 102, 3) := by decide +kernel
theorem dL_addMedium_6 : decode cL_addMedium 6 = .ok (.i2l, 1) := by decide +kernel
theorem dL_addMedium_7 : decode cL_addMedium 7 = .ok (.lastore, 1) := by decide +kernel
theorem dL_addMedium_8 : decode cL_addMedium 8 = .ok (.goto 6, 3) := by decide +kernel
theorem dL_addMedium_11 : decode cL_addMedium 11 = .ok (.astore_n 2, 1) := by decide +kernel
theorem dL_addMedium_12 : decode cL_addMedium 12 = .ok (.iconst 1, 1) := by decide +kernel
theorem dL_addMedium_13 : decode cL_addMedium 13 = .ok (.ireturn, 1) := by decide +kernel
theorem dL_addMedium_14 : decode cL_addMedium 14 = .ok (.iconst 0, 1) := by decide +kernel
theorem dL_addMedium_15 : decode cL_addMedium 15 = .ok (.ireturn, 1) := by decide +kernel
theorem dL_medium_0 : decode cL_medium 0 = .ok (.aload_n 3, 1) := by decide +kernel
theorem dL_medium_1 : decode cL_medium 1 = .ok (.iconst 0, 1) := by decide +kernel
theorem dL_medium_2 : decode cL_medium 2 = .ok (.aload_n 0, 1) := by decide +kernel
theorem dL_medium_3 : decode cL_medium 3 = .ok (.iload_n 1, 1) := by decide +kernel
theorem dL_medium_4 : decode cL_medium 4 = .ok (.iload_n 2, 1) := by decide +kernel
theorem dL_medium_5 : decode cL_medium 5 = .ok (.invokevirtual 106, 3) := by decide +kernel
theorem dL_medium_8 : decode cL_medium 8 = .ok (.i2l, 1) := by decide +kernel
theorem dL_medium_9 : decode cL_medium 9 = .ok (.lastore, 1) := by decide +kernel
theorem dL_medium_10 : decode cL_medium 10 = .ok (.goto 11, 3) := by decide +kernel
theorem dL_medium_13 : decode cL_medium 13 = .ok (.astore 4, 2) := by decide +kernel
theorem dL_medium_15 : decode cL_medium 15 = .ok (.iconst 1, 1) := by decide +kernel
theorem dL_medium_16 : decode cL_medium 16 = .ok (.ireturn, 1) := by decide +kernel
theorem dL_medium_17 : decode cL_medium 17 = .ok (.astore 4, 2) := by decide +kernel
theorem dL_medium_19 : decode cL_medium 19 = .ok (.iconst 2, 1) := by decide +kernel
theorem dL_medium_20 : decode cL_medium 20 = .ok (.ireturn, 1) := by decide +kernel
theorem dL_medium_21 : decode cL_medium 21 = .ok (.iconst 0, 1) := by decide +kernel
theorem dL_medium_22 : decode cL_medium 22 = .ok (.ireturn, 1) := by decide +kernel
theorem dL_entry_0 : decode cL_entry 0 = .ok (.aload 4, 2) := by decide +kernel
theorem dL_entry_2 : decode cL_entry 2 = .ok (.iconst 0, 1) := by decide +kernel
theorem dL_entry_3 : decode cL_entry 3 = .ok (.aload_n 0, 1) := by decide +kernel
theorem dL_entry_4 : decode cL_entry 4 = .ok (.iload_n 1, 1) := by decide +kernel
theorem dL_entry_5 : decode cL_entry 5 = .ok (.iload_n 2, 1) := by decide +kernel
theorem dL_entry_6 : decode cL_entry 6 = .ok (.iload_n 3, 1) := by decide +kernel
theorem dL_entry_7 : decode cL_entry 7 = .ok (.invokevirtual 109, 3) := by decide +kernel
theorem dL_entry_10 : decode cL_entry 10 = .ok (.lastore, 1) := by decide +kernel
theorem dL_entry_11 : decode cL_entry 11 = .ok (.goto 11, 3) := by decide +kernel
theorem dL_entry_14 : decode cL_entry 14 = .ok (.astore 5, 2) := by decide +kernel
theorem dL_entry_16 : decode cL_entry 16 = .ok (.iconst 1, 1) := by decide +kernel
theorem dL_entry_17 : decode cL_entry 17 = .ok (.ireturn, 1) := by decide +kernel
theorem dL_entry_18 : decode cL_entry 18 = .ok (.astore 5, 2) := by decide +kernel
theorem dL_entry_20 : decode cL_entry 20 = .ok (.iconst 2, 1) := by decide +kernel
theorem dL_entry_21 : decode cL_entry 21 = .ok (.ireturn, 1) := by decide +kernel
theorem dL_entry_22 : decode cL_entry 22 = .ok (.iconst 0, 1) := by decide +kernel
theorem dL_entry_23 : decode cL_entry 23 = .ok (.ireturn, 1) := by decide +kernel
theorem dL_lose_0 : decode cL_lose 0 = .ok (.aload_n 2, 1) := by decide +kernel
theorem dL_lose_1 : decode cL_lose 1 = .ok (.iconst 0, 1) := by decide +kernel
theorem dL_lose_2 : decode cL_lose 2 = .ok (.aload_n 0, 1) := by decide +kernel
theorem dL_lose_3 : decode cL_lose 3 = .ok (.iload_n 1, 1) := by decide +kernel
theorem dL_lose_4 : decode cL_lose 4 = .ok (.invokevirtual 113, 3) := by decide +kernel
theorem dL_lose_7 : decode cL_lose 7 = .ok (.i2l, 1) := by decide +kernel
theorem dL_lose_8 : decode cL_lose 8 = .ok (.lastore, 1) := by decide +kernel
theorem dL_lose_9 : decode cL_lose 9 = .ok (.goto 9, 3) := by decide +kernel
theorem dL_lose_12 : decode cL_lose 12 = .ok (.astore_n 3, 1) := by decide +kernel
theorem dL_lose_13 : decode cL_lose 13 = .ok (.iconst 1, 1) := by decide +kernel
theorem dL_lose_14 : decode cL_lose 14 = .ok (.ireturn, 1) := by decide +kernel
theorem dL_lose_15 : decode cL_lose 15 = .ok (.astore_n 3, 1) := by decide +kernel
theorem dL_lose_16 : decode cL_lose 16 = .ok (.iconst 2, 1) := by decide +kernel
theorem dL_lose_17 : decode cL_lose 17 = .ok (.ireturn, 1) := by decide +kernel
theorem dL_lose_18 : decode cL_lose 18 = .ok (.iconst 0, 1) := by decide +kernel
theorem dL_lose_19 : decode cL_lose 19 = .ok (.ireturn, 1) := by decide +kernel
theorem dL_destroy_0 : decode cL_destroy 0 = .ok (.aload_n 2, 1) := by decide +kernel
theorem dL_destroy_1 : decode cL_destroy 1 = .ok (.iconst 0, 1) := by decide +kernel
theorem dL_destroy_2 : decode cL_destroy 2 = .ok (.aload_n 0, 1) := by decide +kernel
theorem dL_destroy_3 : decode cL_destroy 3 = .ok (.iload_n 1, 1) := by decide +kernel
theorem dL_destroy_4 : decode cL_destroy 4 = .ok (.invokevirtual 116, 3) := by decide +kernel
theorem dL_destroy_7 : decode cL_destroy 7 = .ok (.i2l, 1) := by decide +kernel
theorem dL_destroy_8 : decode cL_destroy 8 = .ok (.lastore, 1) := by decide +kernel
theorem dL_destroy_9 : decode cL_destroy 9 = .ok (.goto 9, 3) := by decide +kernel
theorem dL_destroy_12 : decode cL_destroy 12 = .ok (.astore_n 3, 1) := by decide +kernel
theorem dL_destroy_13 : decode cL_destroy 13 = .ok (.iconst 1, 1) := by decide +kernel
theorem dL_destroy_14 : decode cL_destroy 14 = .ok (.ireturn, 1) := by decide +kernel
theorem dL_destroy_15 : decode cL_destroy 15 = .ok (.astore_n 3, 1) := by decide +kernel
theorem dL_destroy_16 : decode cL_destroy 16 = .ok (.iconst 2, 1) := by decide +kernel
theorem dL_destroy_17 : decode cL_destroy 17 = .ok (.ireturn, 1) := by decide +kernel
theorem dL_destroy_18 : decode cL_destroy 18 = .ok (.iconst 0, 1) := by decide +kernel
theorem dL_destroy_19 : decode cL_destroy 19 = .ok (.ireturn, 1) := by decide +kernel
theorem dL_migrate_0 : decode cL_migrate 0 = .ok (.aload_n 2, 1) := by decide +kernel
theorem dL_migrate_1 : decode cL_migrate 1 = .ok (.iconst 0, 1) := by decide +kernel
theorem dL_migrate_2 : decode cL_migrate 2 = .ok (.aload_n 0, 1) := by decide +kernel
theorem dL_migrate_3 : decode cL_migrate 3 = .ok (.iload_n 1, 1) := by decide +kernel
theorem dL_migrate_4 : decode cL_migrate 4 = .ok (.invokevirtual 119, 3) := by decide +kernel
theorem dL_migrate_7 : decode cL_migrate 7 = .ok (.i2l, 1) := by decide +kernel
theorem dL_migrate_8 : decode cL_migrate 8 = .ok (.lastore, 1) := by decide +kernel
theorem dL_migrate_9 : decode cL_migrate 9 = .ok (.goto 9, 3) := by decide +kernel
theorem dL_migrate_12 : decode cL_migrate 12 = .ok (.astore_n 3, 1) := by decide +kernel
theorem dL_migrate_13 : decode cL_migrate 13 = .ok (.iconst 1, 1) := by decide +kernel
theorem dL_migrate_14 : decode cL_migrate 14 = .ok (.ireturn, 1) := by decide +kernel
theorem dL_migrate_15 : decode cL_migrate 15 = .ok (.astore_n 3, 1) := by decide +kernel
theorem dL_migrate_16 : decode cL_migrate 16 = .ok (.iconst 2, 1) := by decide +kernel
theorem dL_migrate_17 : decode cL_migrate 17 = .ok (.ireturn, 1) := by decide +kernel
theorem dL_migrate_18 : decode cL_migrate 18 = .ok (.iconst 0, 1) := by decide +kernel
theorem dL_migrate_19 : decode cL_migrate 19 = .ok (.ireturn, 1) := by decide +kernel
theorem dL_redundancy_0 : decode cL_redundancy 0 = .ok (.aload_n 2, 1) := by decide +kernel
theorem dL_redundancy_1 : decode cL_redundancy 1 = .ok (.iconst 0, 1) := by decide +kernel
theorem dL_redundancy_2 : decode cL_redundancy 2 = .ok (.aload_n 0, 1) := by decide +kernel
theorem dL_redundancy_3 : decode cL_redundancy 3 = .ok (.iload_n 1, 1) := by decide +kernel
theorem dL_redundancy_4 : decode cL_redundancy 4 = .ok (.invokevirtual 122, 3) := by decide +kernel
theorem dL_redundancy_7 : decode cL_redundancy 7 = .ok (.i2l, 1) := by decide +kernel
theorem dL_redundancy_8 : decode cL_redundancy 8 = .ok (.lastore, 1) := by decide +kernel
theorem dL_redundancy_9 : decode cL_redundancy 9 = .ok (.goto 6, 3) := by decide +kernel
theorem dL_redundancy_12 : decode cL_redundancy 12 = .ok (.astore_n 3, 1) := by decide +kernel
theorem dL_redundancy_13 : decode cL_redundancy 13 = .ok (.iconst 1, 1) := by decide +kernel
theorem dL_redundancy_14 : decode cL_redundancy 14 = .ok (.ireturn, 1) := by decide +kernel
theorem dL_redundancy_15 : decode cL_redundancy 15 = .ok (.iconst 0, 1) := by decide +kernel
theorem dL_redundancy_16 : decode cL_redundancy 16 = .ok (.ireturn, 1) := by decide +kernel
theorem dL_duplicate_0 : decode cL_duplicate 0 = .ok (.aload_n 1, 1) := by decide +kernel
theorem dL_duplicate_1 : decode cL_duplicate 1 = .ok (.iconst 0, 1) := by decide +kernel
theorem dL_duplicate_2 : decode cL_duplicate 2 = .ok (.aload_n 0, 1) := by decide +kernel
theorem dL_duplicate_3 : decode cL_duplicate 3 = .ok (.invokevirtual 125, 3) := by decide +kernel
theorem dL_duplicate_6 : decode cL_duplicate 6 = .ok (.i2l, 1) := by decide +kernel
theorem dL_duplicate_7 : decode cL_duplicate 7 = .ok (.lastore, 1) := by decide +kernel
theorem dL_duplicate_8 : decode cL_duplicate 8 = .ok (.goto 6, 3) := by decide +kernel
theorem dL_duplicate_11 : decode cL_duplicate 11 = .ok (.astore_n 2, 1) := by decide +kernel
theorem dL_duplicate_12 : decode cL_duplicate 12 = .ok (.iconst 1, 1) := by decide +kernel
theorem dL_duplicate_13 : decode cL_duplicate 13 = .ok (.ireturn, 1) := by decide +kernel
theorem dL_duplicate_14 : decode cL_duplicate 14 = .ok (.iconst 0, 1) := by decide +kernel
theorem dL_duplicate_15 : decode cL_duplicate 15 = .ok (.ireturn, 1) := by decide +kernel
theorem dL_hash_0 : decode cL_hash 0 = .ok (.aload_n 2, 1) := by decide +kernel
theorem dL_hash_1 : decode cL_hash 1 = .ok (.iconst 0, 1) := by decide +kernel
theorem dL_hash_2 : decode cL_hash 2 = .ok (.aload_n 0, 1) := by decide +kernel
theorem dL_hash_3 : decode cL_hash 3 = .ok (.iload_n 1, 1) := by decide +kernel
theorem dL_hash_4 : decode cL_hash 4 = .ok (.invokevirtual 128, 3) := by decide +kernel
theorem dL_hash_7 : decode cL_hash 7 = .ok (.i2l, 1) := by decide +kernel
theorem dL_hash_8 : decode cL_hash 8 = .ok (.lastore, 1) := by decide +kernel
theorem dL_hash_9 : decode cL_hash 9 = .ok (.goto 6, 3) := by decide +kernel
theorem dL_hash_12 : decode cL_hash 12 = .ok (.astore_n 3, 1) := by decide +kernel
theorem dL_hash_13 : decode cL_hash 13 = .ok (.iconst 1, 1) := by decide +kernel
theorem dL_hash_14 : decode cL_hash 14 = .ok (.ireturn, 1) := by decide +kernel
theorem dL_hash_15 : decode cL_hash 15 = .ok (.iconst 0, 1) := by decide +kernel
theorem dL_hash_16 : decode cL_hash 16 = .ok (.ireturn, 1) := by decide +kernel
theorem dL_keepProof_0 : decode cL_keepProof 0 = .ok (.aload_n 3, 1) := by decide +kernel
theorem dL_keepProof_1 : decode cL_keepProof 1 = .ok (.iconst 0, 1) := by decide +kernel
theorem dL_keepProof_2 : decode cL_keepProof 2 = .ok (.aload_n 0, 1) := by decide +kernel
theorem dL_keepProof_3 : decode cL_keepProof 3 = .ok (.iload_n 1, 1) := by decide +kernel
theorem dL_keepProof_4 : decode cL_keepProof 4 = .ok (.iload_n 2, 1) := by decide +kernel
theorem dL_keepProof_5 : decode cL_keepProof 5 = .ok (.invokevirtual 131, 3) := by decide +kernel
theorem dL_keepProof_8 : decode cL_keepProof 8 = .ok (.i2l, 1) := by decide +kernel
theorem dL_keepProof_9 : decode cL_keepProof 9 = .ok (.lastore, 1) := by decide +kernel
theorem dL_keepProof_10 : decode cL_keepProof 10 = .ok (.goto 7, 3) := by decide +kernel
theorem dL_keepProof_13 : decode cL_keepProof 13 = .ok (.astore 4, 2) := by decide +kernel
theorem dL_keepProof_15 : decode cL_keepProof 15 = .ok (.iconst 1, 1) := by decide +kernel
theorem dL_keepProof_16 : decode cL_keepProof 16 = .ok (.ireturn, 1) := by decide +kernel
theorem dL_keepProof_17 : decode cL_keepProof 17 = .ok (.iconst 0, 1) := by decide +kernel
theorem dL_keepProof_18 : decode cL_keepProof 18 = .ok (.ireturn, 1) := by decide +kernel
theorem dL_proofNumber_0 : decode cL_proofNumber 0 = .ok (.aload_n 3, 1) := by decide +kernel
theorem dL_proofNumber_1 : decode cL_proofNumber 1 = .ok (.iconst 0, 1) := by decide +kernel
theorem dL_proofNumber_2 : decode cL_proofNumber 2 = .ok (.aload_n 0, 1) := by decide +kernel
theorem dL_proofNumber_3 : decode cL_proofNumber 3 = .ok (.iload_n 1, 1) := by decide +kernel
theorem dL_proofNumber_4 : decode cL_proofNumber 4 = .ok (.iload_n 2, 1) := by decide +kernel
theorem dL_proofNumber_5 : decode cL_proofNumber 5 = .ok (.invokevirtual 134, 3) := by decide +kernel
theorem dL_proofNumber_8 : decode cL_proofNumber 8 = .ok (.i2l, 1) := by decide +kernel
theorem dL_proofNumber_9 : decode cL_proofNumber 9 = .ok (.lastore, 1) := by decide +kernel
theorem dL_proofNumber_10 : decode cL_proofNumber 10 = .ok (.goto 11, 3) := by decide +kernel
theorem dL_proofNumber_13 : decode cL_proofNumber 13 = .ok (.astore 4, 2) := by decide +kernel
theorem dL_proofNumber_15 : decode cL_proofNumber 15 = .ok (.iconst 1, 1) := by decide +kernel
theorem dL_proofNumber_16 : decode cL_proofNumber 16 = .ok (.ireturn, 1) := by decide +kernel
theorem dL_proofNumber_17 : decode cL_proofNumber 17 = .ok (.astore 4, 2) := by decide +kernel
theorem dL_proofNumber_19 : decode cL_proofNumber 19 = .ok (.iconst 2, 1) := by decide +kernel
theorem dL_proofNumber_20 : decode cL_proofNumber 20 = .ok (.ireturn, 1) := by decide +kernel
theorem dL_proofNumber_21 : decode cL_proofNumber 21 = .ok (.iconst 0, 1) := by decide +kernel
theorem dL_proofNumber_22 : decode cL_proofNumber 22 = .ok (.ireturn, 1) := by decide +kernel
theorem dL_proofHash_0 : decode cL_proofHash 0 = .ok (.aload_n 2, 1) := by decide +kernel
theorem dL_proofHash_1 : decode cL_proofHash 1 = .ok (.iconst 0, 1) := by decide +kernel
theorem dL_proofHash_2 : decode cL_proofHash 2 = .ok (.aload_n 0, 1) := by decide +kernel
theorem dL_proofHash_3 : decode cL_proofHash 3 = .ok (.iload_n 1, 1) := by decide +kernel
theorem dL_proofHash_4 : decode cL_proofHash 4 = .ok (.invokevirtual 137, 3) := by decide +kernel
theorem dL_proofHash_7 : decode cL_proofHash 7 = .ok (.i2l, 1) := by decide +kernel
theorem dL_proofHash_8 : decode cL_proofHash 8 = .ok (.lastore, 1) := by decide +kernel
theorem dL_proofHash_9 : decode cL_proofHash 9 = .ok (.goto 9, 3) := by decide +kernel
theorem dL_proofHash_12 : decode cL_proofHash 12 = .ok (.astore_n 3, 1) := by decide +kernel
theorem dL_proofHash_13 : decode cL_proofHash 13 = .ok (.iconst 1, 1) := by decide +kernel
theorem dL_proofHash_14 : decode cL_proofHash 14 = .ok (.ireturn, 1) := by decide +kernel
theorem dL_proofHash_15 : decode cL_proofHash 15 = .ok (.astore_n 3, 1) := by decide +kernel
theorem dL_proofHash_16 : decode cL_proofHash 16 = .ok (.iconst 2, 1) := by decide +kernel
theorem dL_proofHash_17 : decode cL_proofHash 17 = .ok (.ireturn, 1) := by decide +kernel
theorem dL_proofHash_18 : decode cL_proofHash 18 = .ok (.iconst 0, 1) := by decide +kernel
theorem dL_proofHash_19 : decode cL_proofHash 19 = .ok (.ireturn, 1) := by decide +kernel
theorem dL_proofHashWith_0 : decode cL_proofHashWith 0 = .ok (.aload_n 3, 1) := by decide +kernel
theorem dL_proofHashWith_1 : decode cL_proofHashWith 1 = .ok (.iconst 0, 1) := by decide +kernel
theorem dL_proofHashWith_2 : decode cL_proofHashWith 2 = .ok (.aload_n 0, 1) := by decide +kernel
theorem dL_proofHashWith_3 : decode cL_proofHashWith 3 = .ok (.iload_n 1, 1) := by decide +kernel
theorem dL_proofHashWith_4 : decode cL_proofHashWith 4 = .ok (.iload_n 2, 1) := by decide +kernel
theorem dL_proofHashWith_5 : decode cL_proofHashWith 5 = .ok (.invokevirtual 140, 3) := by decide +kernel
theorem dL_proofHashWith_8 : decode cL_proofHashWith 8 = .ok (.i2l, 1) := by decide +kernel
theorem dL_proofHashWith_9 : decode cL_proofHashWith 9 = .ok (.lastore, 1) := by decide +kernel
theorem dL_proofHashWith_10 : decode cL_proofHashWith 10 = .ok (.goto 11, 3) := by decide +kernel
theorem dL_proofHashWith_13 : decode cL_proofHashWith 13 = .ok (.astore 4, 2) := by decide +kernel
theorem dL_proofHashWith_15 : decode cL_proofHashWith 15 = .ok (.iconst 1, 1) := by decide +kernel
theorem dL_proofHashWith_16 : decode cL_proofHashWith 16 = .ok (.ireturn, 1) := by decide +kernel
theorem dL_proofHashWith_17 : decode cL_proofHashWith 17 = .ok (.astore 4, 2) := by decide +kernel
theorem dL_proofHashWith_19 : decode cL_proofHashWith 19 = .ok (.iconst 2, 1) := by decide +kernel
theorem dL_proofHashWith_20 : decode cL_proofHashWith 20 = .ok (.ireturn, 1) := by decide +kernel
theorem dL_proofHashWith_21 : decode cL_proofHashWith 21 = .ok (.iconst 0, 1) := by decide +kernel
theorem dL_proofHashWith_22 : decode cL_proofHashWith 22 = .ok (.ireturn, 1) := by decide +kernel
