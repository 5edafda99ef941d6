theorem dX9_write_17 : decode cX9_write 17 = .ok (.aload_n 0, 1) := by decide +kernel
theorem dX9_write_18 : decode cX9_write 18 = .ok (.getfield 74, 3) := by decide +kernel
theorem dX9_write_21 : decode cX9_write 21 = .ok (.iload_n 2, 1) := by decide +kernel
theorem dX9_write_22 : decode cX9_write 22 = .ok (.aaload, 1) := by decide +kernel
theorem dX9_write_23 : decode cX9_write 23 = .ok (.astore_n 3, 1) := by decide +kernel
theorem dX9_write_24 : decode cX9_write 24 = .ok (.aload_n 3, 1) := by decide +kernel
theorem dX9_write_25 : decode cX9_write 25 = .ok (.getfield 145, 3) := by decide +kernel
theorem dX9_write_28 : decode cX9_write 28 = .ok (.ifCond .ge 9, 3) := by decide +kernel
theorem dX9_write_31 : decode cX9_write 31 = .ok (.aload_n 0, 1) := by decide +kernel
theorem dX9_write_32 : decode cX9_write 32 = .ok (.iconst 1, 1) := by decide +kernel
theorem dX9_write_33 : decode cX9_write 33 = .ok (.invokevirtual 146, 3) := by decide +kernel
theorem dX9_write_36 : decode cX9_write 36 = .ok (.ireturn, 1) := by decide +kernel
theorem dX9_write_37 : decode cX9_write 37 = .ok (.aload_n 0, 1) := by decide +kernel
theorem dX9_write_38 : decode cX9_write 38 = .ok (.invokevirtual 103, 3) := by decide +kernel
theorem dX9_write_41 : decode cX9_write 41 = .ok (.aload_n 3, 1) := by decide +kernel
theorem dX9_write_42 : decode cX9_write 42 = .ok (.getfield 145, 3) := by decide +kernel
theorem dX9_write_45 : decode cX9_write 45 = .ok (.bipush 24, 2) := by decide +kernel
theorem dX9_write_47 : decode cX9_write 47 = .ok (.invokestatic 266, 3) := by decide +kernel
theorem dX9_write_50 : decode cX9_write 50 = .ok (.istore 4, 2) := by decide +kernel
theorem dX9_write_52 : decode cX9_write 52 = .ok (.iconst 0, 1) := by decide +kernel
theorem dX9_write_53 : decode cX9_write 53 = .ok (.istore 5, 2) := by decide +kernel
theorem dX9_write_55 : decode cX9_write 55 = .ok (.iload 5, 2) := by decide +kernel
theorem dX9_write_57 : decode cX9_write 57 = .ok (.iload 4, 2) := by decide +kernel
theorem dX9_write_59 : decode cX9_write 59 = .ok (.if_icmp .ge 44, 3) := by decide +kernel
theorem dX9_write_62 : decode cX9_write 62 = .ok (.aload_n 3, 1) := by decide +kernel
theorem dX9_write_63 : decode cX9_write 63 = .ok (.iload 5, 2) := by decide +kernel
theorem dX9_write_65 : decode cX9_write 65 = .ok (.iload_n 1, 1) := by decide +kernel
theorem dX9_write_66 : decode cX9_write 66 = .ok (.ifCond .ne 19, 3) := by decide +kernel
theorem dX9_write_69 : decode cX9_write 69 = .ok (.aload_n 0, 1) := by decide +kernel
theorem dX9_write_70 : decode cX9_write 70 = .ok (.getfield 52, 3) := by decide +kernel
theorem dX9_write_73 : decode cX9_write 73 = .ok (.getfield 156, 3) := by decide +kernel
theorem dX9_write_76 : decode cX9_write 76 = .ok (.iload 5, 2) := by decide +kernel
theorem dX9_write_78 : decode cX9_write 78 = .ok (.aaload, 1) := by decide +kernel
theorem dX9_write_79 : decode cX9_write 79 = .ok (.getfield 168, 3) := by decide +kernel
theorem dX9_write_82 : decode cX9_write 82 = .ok (.goto 12, 3) := by decide +kernel
theorem dX9_write_85 : decode cX9_write 85 = .ok (.aload_n 0, 1) := by decide +kernel
theorem dX9_write_86 : decode cX9_write 86 = .ok (.getfield 52, 3) := by decide +kernel
theorem dX9_write_89 : decode cX9_write 89 = .ok (.iload 5, 2) := by decide +kernel
theorem dX9_write_91 : decode cX9_write 91 = .ok (.invokevirtual 171, 3) := by decide +kernel
theorem dX9_write_94 : decode cX9_write 94 = .ok (.invokevirtual 248, 3) := by decide +kernel
theorem dX9_write_97 : decode cX9_write 97 = .ok (.iinc 5 1, 3) := by decide +kernel
theorem dX9_write_100 : decode cX9_write 100 = .ok (.goto (-45), 3) := by decide +kernel
theorem dX9_write_103 : decode cX9_write 103 = .ok (.iload 4, 2) := by decide +kernel
theorem dX9_write_105 : decode cX9_write 105 = .ok (.ireturn, 1) := by decide +kernel
theorem dX9_count_0 : decode cX9_count 0 = .ok (.aload_n 0, 1) := by decide +kernel
theorem dX9_count_1 : decode cX9_count 1 = .ok (.invokevirtual 103, 3) := by decide +kernel
theorem dX9_count_4 : decode cX9_count 4 = .ok (.aload_n 0, 1) := by decide +kernel
theorem dX9_count_5 : decode cX9_count 5 = .ok (.iload_n 1, 1) := by decide +kernel
theorem dX9_count_6 : decode cX9_count 6 = .ok (.invokevirtual 271, 3) := by decide +kernel
theorem dX9_count_9 : decode cX9_count 9 = .ok (.ireturn, 1) := by decide +kernel
theorem dX9_digest_0 : decode cX9_digest 0 = .ok (.aload_n 0, 1) := by decide +kernel
theorem dX9_digest_1 : decode cX9_digest 1 = .ok (.invokevirtual 103, 3) := by decide +kernel
theorem dX9_digest_4 : decode cX9_digest 4 = .ok (.ldc2_w 274, 3) := by decide +kernel
theorem dX9_digest_7 : decode cX9_digest 7 = .ok (.lstore_n 1, 1) := by decide +kernel
theorem dX9_digest_8 : decode cX9_digest 8 = .ok (.iconst 0, 1) := by decide +kernel
theorem dX9_digest_9 : decode cX9_digest 9 = .ok (.istore_n 3, 1) := by decide +kernel
theorem dX9_digest_10 : decode cX9_digest 10 = .ok (.iload_n 3, 1) := by decide +kernel
theorem dX9_digest_11 : decode cX9_digest 11 = .ok (.bipush 8, 2) := by decide +kernel
theorem dX9_digest_13 : decode cX9_digest 13 = .ok (.if_icmp .ge 22, 3) := by decide +kernel
theorem dX9_digest_16 : decode cX9_digest 16 = .ok (.ldc2_w 276, 3) := by decide +kernel
theorem dX9_digest_19 : decode cX9_digest 19 = .ok (.lload_n 1, 1) := by decide +kernel
theorem dX9_digest_20 : decode cX9_digest 20 = .ok (.lmul, 1) := by decide +kernel
theorem dX9_digest_21 : decode cX9_digest 21 = .ok (.aload_n 0, 1) := by decide +kernel
theorem dX9_digest_22 : decode cX9_digest 22 = .ok (.iload_n 3, 1) := by decide +kernel
theorem dX9_digest_23 : decode cX9_digest 23 = .ok (.invokevirtual 271, 3) := by decide +kernel
theorem dX9_digest_26 : decode cX9_digest 26 = .ok (.i2l, 1) := by decide +kernel
theorem dX9_digest_27 : decode cX9_digest 27 = .ok (.ladd, 1) := by decide +kernel
theorem dX9_digest_28 : decode cX9_digest 28 = .ok (.lstore_n 1, 1) := by decide +kernel
theorem dX9_digest_29 : decode cX9_digest 29 = .ok (.iinc 3 1, 3) := by decide +kernel
theorem dX9_digest_32 : decode cX9_digest 32 = .ok (.goto (-22), 3) := by decide +kernel
theorem dX9_digest_35 : decode cX9_digest 35 = .ok (.ldc2_w 276, 3) := by decide +kernel
theorem dX9_digest_38 : decode cX9_digest 38 = .ok (.lload_n 1, 1) := by decide +kernel
theorem dX9_digest_39 : decode cX9_digest 39 = .ok (.lmul, 1) := by decide +kernel
theorem dX9_digest_40 : decode cX9_digest 40 = .ok (.aload_n 0, 1) := by decide +kernel
theorem dX9_digest_41 : decode cX9_digest 41 = .ok (.getfield 18, 3) := by decide +kernel
theorem dX9_digest_44 : decode cX9_digest 44 = .ok (.invokevirtual 99, 3) := by decide +kernel
theorem dX9_digest_47 : decode cX9_digest 47 = .ok (.i2l, 1) := by decide +kernel
theorem dX9_digest_48 : decode cX9_digest 48 = .ok (.ladd, 1) := by decide +kernel
theorem dX9_digest_49 : decode cX9_digest 49 = .ok (.lstore_n 1, 1) := by decide +kernel
theorem dX9_digest_50 : decode cX9_digest 50 = .ok (.ldc2_w 276, 3) := by decide +kernel
theorem dX9_digest_53 : decode cX9_digest 53 = .ok (.lload_n 1, 1) := by decide +kernel
theorem dX9_digest_54 : decode cX9_digest 54 = .ok (.lmul, 1) := by decide +kernel
theorem dX9_digest_55 : decode cX9_digest 55 = .ok (.aload_n 0, 1) := by decide +kernel
theorem dX9_digest_56 : decode cX9_digest 56 = .ok (.getfield 30, 3) := by decide +kernel
theorem dX9_digest_59 : decode cX9_digest 59 = .ok (.invokevirtual 99, 3) := by decide +kernel
theorem dX9_digest_62 : decode cX9_digest 62 = .ok (.i2l, 1) := by decide +kernel
theorem dX9_digest_63 : decode cX9_digest 63 = .ok (.ladd, 1) := by decide +kernel
theorem dX9_digest_64 : decode cX9_digest 64 = .ok (.lstore_n 1, 1) := by decide +kernel
theorem dX9_digest_65 : decode cX9_digest 65 = .ok (.iconst 0, 1) := by decide +kernel
theorem dX9_digest_66 : decode cX9_digest 66 = .ok (.istore_n 3, 1) := by decide +kernel
theorem dX9_digest_67 : decode cX9_digest 67 = .ok (.iload_n 3, 1) := by decide +kernel
theorem dX9_digest_68 : decode cX9_digest 68 = .ok (.aload_n 0, 1) := by decide +kernel
theorem dX9_digest_69 : decode cX9_digest 69 = .ok (.getfield 36, 3) := by decide +kernel
theorem dX9_digest_72 : decode cX9_digest 72 = .ok (.getfield 278, 3) := by decide +kernel
theorem dX9_digest_75 : decode cX9_digest 75 = .ok (.if_icmp .ge 21, 3) := by decide +kernel
theorem dX9_digest_78 : decode cX9_digest 78 = .ok (.aload_n 0, 1) := by decide +kernel
theorem dX9_digest_79 : decode cX9_digest 79 = .ok (.aload_n 0, 1) := by decide +kernel
theorem dX9_digest_80 : decode cX9_digest 80 = .ok (.lload_n 1, 1) := by decide +kernel
theorem dX9_digest_81 : decode cX9_digest 81 = .ok (.iload_n 3, 1) := by decide +kernel
theorem dX9_digest_82 : decode cX9_digest 82 = .ok (.invokevirtual 281, 3) := by decide +kernel
theorem dX9_digest_85 : decode cX9_digest 85 = .ok (.iload_n 3, 1) := by decide +kernel
theorem dX9_digest_86 : decode cX9_digest 86 = .ok (.invokevirtual 285, 3) := by decide +kernel
theorem dX9_digest_89 : decode cX9_digest 89 = .ok (.lstore_n 1, 1) := by decide +kernel
theorem dX9_digest_90 : decode cX9_digest 90 = .ok (.iinc 3 1, 3) := by decide +kernel
theorem dX9_digest_93 : decode cX9_digest 93 = .ok (.goto (-26), 3) := by decide +kernel
theorem dX9_digest_96 : decode cX9_digest 96 = .ok (.iconst 0, 1) := by decide +kernel
theorem dX9_digest_97 : decode cX9_digest 97 = .ok (.istore_n 3, 1) := by decide +kernel
theorem dX9_digest_98 : decode cX9_digest 98 = .ok (.iload_n 3, 1) := by decide +kernel
theorem dX9_digest_99 : decode cX9_digest 99 = .ok (.aload_n 0, 1) := by decide +kernel
theorem dX9_digest_100 : decode cX9_digest 100 = .ok (.getfield 36, 3) := by decide +kernel
theorem dX9_digest_103 : decode cX9_digest 103 = .ok (.getfield 288, 3) := by decide +kernel
theorem dX9_digest_106 : decode cX9_digest 106 = .ok (.if_icmp .ge 16, 3) := by decide +kernel
theorem dX9_digest_109 : decode cX9_digest 109 = .ok (.aload_n 0, 1) := by decide +kernel
theorem dX9_digest_110 : decode cX9_digest 110 = .ok (.lload_n 1, 1) := by decide +kernel
theorem dX9_digest_111 : decode cX9_digest 111 = .ok (.iload_n 3, 1) := by decide +kernel
theorem dX9_digest_112 : decode cX9_digest 112 = .ok (.invokevirtual 291, 3) := by decide +kernel
theorem dX9_digest_115 : decode cX9_digest 115 = .ok (.lstore_n 1, 1) := by decide +kernel
theorem dX9_digest_116 : decode cX9_digest 116 = .ok (.iinc 3 1, 3) := by decide +kernel
theorem dX9_digest_119 : decode cX9_digest 119 = .ok (.goto (-21), 3) := by decide +kernel
theorem dX9_digest_122 : decode cX9_digest 122 = .ok (.aload_n 0, 1) := by decide +kernel
theorem dX9_digest_123 : decode cX9_digest 123 = .ok (.lload_n 1, 1) := by decide +kernel
theorem dX9_digest_124 : decode cX9_digest 124 = .ok (.iconst 0, 1) := by decide +kernel
theorem dX9_digest_125 : decode cX9_digest 125 = .ok (.invokevirtual 294, 3) := by decide +kernel
theorem dX9_digest_128 : decode cX9_digest 128 = .ok (.lstore_n 1, 1) := by decide +kernel
theorem dX9_digest_129 : decode cX9_digest 129 = .ok (.aload_n 0, 1) := by decide +kernel
theorem dX9_digest_130 : decode cX9_digest 130 = .ok (.lload_n 1, 1) := by decide +kernel
theorem dX9_digest_131 : decode cX9_digest 131 = .ok (.iconst 1, 1) := by decide +kernel
theorem dX9_digest_132 : decode cX9_digest 132 = .ok (.invokevirtual 294, 3) := by decide +kernel
theorem dX9_digest_135 : decode cX9_digest 135 = .ok (.lstore_n 1, 1) := by decide +kernel
theorem dX9_digest_136 : decode cX9_digest 136 = .ok (.aload_n 0, 1) := by decide +kernel
theorem dX9_digest_137 : decode cX9_digest 137 = .ok (.lload_n 1, 1) := by decide +kernel
theorem dX9_digest_138 : decode cX9_digest 138 = .ok (.iconst 5, 1) := by decide +kernel
theorem dX9_digest_139 : decode cX9_digest 139 = .ok (.invokevirtual 294, 3) := by decide +kernel
theorem dX9_digest_142 : decode cX9_digest 142 = .ok (.lstore_n 1, 1) := by decide +kernel
theorem dX9_digest_143 : decode cX9_digest 143 = .ok (.aload_n 0, 1) := by decide +kernel
theorem dX9_digest_144 : decode cX9_digest 144 = .ok (.lload_n 1, 1) := by decide +kernel
theorem dX9_digest_145 : decode cX9_digest 145 = .ok (.bipush 12, 2) := by decide +kernel
theorem dX9_digest_147 : decode cX9_digest 147 = .ok (.invokevirtual 294, 3) := by decide +kernel
theorem dX9_digest_150 : decode cX9_digest 150 = .ok (.lstore_n 1, 1) := by decide +kernel
theorem dX9_digest_151 : decode cX9_digest 151 = .ok (.aload_n 0, 1) := by decide +kernel
theorem dX9_digest_152 : decode cX9_digest 152 = .ok (.lload_n 1, 1) := by decide +kernel
theorem dX9_digest_153 : decode cX9_digest 153 = .ok (.bipush 23, 2) := by decide +kernel
theorem dX9_digest_155 : decode cX9_digest 155 = .ok (.invokevirtual 294, 3) := by decide +kernel
theorem dX9_digest_158 : decode cX9_digest 158 = .ok (.lstore_n 1, 1) := by decide +kernel
theorem dX9_digest_159 : decode cX9_digest 159 = .ok (.iconst 0, 1) := by decide +kernel
theorem dX9_digest_160 : decode cX9_digest 160 = .ok (.istore_n 3, 1) := by decide +kernel
theorem dX9_digest_161 : decode cX9_digest 161 = .ok (.iload_n 3, 1) := by decide +kernel
theorem dX9_digest_162 : decode cX9_digest 162 = .ok (.aload_n 0, 1) := by decide +kernel
theorem dX9_digest_163 : decode cX9_digest 163 = .ok (.getfield 43, 3) := by decide +kernel
theorem dX9_digest_166 : decode cX9_digest 166 = .ok (.getfield 136, 3) := by decide +kernel
theorem dX9_digest_169 : decode cX9_digest 169 = .ok (.if_icmp .ge 28, 3) := by decide +kernel
theorem dX9_digest_172 : decode cX9_digest 172 = .ok (.ldc2_w 276, 3) := by decide +kernel
theorem dX9_digest_175 : decode cX9_digest 175 = .ok (.lload_n 1, 1) := by decide +kernel
theorem dX9_digest_176 : decode cX9_digest 176 = .ok (.lmul, 1) := by decide +kernel
theorem dX9_digest_177 : decode cX9_digest 177 = .ok (.aload_n 0, 1) := by decide +kernel
theorem dX9_digest_178 : decode cX9_digest 178 = .ok (.getfield 52, 3) := by decide +kernel
theorem dX9_digest_181 : decode cX9_digest 181 = .ok (.getfield 174, 3) := by decide +kernel
theorem dX9_digest_184 : decode cX9_digest 184 = .ok (.iload_n 3, 1) := by decide +kernel
theorem dX9_digest_185 : decode cX9_digest 185 = .ok (.ishr, 1) := by decide +kernel
theorem dX9_digest_186 : decode cX9_digest 186 = .ok (.iconst 1, 1) := by decide +kernel
theorem dX9_digest_187 : decode cX9_digest 187 = .ok (.iand, 1) := by decide +kernel
theorem dX9_digest_188 : decode cX9_digest 188 = .ok (.i2l, 1) := by decide +kernel
theorem dX9_digest_189 : decode cX9_digest 189 = .ok (.ladd, 1) := by decide +kernel
theorem dX9_digest_190 : decode cX9_digest 190 = .ok (.lstore_n 1, 1) := by decide +kernel
theorem dX9_digest_191 : decode cX9_digest 191 = .ok (.iinc 3 1, 3) := by decide +kernel
theorem dX9_digest_194 : decode cX9_digest 194 = .ok (.goto (-33), 3) := by decide +kernel
theorem dX9_digest_197 : decode cX9_digest 197 = .ok (.ldc2_w 276, 3) := by decide +kernel
theorem dX9_digest_200 : decode cX9_digest 200 = .ok (.lload_n 1, 1) := by decide +kernel
theorem dX9_digest_201 : decode cX9_digest 201 = .ok (.lmul, 1) := by decide +kernel
theorem dX9_digest_202 : decode cX9_digest 202 = .ok (.aload_n 0, 1) := by decide +kernel
theorem dX9_digest_203 : decode cX9_digest 203 = .ok (.getfield 52, 3) := by decide +kernel
theorem dX9_digest_206 : decode cX9_digest 206 = .ok (.invokevirtual 177, 3) := by decide +kernel
theorem dX9_digest_209 : decode cX9_digest 209 = .ok (.i2l, 1) := by decide +kernel
theorem dX9_digest_210 : decode cX9_digest 210 = .ok (.ladd, 1) := by decide +kernel
theorem dX9_digest_211 : decode cX9_digest 211 = .ok (.lstore_n 1, 1) := by decide +kernel
theorem dX9_digest_212 : decode cX9_digest 212 = .ok (.aload_n 0, 1) := by decide +kernel
theorem dX9_digest_213 : decode cX9_digest 213 = .ok (.getfield 61, 3) := by decide +kernel
theorem dX9_digest_216 : decode cX9_digest 216 = .ok (.bipush 9, 2) := by decide +kernel
theorem dX9_digest_218 : decode cX9_digest 218 = .ok (.invokevirtual 201, 3) := by decide +kernel
theorem dX9_digest_221 : decode cX9_digest 221 = .ok (.ldc2_w 276, 3) := by decide +kernel
theorem dX9_digest_224 : decode cX9_digest 224 = .ok (.lload_n 1, 1) := by decide +kernel
theorem dX9_digest_225 : decode cX9_digest 225 = .ok (.lmul, 1) := by decide +kernel
theorem dX9_digest_226 : decode cX9_digest 226 = .ok (.aload_n 0, 1) := by decide +kernel
theorem dX9_digest_227 : decode cX9_digest 227 = .ok (.getfield 61, 3) := by decide +kernel
theorem dX9_digest_230 : decode cX9_digest 230 = .ok (.getfield 205, 3) := by decide +kernel
theorem dX9_digest_233 : decode cX9_digest 233 = .ok (.iconst (-1), 1) := by decide +kernel
theorem dX9_digest_234 : decode cX9_digest 234 = .ok (.invokevirtual 194, 3) := by decide +kernel
theorem dX9_digest_237 : decode cX9_digest 237 = .ok (.i2l, 1) := by decide +kernel
theorem dX9_digest_238 : decode cX9_digest 238 = .ok (.ladd, 1) := by decide +kernel
theorem dX9_digest_239 : decode cX9_digest 239 = .ok (.lstore_n 1, 1) := by decide +kernel
theorem dX9_digest_240 : decode cX9_digest 240 = .ok (.ldc2_w 276, 3) := by decide +kernel
theorem dX9_digest_243 : decode cX9_digest 243 = .ok (.lload_n 1, 1) := by decide +kernel
theorem dX9_digest_244 : decode cX9_digest 244 = .ok (.lmul, 1) := by decide +kernel
theorem dX9_digest_245 : decode cX9_digest 245 = .ok (.aload_n 0, 1) := by decide +kernel
theorem dX9_digest_246 : decode cX9_digest 246 = .ok (.getfield 61, 3) := by decide +kernel
theorem dX9_digest_249 : decode cX9_digest 249 = .ok (.getfield 205, 3) := by decide +kernel
theorem dX9_digest_252 : decode cX9_digest 252 = .ok (.iconst 0, 1) := by decide +kernel
theorem dX9_digest_253 : decode cX9_digest 253 = .ok (.invokevirtual 194, 3) := by decide +kernel
theorem dX9_digest_256 : decode cX9_digest 256 = .ok (.i2l, 1) := by decide +kernel
theorem dX9_digest_257 : decode cX9_digest 257 = .ok (.ladd, 1) := by decide +kernel
theorem dX9_digest_258 : decode cX9_digest 258 = .ok (.lstore_n 1, 1) := by decide +kernel
theorem dX9_digest_259 : decode cX9_digest 259 = .ok (.ldc2_w 276, 3) := by decide +kernel
theorem dX9_digest_262 : decode cX9_digest 262 = .ok (.lload_n 1, 1) := by decide +kernel
theorem dX9_digest_263 : decode cX9_digest 263 = .ok (.lmul, 1) := by decide +kernel
theorem dX9_digest_264 : decode cX9_digest 264 = .ok (.aload_n 0, 1) := by decide +kernel
theorem dX9_digest_265 : decode cX9_digest 265 = .ok (.getfield 52, 3) := by decide +kernel
theorem dX9_digest_268 : decode cX9_digest 268 = .ok (.bipush 7, 2) := by decide +kernel
theorem dX9_digest_270 : decode cX9_digest 270 = .ok (.bipush 12, 2) := by decide +kernel
theorem dX9_digest_272 : decode cX9_digest 272 = .ok (.iconst (-1), 1) := by decide +kernel
theorem dX9_digest_273 : decode cX9_digest 273 = .ok (.invokevirtual 230, 3) := by decide +kernel
theorem dX9_digest_276 : decode cX9_digest 276 = .ok (.i2l, 1) := by decide +kernel
theorem dX9_digest_277 : decode cX9_digest 277 = .ok (.ladd, 1) := by decide +kernel
theorem dX9_digest_278 : decode cX9_digest 278 = .ok (.lreturn, 1) := by decide +kernel
theorem dX9_tally_0 : decode cX9_tally 0 = .ok (.iload_n 1, 1) := by decide +kernel
theorem dX9_tally_1 : decode cX9_tally 1 = .ok (.tableswitch 123 0 8 #[51, 59, 67, 75, 83, 91, 102, 110, 118], 51) := by decide +kernel
theorem dX9_tally_52 : decode cX9_tally 52 = .ok (.aload_n 0, 1) := by decide +kernel
theorem dX9_tally_53 : decode cX9_tally 53 = .ok (.getfield 36, 3) := by decide +kernel
theorem dX9_tally_56 : decode cX9_tally 56 = .ok (.getfield 278, 3) := by decide +kernel
theorem dX9_tally_59 : decode cX9_tally 59 = .ok (.ireturn, 1) := by decide +kernel
theorem dX9_tally_60 : decode cX9_tally 60 = .ok (.aload_n 0, 1) := by decide +kernel
theorem dX9_tally_61 : decode cX9_tally 61 = .ok (.getfield 36, 3) := by decide +kernel
theorem dX9_tally_64 : decode cX9_tally 64 = .ok (.getfield 288, 3) := by decide +kernel
theorem dX9_tally_67 : decode cX9_tally 67 = .ok (.ireturn, 1) := by decide +kernel
theorem dX9_tally_68 : decode cX9_tally 68 = .ok (.aload_n 0, 1) := by decide +kernel
theorem dX9_tally_69 : decode cX9_tally 69 = .ok (.getfield 18, 3) := by decide +kernel
theorem dX9_tally_72 : decode cX9_tally 72 = .ok (.getfield 95, 3) := by decide +kernel
theorem dX9_tally_75 : decode cX9_tally 75 = .ok (.ireturn, 1) := by decide +kernel
theorem dX9_tally_76 : decode cX9_tally 76 = .ok (.aload_n 0, 1) := by decide +kernel
theorem dX9_tally_77 : decode cX9_tally 77 = .ok (.getfield 30, 3) := by decide +kernel
theorem dX9_tally_80 : decode cX9_tally 80 = .ok (.getfield 95, 3) := by decide +kernel
theorem dX9_tally_83 : decode cX9_tally 83 = .ok (.ireturn, 1) := by decide +kernel
theorem dX9_tally_84 : decode cX9_tally 84 = .ok (.aload_n 0, 1) := by decide +kernel
theorem dX9_tally_85 : decode cX9_tally 85 = .ok (.getfield 43, 3) := by decide +kernel
theorem dX9_tally_88 : decode cX9_tally 88 = .ok (.getfield 136, 3) := by decide +kernel
theorem dX9_tally_91 : decode cX9_tally 91 = .ok (.ireturn, 1) := by decide +kernel
theorem dX9_tally_92 : decode cX9_tally 92 = .ok (.aload_n 0, 1) := by decide +kernel
theorem dX9_tally_93 : decode cX9_tally 93 = .ok (.getfield 52, 3) := by decide +kernel
theorem dX9_tally_96 : decode cX9_tally 96 = .ok (.getfield 174, 3) := by decide +kernel
theorem dX9_tally_99 : decode cX9_tally 99 = .ok (.invokestatic 297, 3) := by decide +kernel
theorem dX9_tally_102 : decode cX9_tally 102 = .ok (.ireturn, 1) := by decide +kernel
theorem dX9_tally_103 : decode cX9_tally 103 = .ok (.aload_n 0, 1) := by decide +kernel
theorem dX9_tally_104 : decode cX9_tally 104 = .ok (.getfield 43, 3) := by decide +kernel
theorem dX9_tally_107 : decode cX9_tally 107 = .ok (.getfield 139, 3) := by decide +kernel
theorem dX9_tally_110 : decode cX9_tally 110 = .ok (.ireturn, 1) := by decide +kernel
theorem dX9_tally_111 : decode cX9_tally 111 = .ok (.aload_n 0, 1) := by decide +kernel
theorem dX9_tally_112 : decode cX9_tally 112 = .ok (.getfield 43, 3) := by decide +kernel
theorem dX9_tally_115 : decode cX9_tally 115 = .ok (.getfield 212, 3) := by decide +kernel
theorem dX9_tally_118 : decode cX9_tally 118 = .ok (.ireturn, 1) := by decide +kernel
theorem dX9_tally_119 : decode cX9_tally 119 = .ok (.aload_n 0, 1) := by decide +kernel
theorem dX9_tally_120 : decode cX9_tally 120 = .ok (.getfield 253, 3) := by decide +kernel
theorem dX9_tally_123 : decode cX9_tally 123 = .ok (.ireturn, 1) := by decide +kernel
theorem dX9_tally_124 : decode cX9_tally 124 = .ok (.bipush (-2), 2) := by decide +kernel
theorem dX9_tally_126 : decode cX9_tally 126 = .ok (.ireturn, 1) := by decide +kernel
theorem dX9_foldThingHours_0 : decode cX9_foldThingHours 0 = .ok (.lload_n 1, 1) := by decide +kernel
theorem dX9_foldThingHours_1 : decode cX9_foldThingHours 1 = .ok (.lstore 4, 2) := by decide +kernel
theorem dX9_foldThingHours_3 : decode cX9_foldThingHours 3 = .ok (.iconst 0, 1) := by decide +kernel
theorem dX9_foldThingHours_4 : decode cX9_foldThingHours 4 = .ok (.istore 6, 2) := by decide +kernel
theorem dX9_foldThingHours_6 : decode cX9_foldThingHours 6 = .ok (.iload 6, 2) := by decide +kernel
theorem dX9_foldThingHours_8 : decode cX9_foldThingHours 8 = .ok (.iconst 3, 1) := by decide +kernel
theorem dX9_foldThingHours_9 : decode cX9_foldThingHours 9 = .ok (.if_icmp .ge 29, 3) := by decide +kernel
theorem dX9_foldThingHours_12 : decode cX9_foldThingHours 12 = .ok (.ldc2_w 276, 3) := by decide +kernel
theorem dX9_foldThingHours_15 : decode cX9_foldThingHours 15 = .ok (.lload 4, 2) := by decide +kernel
theorem dX9_foldThingHours_17 : decode cX9_foldThingHours 17 = .ok (.lmul, 1) := by decide +kernel
theorem dX9_foldThingHours_18 : decode cX9_foldThingHours 18 = .ok (.aload_n 0, 1) := by decide +kernel
theorem dX9_foldThingHours_19 : decode cX9_foldThingHours 19 = .ok (.getfield 36, 3) := by decide +kernel
theorem dX9_foldThingHours_22 : decode cX9_foldThingHours 22 = .ok (.iload_n 3, 1) := by decide +kernel
theorem dX9_foldThingHours_23 : decode cX9_foldThingHours 23 = .ok (.iload 6, 2) := by decide +kernel
theorem dX9_foldThingHours_25 : decode cX9_foldThingHours 25 = .ok (.invokevirtual 109, 3) := by decide +kernel
theorem dX9_foldThingHours_28 : decode cX9_foldThingHours 28 = .ok (.i2l, 1) := by decide +kernel
theorem dX9_foldThingHours_29 : decode cX9_foldThingHours 29 = .ok (.ladd, 1) := by decide +kernel
theorem dX9_foldThingHours_30 : decode cX9_foldThingHours 30 = .ok (.lstore 4, 2) := by decide +kernel
theorem dX9_foldThingHours_32 : decode cX9_foldThingHours 32 = .ok (.iinc 6 1, 3) := by decide +kernel
theorem dX9_foldThingHours_35 : decode cX9_foldThingHours 35 = .ok (.goto (-29), 3) := by decide +kernel
theorem dX9_foldThingHours_38 : decode cX9_foldThingHours 38 = .ok (.ldc2_w 276, 3) := by decide +kernel
theorem dX9_foldThingHours_41 : decode cX9_foldThingHours 41 = .ok (.lload 4, 2) := by decide +kernel
theorem dX9_foldThingHours_43 : decode cX9_foldThingHours 43 = .ok (.lmul, 1) := by decide +kernel
theorem dX9_foldThingHours_44 : decode cX9_foldThingHours 44 = .ok (.aload_n 0, 1) := by decide +kernel
theorem dX9_foldThingHours_45 : decode cX9_foldThingHours 45 = .ok (.getfield 52, 3) := by decide +kernel
theorem dX9_foldThingHours_48 : decode cX9_foldThingHours 48 = .ok (.getfield 156, 3) := by decide +kernel
theorem dX9_foldThingHours_51 : decode cX9_foldThingHours 51 = .ok (.iconst 5, 1) := by decide +kernel
theorem dX9_foldThingHours_52 : decode cX9_foldThingHours 52 = .ok (.aaload, 1) := by decide +kernel
theorem dX9_foldThingHours_53 : decode cX9_foldThingHours 53 = .ok (.iload_n 3, 1) := by decide +kernel
theorem dX9_foldThingHours_54 : decode cX9_foldThingHours 54 = .ok (.invokevirtual 160, 3) := by decide +kernel
theorem dX9_foldThingHours_57 : decode cX9_foldThingHours 57 = .ok (.i2l, 1) := by decide +kernel
theorem dX9_foldThingHours_58 : decode cX9_foldThingHours 58 = .ok (.ladd, 1) := by decide +kernel
theorem dX9_foldThingHours_59 : decode cX9_foldThingHours 59 = .ok (.lstore 4, 2) := by decide +kernel
theorem dX9_foldThingHours_61 : decode cX9_foldThingHours 61 = .ok (.ldc2_w 276, 3) := by decide +kernel
theorem dX9_foldThingHours_64 : decode cX9_foldThingHours 64 = .ok (.lload 4, 2) := by decide +kernel
theorem dX9_foldThingHours_66 : decode cX9_foldThingHours 66 = .ok (.lmul, 1) := by decide +kernel
theorem dX9_foldThingHours_67 : decode cX9_foldThingHours 67 = .ok (.aload_n 0, 1) := by decide +kernel
theorem dX9_foldThingHours_68 : decode cX9_foldThingHours 68 = .ok (.getfield 52, 3) := by decide +kernel
theorem dX9_foldThingHours_71 : decode cX9_foldThingHours 71 = .ok (.getfield 156, 3) := by decide +kernel
theorem dX9_foldThingHours_74 : decode cX9_foldThingHours 74 = .ok (.bipush 23, 2) := by decide +kernel
theorem dX9_foldThingHours_76 : decode cX9_foldThingHours 76 = .ok (.aaload, 1) := by decide +kernel
theorem dX9_foldThingHours_77 : decode cX9_foldThingHours 77 = .ok (.iload_n 3, 1) := by decide +kernel
theorem dX9_foldThingHours_78 : decode cX9_foldThingHours 78 = .ok (.invokevirtual 160, 3) := by decide +kernel
theorem dX9_foldThingHours_81 : decode cX9_foldThingHours 81 = .ok (.i2l, 1) := by decide +kernel
theorem dX9_foldThingHours_82 : decode cX9_foldThingHours 82 = .ok (.ladd, 1) := by decide +kernel
theorem dX9_foldThingHours_83 : decode cX9_foldThingHours 83 = .ok (.lstore 4, 2) := by decide +kernel
theorem dX9_foldThingHours_85 : decode cX9_foldThingHours 85 = .ok (.ldc2_w 276, 3) := by decide +kernel
theorem dX9_foldThingHours_88 : decode cX9_foldThingHours 88 = .ok (.lload 4, 2) := by decide +kernel
theorem dX9_foldThingHours_90 : decode cX9_foldThingHours 90 = .ok (.lmul, 1) := by decide +kernel
theorem dX9_foldThingHours_91 : decode cX9_foldThingHours 91 = .ok (.aload_n 0, 1) := by decide +kernel
theorem dX9_foldThingHours_92 : decode cX9_foldThingHours 92 = .ok (.getfield 52, 3) := by decide +kernel
theorem dX9_foldThingHours_95 : decode cX9_foldThingHours 95 = .ok (.iload_n 3, 1) := by decide +kernel
theorem dX9_foldThingHours_96 : decode cX9_foldThingHours 96 = .ok (.invokevirtual 180, 3) := by decide +kernel
theorem dX9_foldThingHours_99 : decode cX9_foldThingHours 99 = .ok (.i2l, 1) := by decide +kernel
theorem dX9_foldThingHours_100 : decode cX9_foldThingHours 100 = .ok (.ladd, 1) := by decide +kernel
theorem dX9_foldThingHours_101 : decode cX9_foldThingHours 101 = .ok (.lreturn, 1) := by decide +kernel
theorem dX9_foldThingGuesses_0 : decode cX9_foldThingGuesses 0 = .ok (.lload_n 1, 1) := by decide +kernel
theorem dX9_foldThingGuesses_1 : decode cX9_foldThingGuesses 1 = .ok (.lstore 4, 2) := by decide +kernel
theorem dX9_foldThingGuesses_3 : decode cX9_foldThingGuesses 3 = .ok (.aload_n 0, 1) := by decide +kernel
theorem dX9_foldThingGuesses_4 : decode cX9_foldThingGuesses 4 = .ok (.getfield 36, 3) := by decide +kernel
theorem dX9_foldThingGuesses_7 : decode cX9_foldThingGuesses 7 = .ok (.getfield 288, 3) := by decide +kernel
theorem dX9_foldThingGuesses_10 : decode cX9_foldThingGuesses 10 = .ok (.ifCond .le 7, 3) := by decide +kernel
theorem dX9_foldThingGuesses_13 : decode cX9_foldThingGuesses 13 = .ok (.iconst 1, 1) := by decide +kernel
theorem dX9_foldThingGuesses_14 : decode cX9_foldThingGuesses 14 = .ok (.goto 4, 3) := by decide +kernel
theorem dX9_foldThingGuesses_17 : decode cX9_foldThingGuesses 17 = .ok (.iconst 0, 1) := by decide +kernel
theorem dX9_foldThingGuesses_18 : decode cX9_foldThingGuesses 18 = .ok (.istore 6, 2) := by decide +kernel
theorem dX9_foldThingGuesses_20 : decode cX9_foldThingGuesses 20 = .ok (.iload 6, 2) := by decide +kernel
theorem dX9_foldThingGuesses_22 : decode cX9_foldThingGuesses 22 = .ok (.ifCond .eq 14, 3) := by decide +kernel
theorem dX9_foldThingGuesses_25 : decode cX9_foldThingGuesses 25 = .ok (.aload_n 0, 1) := by decide +kernel
theorem dX9_foldThingGuesses_26 : decode cX9_foldThingGuesses 26 = .ok (.getfield 61, 3) := by decide +kernel
theorem dX9_foldThingGuesses_29 : decode cX9_foldThingGuesses 29 = .ok (.iconst 0, 1) := by decide +kernel
theorem dX9_foldThingGuesses_30 : decode cX9_foldThingGuesses 30 = .ok (.iload_n 3, 1) := by decide +kernel
theorem dX9_foldThingGuesses_31 : decode cX9_foldThingGuesses 31 = .ok (.iconst 3, 1) := by decide +kernel
theorem dX9_foldThingGuesses_32 : decode cX9_foldThingGuesses 32 = .ok (.iconst 4, 1) := by decide +kernel
theorem dX9_foldThingGuesses_33 : decode cX9_foldThingGuesses 33 = .ok (.invokevirtual 186, 3) := by decide +kernel
theorem dX9_foldThingGuesses_36 : decode cX9_foldThingGuesses 36 = .ok (.ldc2_w 276, 3) := by decide +kernel
theorem dX9_foldThingGuesses_39 : decode cX9_foldThingGuesses 39 = .ok (.lload 4, 2) := by decide +kernel
theorem dX9_foldThingGuesses_41 : decode cX9_foldThingGuesses 41 = .ok (.lmul, 1) := by decide +kernel
theorem dX9_foldThingGuesses_42 : decode cX9_foldThingGuesses 42 = .ok (.iload 6, 2) := by decide +kernel
theorem dX9_foldThingGuesses_44 : decode cX9_foldThingGuesses 44 = .ok (.ifCond .eq 17, 3) := by decide +kernel
theorem dX9_foldThingGuesses_47 : decode cX9_foldThingGuesses 47 = .ok (.aload_n 0, 1) := by decide +kernel
theorem dX9_foldThingGuesses_48 : decode cX9_foldThingGuesses 48 = .ok (.getfield 61, 3) := by decide +kernel
theorem dX9_foldThingGuesses_51 : decode cX9_foldThingGuesses 51 = .ok (.getfield 190, 3) := by decide +kernel
theorem dX9_foldThingGuesses_54 : decode cX9_foldThingGuesses 54 = .ok (.iconst (-1), 1) := by decide +kernel
theorem dX9_foldThingGuesses_55 : decode cX9_foldThingGuesses 55 = .ok (.invokevirtual 194, 3) := by decide +kernel
theorem dX9_foldThingGuesses_58 : decode cX9_foldThingGuesses 58 = .ok (.goto 5, 3) := by decide +kernel
theorem dX9_foldThingGuesses_61 : decode cX9_foldThingGuesses 61 = .ok (.bipush (-2), 2) := by decide +kernel
theorem dX9_foldThingGuesses_63 : decode cX9_foldThingGuesses 63 = .ok (.i2l, 1) := by decide +kernel
theorem dX9_foldThingGuesses_64 : decode cX9_foldThingGuesses 64 = .ok (.ladd, 1) := by decide +kernel
theorem dX9_foldThingGuesses_65 : decode cX9_foldThingGuesses 65 = .ok (.lstore 4, 2) := by decide +kernel
theorem dX9_foldThingGuesses_67 : decode cX9_foldThingGuesses 67 = .ok (.ldc2_w 276, 3) := by decide +kernel
theorem dX9_foldThingGuesses_70 : decode cX9_foldThingGuesses 70 = .ok (.lload 4, 2) := by decide +kernel
theorem dX9_foldThingGuesses_72 : decode cX9_foldThingGuesses 72 = .ok (.lmul, 1) := by decide +kernel
theorem dX9_foldThingGuesses_73 : decode cX9_foldThingGuesses 73 = .ok (.iload 6, 2) := by decide +kernel
theorem dX9_foldThingGuesses_75 : decode cX9_foldThingGuesses 75 = .ok (.ifCond .eq 17, 3) := by decide +kernel
theorem dX9_foldThingGuesses_78 : decode cX9_foldThingGuesses 78 = .ok (.aload_n 0, 1) := by decide +kernel
theorem dX9_foldThingGuesses_79 : decode cX9_foldThingGuesses 79 = .ok (.getfield 61, 3) := by decide +kernel
theorem dX9_foldThingGuesses_82 : decode cX9_foldThingGuesses 82 = .ok (.getfield 190, 3) := by decide +kernel
theorem dX9_foldThingGuesses_85 : decode cX9_foldThingGuesses 85 = .ok (.iconst 0, 1) := by decide +kernel
theorem dX9_foldThingGuesses_86 : decode cX9_foldThingGuesses 86 = .ok (.invokevirtual 194, 3) := by decide +kernel
theorem dX9_foldThingGuesses_89 : decode cX9_foldThingGuesses 89 = .ok (.goto 5, 3) := by decide +kernel
theorem dX9_foldThingGuesses_92 : decode cX9_foldThingGuesses 92 = .ok (.bipush (-2), 2) := by decide +kernel
theorem dX9_foldThingGuesses_94 : decode cX9_foldThingGuesses 94 = .ok (.i2l, 1) := by decide +kernel
theorem dX9_foldThingGuesses_95 : decode cX9_foldThingGuesses 95 = .ok (.ladd, 1) := by decide +kernel
theorem dX9_foldThingGuesses_96 : decode cX9_foldThingGuesses 96 = .ok (.lstore 4, 2) := by decide +kernel
theorem dX9_foldThingGuesses_98 : decode cX9_foldThingGuesses 98 = .ok (.ldc2_w 276, 3) := by decide +kernel
theorem dX9_foldThingGuesses_101 : decode cX9_foldThingGuesses 101 = .ok (.lload 4, 2) := by decide +kernel
theorem dX9_foldThingGuesses_103 : decode cX9_foldThingGuesses 103 = .ok (.lmul, 1) := by decide +kernel
theorem dX9_foldThingGuesses_104 : decode cX9_foldThingGuesses 104 = .ok (.aload_n 0, 1) := by decide +kernel
theorem dX9_foldThingGuesses_105 : decode cX9_foldThingGuesses 105 = .ok (.getfield 68, 3) := by decide +kernel
theorem dX9_foldThingGuesses_108 : decode cX9_foldThingGuesses 108 = .ok (.iload_n 3, 1) := by decide +kernel
theorem dX9_foldThingGuesses_109 : decode cX9_foldThingGuesses 109 = .ok (.invokevirtual 218, 3) := by decide +kernel
theorem dX9_foldThingGuesses_112 : decode cX9_foldThingGuesses 112 = .ok (.i2l, 1) := by decide +kernel
theorem dX9_foldThingGuesses_113 : decode cX9_foldThingGuesses 113 = .ok (.ladd, 1) := by decide +kernel
theorem dX9_foldThingGuesses_114 : decode cX9_foldThingGuesses 114 = .ok (.lstore 4, 2) := by decide +kernel
theorem dX9_foldThingGuesses_116 : decode cX9_foldThingGuesses 116 = .ok (.ldc2_w 276, 3) := by decide +kernel
theorem dX9_foldThingGuesses_119 : decode cX9_foldThingGuesses 119 = .ok (.lload 4, 2) := by decide +kernel
theorem dX9_foldThingGuesses_121 : decode cX9_foldThingGuesses 121 = .ok (.lmul, 1) := by decide +kernel
theorem dX9_foldThingGuesses_122 : decode cX9_foldThingGuesses 122 = .ok (.iload 6, 2) := by decide +kernel
theorem dX9_foldThingGuesses_124 : decode cX9_foldThingGuesses 124 = .ok (.ifCond .eq 15, 3) := by decide +kernel
theorem dX9_foldThingGuesses_127 : decode cX9_foldThingGuesses 127 = .ok (.aload_n 0, 1) := by decide +kernel
theorem dX9_foldThingGuesses_128 : decode cX9_foldThingGuesses 128 = .ok (.getfield 68, 3) := by decide +kernel
theorem dX9_foldThingGuesses_131 : decode cX9_foldThingGuesses 131 = .ok (.iconst 0, 1) := by decide +kernel
theorem dX9_foldThingGuesses_132 : decode cX9_foldThingGuesses 132 = .ok (.iload_n 3, 1) := by decide +kernel
theorem dX9_foldThingGuesses_133 : decode cX9_foldThingGuesses 133 = .ok (.invokevirtual 221, 3) := by decide +kernel
theorem dX9_foldThingGuesses_136 : decode cX9_foldThingGuesses 136 = .ok (.goto 5, 3) := by decide +kernel
theorem dX9_foldThingGuesses_139 : decode cX9_foldThingGuesses 139 = .ok (.bipush (-2), 2) := by decide +kernel
theorem dX9_foldThingGuesses_141 : decode cX9_foldThingGuesses 141 = .ok (.i2l, 1) := by decide +kernel
theorem dX9_foldThingGuesses_142 : decode cX9_foldThingGuesses 142 = .ok (.ladd, 1) := by decide +kernel
theorem dX9_foldThingGuesses_143 : decode cX9_foldThingGuesses 143 = .ok (.lstore 4, 2) := by decide +kernel
theorem dX9_foldThingGuesses_145 : decode cX9_foldThingGuesses 145 = .ok (.ldc2_w 276, 3) := by decide +kernel
theorem dX9_foldThingGuesses_148 : decode cX9_foldThingGuesses 148 = .ok (.lload 4, 2) := by decide +kernel
theorem dX9_foldThingGuesses_150 : decode cX9_foldThingGuesses 150 = .ok (.lmul, 1) := by decide +kernel
theorem dX9_foldThingGuesses_151 : decode cX9_foldThingGuesses 151 = .ok (.aload_n 0, 1) := by decide +kernel
theorem dX9_foldThingGuesses_152 : decode cX9_foldThingGuesses 152 = .ok (.getfield 52, 3) := by decide +kernel
theorem dX9_foldThingGuesses_155 : decode cX9_foldThingGuesses 155 = .ok (.iconst 5, 1) := by decide +kernel
theorem dX9_foldThingGuesses_156 : decode cX9_foldThingGuesses 156 = .ok (.iload_n 3, 1) := by decide +kernel
theorem dX9_foldThingGuesses_157 : decode cX9_foldThingGuesses 157 = .ok (.bipush 9, 2) := by decide +kernel
theorem dX9_foldThingGuesses_159 : decode cX9_foldThingGuesses 159 = .ok (.iconst 0, 1) := by decide +kernel
theorem dX9_foldThingGuesses_160 : decode cX9_foldThingGuesses 160 = .ok (.invokevirtual 226, 3) := by decide +kernel
theorem dX9_foldThingGuesses_163 : decode cX9_foldThingGuesses 163 = .ok (.ladd, 1) := by decide +kernel
theorem dX9_foldThingGuesses_164 : decode cX9_foldThingGuesses 164 = .ok (.lstore 4, 2) := by decide +kernel
theorem dX9_foldThingGuesses_166 : decode cX9_foldThingGuesses 166 = .ok (.ldc2_w 276, 3) := by decide +kernel
theorem dX9_foldThingGuesses_169 : decode cX9_foldThingGuesses 169 = .ok (.lload 4, 2) := by decide +kernel
theorem dX9_foldThingGuesses_171 : decode cX9_foldThingGuesses 171 = .ok (.lmul, 1) := by decide +kernel
theorem dX9_foldThingGuesses_172 : decode cX9_foldThingGuesses 172 = .ok (.aload_n 0, 1) := by decide +kernel
theorem dX9_foldThingGuesses_173 : decode cX9_foldThingGuesses 173 = .ok (.getfield 52, 3) := by decide +kernel
theorem dX9_foldThingGuesses_176 : decode cX9_foldThingGuesses 176 = .ok (.iconst 5, 1) := by decide +kernel
theorem dX9_foldThingGuesses_177 : decode cX9_foldThingGuesses 177 = .ok (.iload_n 3, 1) := by decide +kernel
theorem dX9_foldThingGuesses_178 : decode cX9_foldThingGuesses 178 = .ok (.bipush 9, 2) := by decide +kernel
theorem dX9_foldThingGuesses_180 : decode cX9_foldThingGuesses 180 = .ok (.iconst 1, 1) := by decide +kernel
theorem dX9_foldThingGuesses_181 : decode cX9_foldThingGuesses 181 = .ok (.invokevirtual 226, 3) := by decide +kernel
theorem dX9_foldThingGuesses_184 : decode cX9_foldThingGuesses 184 = .ok (.ladd, 1) := by decide +kernel
theorem dX9_foldThingGuesses_185 : decode cX9_foldThingGuesses 185 = .ok (.lstore 4, 2) := by decide +kernel
theorem dX9_foldThingGuesses_187 : decode cX9_foldThingGuesses 187 = .ok (.ldc2_w 276, 3) := by decide +kernel
theorem dX9_foldThingGuesses_190 : decode cX9_foldThingGuesses 190 = .ok (.lload 4, 2) := by decide +kernel
theorem dX9_foldThingGuesses_192 : decode cX9_foldThingGuesses 192 = .ok (.lmul, 1) := by decide +kernel
theorem dX9_foldThingGuesses_193 : decode cX9_foldThingGuesses 193 = .ok (.aload_n 0, 1) := by decide +kernel
theorem dX9_foldThingGuesses_194 : decode cX9_foldThingGuesses 194 = .ok (.getfield 52, 3) := by decide +kernel
theorem dX9_foldThingGuesses_197 : decode cX9_foldThingGuesses 197 = .ok (.bipush 7, 2) := by decide +kernel
theorem dX9_foldThingGuesses_199 : decode cX9_foldThingGuesses 199 = .ok (.bipush 12, 2) := by decide +kernel
theorem dX9_foldThingGuesses_201 : decode cX9_foldThingGuesses 201 = .ok (.iload_n 3, 1) := by decide +kernel
theorem dX9_foldThingGuesses_202 : decode cX9_foldThingGuesses 202 = .ok (.invokevirtual 230, 3) := by decide +kernel
theorem dX9_foldThingGuesses_205 : decode cX9_foldThingGuesses 205 = .ok (.i2l, 1) := by decide +kernel
theorem dX9_foldThingGuesses_206 : decode cX9_foldThingGuesses 206 = .ok (.ladd, 1) := by decide +kernel
theorem dX9_foldThingGuesses_207 : decode cX9_foldThingGuesses 207 = .ok (.lreturn, 1) := by decide +kernel
theorem dX9_foldCousin_0 : decode cX9_foldCousin 0 = .ok (.lload_n 1, 1) := by decide +kernel
theorem dX9_foldCousin_1 : decode cX9_foldCousin 1 = .ok (.lstore 4, 2) := by decide +kernel
theorem dX9_foldCousin_3 : decode cX9_foldCousin 3 = .ok (.ldc2_w 276, 3) := by decide +kernel
theorem dX9_foldCousin_6 : decode cX9_foldCousin 6 = .ok (.lload 4, 2) := by decide +kernel
theorem dX9_foldCousin_8 : decode cX9_foldCousin 8 = .ok (.lmul, 1) := by decide +kernel
theorem dX9_foldCousin_9 : decode cX9_foldCousin 9 = .ok (.aload_n 0, 1) := by decide +kernel
theorem dX9_foldCousin_10 : decode cX9_foldCousin 10 = .ok (.getfield 36, 3) := by decide +kernel
theorem dX9_foldCousin_13 : decode cX9_foldCousin 13 = .ok (.iload_n 3, 1) := by decide +kernel
theorem dX9_foldCousin_14 : decode cX9_foldCousin 14 = .ok (.iconst 0, 1) := by decide +kernel
theorem dX9_foldCousin_15 : decode cX9_foldCousin 15 = .ok (.invokevirtual 119, 3) := by decide +kernel
theorem dX9_foldCousin_18 : decode cX9_foldCousin 18 = .ok (.i2l, 1) := by decide +kernel
theorem dX9_foldCousin_19 : decode cX9_foldCousin 19 = .ok (.ladd, 1) := by decide +kernel
theorem dX9_foldCousin_20 : decode cX9_foldCousin 20 = .ok (.lstore 4, 2) := by decide +kernel
theorem dX9_foldCousin_22 : decode cX9_foldCousin 22 = .ok (.ldc2_w 276, 3) := by decide +kernel
theorem dX9_foldCousin_25 : decode cX9_foldCousin 25 = .ok (.lload 4, 2) := by decide +kernel
theorem dX9_foldCousin_27 : decode cX9_foldCousin 27 = .ok (.lmul, 1) := by decide +kernel
theorem dX9_foldCousin_28 : decode cX9_foldCousin 28 = .ok (.aload_n 0, 1) := by decide +kernel
theorem dX9_foldCousin_29 : decode cX9_foldCousin 29 = .ok (.getfield 36, 3) := by decide +kernel
theorem dX9_foldCousin_32 : decode cX9_foldCousin 32 = .ok (.iload_n 3, 1) := by decide +kernel
theorem dX9_foldCousin_33 : decode cX9_foldCousin 33 = .ok (.iconst 1, 1) := by decide +kernel
theorem dX9_foldCousin_34 : decode cX9_foldCousin 34 = .ok (.invokevirtual 119, 3) := by decide +kernel
theorem dX9_foldCousin_37 : decode cX9_foldCousin 37 = .ok (.i2l, 1) := by decide +kernel
theorem dX9_foldCousin_38 : decode cX9_foldCousin 38 = .ok (.ladd, 1) := by decide +kernel
theorem dX9_foldCousin_39 : decode cX9_foldCousin 39 = .ok (.lstore 4, 2) := by decide +kernel
theorem dX9_foldCousin_41 : decode cX9_foldCousin 41 = .ok (.ldc2_w 276, 3) := by decide +kernel
theorem dX9_foldCousin_44 : decode cX9_foldCousin 44 = .ok (.lload 4, 2) := by decide +kernel
theorem dX9_foldCousin_46 : decode cX9_foldCousin 46 = .ok (.lmul, 1) := by decide +kernel
theorem dX9_foldCousin_47 : decode cX9_foldCousin 47 = .ok (.aload_n 0, 1) := by decide +kernel
theorem dX9_foldCousin_48 : decode cX9_foldCousin 48 = .ok (.getfield 52, 3) := by decide +kernel
theorem dX9_foldCousin_51 : decode cX9_foldCousin 51 = .ok (.bipush 9, 2) := by decide +kernel
theorem dX9_foldCousin_53 : decode cX9_foldCousin 53 = .ok (.iload_n 3, 1) := by decide +kernel
theorem dX9_foldCousin_54 : decode cX9_foldCousin 54 = .ok (.invokevirtual 165, 3) := by decide +kernel
theorem dX9_foldCousin_57 : decode cX9_foldCousin 57 = .ok (.i2l, 1) := by decide +kernel
theorem dX9_foldCousin_58 : decode cX9_foldCousin 58 = .ok (.ladd, 1) := by decide +kernel
theorem dX9_foldCousin_59 : decode cX9_foldCousin 59 = .ok (.lstore 4, 2) := by decide +kernel
theorem dX9_foldCousin_61 : decode cX9_foldCousin 61 = .ok (.ldc2_w 276, 3) := by decide +kernel
theorem dX9_foldCousin_64 : decode cX9_foldCousin 64 = .ok (.lload 4, 2) := by decide +kernel
theorem dX9_foldCousin_66 : decode cX9_foldCousin 66 = .ok (.lmul, 1) := by decide +kernel
theorem dX9_foldCousin_67 : decode cX9_foldCousin 67 = .ok (.aload_n 0, 1) := by decide +kernel
theorem dX9_foldCousin_68 : decode cX9_foldCousin 68 = .ok (.getfield 36, 3) := by decide +kernel
theorem dX9_foldCousin_71 : decode cX9_foldCousin 71 = .ok (.getfield 278, 3) := by decide +kernel
theorem dX9_foldCousin_74 : decode cX9_foldCousin 74 = .ok (.ifCond .le 15, 3) := by decide +kernel
theorem dX9_foldCousin_77 : decode cX9_foldCousin 77 = .ok (.aload_n 0, 1) := by decide +kernel
theorem dX9_foldCousin_78 : decode cX9_foldCousin 78 = .ok (.getfield 68, 3) := by decide +kernel
theorem dX9_foldCousin_81 : decode cX9_foldCousin 81 = .ok (.iload_n 3, 1) := by decide +kernel
theorem dX9_foldCousin_82 : decode cX9_foldCousin 82 = .ok (.iconst 0, 1) := by decide +kernel
theorem dX9_foldCousin_83 : decode cX9_foldCousin 83 = .ok (.invokevirtual 215, 3) := by decide +kernel
theorem dX9_foldCousin_86 : decode cX9_foldCousin 86 = .ok (.goto 5, 3) := by decide +kernel
theorem dX9_foldCousin_89 : decode cX9_foldCousin 89 = .ok (.bipush (-2), 2) := by decide +kernel
theorem dX9_foldCousin_91 : decode cX9_foldCousin 91 = .ok (.i2l, 1) := by decide +kernel
theorem dX9_foldCousin_92 : decode cX9_foldCousin 92 = .ok (.ladd, 1) := by decide +kernel
theorem dX9_foldCousin_93 : decode cX9_foldCousin 93 = .ok (.lreturn, 1) := by decide +kernel
theorem dX9_foldHour_0 : decode cX9_foldHour 0 = .ok (.lload_n 1, 1) := by decide +kernel
theorem dX9_foldHour_1 : decode cX9_foldHour 1 = .ok (.lstore 4, 2) := by decide +kernel
theorem dX9_foldHour_3 : decode cX9_foldHour 3 = .ok (.ldc2_w 276, 3) := by decide +kernel
theorem dX9_foldHour_6 : decode cX9_foldHour 6 = .ok (.lload 4, 2) := by decide +kernel
theorem dX9_foldHour_8 : decode cX9_foldHour 8 = .ok (.lmul, 1) := by decide +kernel
theorem dX9_foldHour_9 : decode cX9_foldHour 9 = .ok (.aload_n 0, 1) := by decide +kernel
theorem dX9_foldHour_10 : decode cX9_foldHour 10 = .ok (.getfield 52, 3) := by decide +kernel
theorem dX9_foldHour_13 : decode cX9_foldHour 13 = .ok (.getfield 156, 3) := by decide +kernel
theorem dX9_foldHour_16 : decode cX9_foldHour 16 = .ok (.iload_n 3, 1) := by decide +kernel
theorem dX9_foldHour_17 : decode cX9_foldHour 17 = .ok (.aaload, 1) := by decide +kernel
theorem dX9_foldHour_18 : decode cX9_foldHour 18 = .ok (.getfield 168, 3) := by decide +kernel
theorem dX9_foldHour_21 : decode cX9_foldHour 21 = .ok (.i2l, 1) := by decide +kernel
theorem dX9_foldHour_22 : decode cX9_foldHour 22 = .ok (.ladd, 1) := by decide +kernel
theorem dX9_foldHour_23 : decode cX9_foldHour 23 = .ok (.lstore 4, 2) := by decide +kernel
theorem dX9_foldHour_25 : decode cX9_foldHour 25 = .ok (.ldc2_w 276, 3) := by decide +kernel
theorem dX9_foldHour_28 : decode cX9_foldHour 28 = .ok (.lload 4, 2) := by decide +kernel
theorem dX9_foldHour_30 : decode cX9_foldHour 30 = .ok (.lmul, 1) := by decide +kernel
theorem dX9_foldHour_31 : decode cX9_foldHour 31 = .ok (.aload_n 0, 1) := by decide +kernel
theorem dX9_foldHour_32 : decode cX9_foldHour 32 = .ok (.getfield 52, 3) := by decide +kernel
theorem dX9_foldHour_35 : decode cX9_foldHour 35 = .ok (.iload_n 3, 1) := by decide +kernel
theorem dX9_foldHour_36 : decode cX9_foldHour 36 = .ok (.invokevirtual 171, 3) := by decide +kernel
theorem dX9_foldHour_39 : decode cX9_foldHour 39 = .ok (.i2l, 1) := by decide +kernel
theorem dX9_foldHour_40 : decode cX9_foldHour 40 = .ok (.ladd, 1) := by decide +kernel
theorem dX9_foldHour_41 : decode cX9_foldHour 41 = .ok (.lstore 4, 2) := by decide +kernel
theorem dX9_foldHour_43 : decode cX9_foldHour 43 = .ok (.ldc2_w 276, 3) := by decide +kernel
theorem dX9_foldHour_46 : decode cX9_foldHour 46 = .ok (.lload 4, 2) := by decide +kernel
theorem dX9_foldHour_48 : decode cX9_foldHour 48 = .ok (.lmul, 1) := by decide +kernel
theorem dX9_foldHour_49 : decode cX9_foldHour 49 = .ok (.aload_n 0, 1) := by decide +kernel
theorem dX9_foldHour_50 : decode cX9_foldHour 50 = .ok (.getfield 61, 3) := by decide +kernel
theorem dX9_foldHour_53 : decode cX9_foldHour 53 = .ok (.iload_n 3, 1) := by decide +kernel
theorem dX9_foldHour_54 : decode cX9_foldHour 54 = .ok (.invokevirtual 198, 3) := by decide +kernel
theorem dX9_foldHour_57 : decode cX9_foldHour 57 = .ok (.i2l, 1) := by decide +kernel
theorem dX9_foldHour_58 : decode cX9_foldHour 58 = .ok (.ladd, 1) := by decide +kernel
theorem dX9_foldHour_59 : decode cX9_foldHour 59 = .ok (.lreturn, 1) := by decide +kernel
theorem dX9_refresh_0 : decode cX9_refresh 0 = .ok (.aload_n 0, 1) := by decide +kernel
theorem dX9_refresh_1 : decode cX9_refresh 1 = .ok (.getfield 79, 3) := by decide +kernel
theorem dX9_refresh_4 : decode cX9_refresh 4 = .ok (.ifCond .ne 4, 3) := by decide +kernel
theorem dX9_refresh_7 : decode cX9_refresh 7 = .ok (.return_, 1) := by decide +kernel
theorem dX9_refresh_8 : decode cX9_refresh 8 = .ok (.aload_n 0, 1) := by decide +kernel
theorem dX9_refresh_9 : decode cX9_refresh 9 = .ok (.getfield 36, 3) := by decide +kernel
theorem dX9_refresh_12 : decode cX9_refresh 12 = .ok (.aload_n 0, 1) := by decide +kernel
theorem dX9_refresh_13 : decode cX9_refresh 13 = .ok (.getfield 18, 3) := by decide +kernel
theorem dX9_refresh_16 : decode cX9_refresh 16 = .ok (.invokevirtual 302, 3) := by decide +kernel
theorem dX9_refresh_19 : decode cX9_refresh 19 = .ok (.aload_n 0, 1) := by decide +kernel
theorem dX9_refresh_20 : decode cX9_refresh 20 = .ok (.getfield 36, 3) := by decide +kernel
theorem dX9_refresh_23 : decode cX9_refresh 23 = .ok (.aload_n 0, 1) := by decide +kernel
theorem dX9_refresh_24 : decode cX9_refresh 24 = .ok (.getfield 30, 3) := by decide +kernel
theorem dX9_refresh_27 : decode cX9_refresh 27 = .ok (.invokevirtual 306, 3) := by decide +kernel
theorem dX9_refresh_30 : decode cX9_refresh 30 = .ok (.aload_n 0, 1) := by decide +kernel
theorem dX9_refresh_31 : decode cX9_refresh 31 = .ok (.getfield 43, 3) := by decide +kernel
theorem dX9_refresh_34 : decode cX9_refresh 34 = .ok (.invokevirtual 309, 3) := by decide +kernel
theorem dX9_refresh_37 : decode cX9_refresh 37 = .ok (.aload_n 0, 1) := by decide +kernel
theorem dX9_refresh_38 : decode cX9_refresh 38 = .ok (.getfield 52, 3) := by decide +kernel
theorem dX9_refresh_41 : decode cX9_refresh 41 = .ok (.invokevirtual 312, 3) := by decide +kernel
theorem dX9_refresh_44 : decode cX9_refresh 44 = .ok (.aload_n 0, 1) := by decide +kernel
theorem dX9_refresh_45 : decode cX9_refresh 45 = .ok (.getfield 61, 3) := by decide +kernel
theorem dX9_refresh_48 : decode cX9_refresh 48 = .ok (.invokevirtual 315, 3) := by decide +kernel
theorem dX9_refresh_51 : decode cX9_refresh 51 = .ok (.aload_n 0, 1) := by decide +kernel
theorem dX9_refresh_52 : decode cX9_refresh 52 = .ok (.iconst 0, 1) := by decide +kernel
theorem dX9_refresh_53 : decode cX9_refresh 53 = .ok (.putfield 79, 3) := by decide +kernel
theorem dX9_refresh_56 : decode cX9_refresh 56 = .ok (.return_, 1) := by decide +kernel
theorem dX9_found_0 : decode cX9_found 0 = .ok (.aload_n 0, 1) := by decide +kernel
theorem dX9_found_1 : decode cX9_found 1 = .ok (.iload_n 1, 1) := by decide +kernel
theorem dX9_found_2 : decode cX9_found 2 = .ok (.putfield 253, 3) := by decide +kernel
theorem dX9_found_5 : decode cX9_found 5 = .ok (.bipush (-10), 2) := by decide +kernel
theorem dX9_found_7 : decode cX9_found 7 = .ok (.iload_n 1, 1) := by decide +kernel
theorem dX9_found_8 : decode cX9_found 8 = .ok (.isub, 1) := by decide +kernel
theorem dX9_found_9 : decode cX9_found 9 = .ok (.ireturn, 1) := by decide +kernel
theorem dX9_textOf_0 : decode cX9_textOf 0 = .ok (.iload_n 1, 1) := by decide +kernel
theorem dX9_textOf_1 : decode cX9_textOf 1 = .ok (.ifCond .ne 10, 3) := by decide +kernel
theorem dX9_textOf_4 : decode cX9_textOf 4 = .ok (.aload_n 0, 1) := by decide +kernel
theorem dX9_textOf_5 : decode cX9_textOf 5 = .ok (.getfield 18, 3) := by decide +kernel
theorem dX9_textOf_8 : decode cX9_textOf 8 = .ok (.goto 7, 3) := by decide +kernel
theorem dX9_textOf_11 : decode cX9_textOf 11 = .ok (.aload_n 0, 1) := by decide +kernel
theorem dX9_textOf_12 : decode cX9_textOf 12 = .ok (.getfield 30, 3) := by decide +kernel
theorem dX9_textOf_15 : decode cX9_textOf 15 = .ok (.areturn, 1) := by decide +kernel
theorem dX9_isThing_0 : decode cX9_isThing 0 = .ok (.iload_n 1, 1) := by decide +kernel
theorem dX9_isThing_1 : decode cX9_isThing 1 = .ok (.ifCond .lt 18, 3) := by decide +kernel
theorem dX9_isThing_4 : decode cX9_isThing 4 = .ok (.iload_n 1, 1) := by decide +kernel
theorem dX9_isThing_5 : decode cX9_isThing 5 = .ok (.aload_n 0, 1) := by decide +kernel
theorem dX9_isThing_6 : decode cX9_isThing 6 = .ok (.getfield 36, 3) := by decide +kernel
theorem dX9_isThing_9 : decode cX9_isThing 9 = .ok (.getfield 278, 3) := by decide +kernel
theorem dX9_isThing_12 : decode cX9_isThing 12 = .ok (.if_icmp .ge 7, 3) := by decide +kernel
theorem dX9_isThing_15 : decode cX9_isThing 15 = .ok (.iconst 1, 1) := by decide +kernel
theorem dX9_isThing_16 : decode cX9_isThing 16 = .ok (.goto 4, 3) := by decide +kernel
theorem dX9_isThing_19 : decode cX9_isThing 19 = .ok (.iconst 0, 1) := by decide +kernel
theorem dX9_isThing_20 : decode cX9_isThing 20 = .ok (.ireturn, 1) := by decide +kernel
theorem dX9_isCousin_0 : decode cX9_isCousin 0 = .ok (.iload_n 1, 1) := by decide +kernel
theorem dX9_isCousin_1 : decode cX9_isCousin 1 = .ok (.ifCond .lt 18, 3) := by decide +kernel
theorem dX9_isCousin_4 : decode cX9_isCousin 4 = .ok (.iload_n 1, 1) := by decide +kernel
theorem dX9_isCousin_5 : decode cX9_isCousin 5 = .ok (.aload_n 0, 1) := by decide +kernel
theorem dX9_isCousin_6 : decode cX9_isCousin 6 = .ok (.getfield 36, 3) := by decide +kernel
theorem dX9_isCousin_9 : decode cX9_isCousin 9 = .ok (.getfield 288, 3) := by decide +kernel
theorem dX9_isCousin_12 : decode cX9_isCousin 12 = .ok (.if_icmp .ge 7, 3) := by decide +kernel
theorem dX9_isCousin_15 : decode cX9_isCousin 15 = .ok (.iconst 1, 1) := by decide +kernel
theorem dX9_isCousin_16 : decode cX9_isCousin 16 = .ok (.goto 4, 3) := by decide +kernel
theorem dX9_isCousin_19 : decode cX9_isCousin 19 = .ok (.iconst 0, 1) := by decide +kernel
theorem dX9_isCousin_20 : decode cX9_isCousin 20 = .ok (.ireturn, 1) := by decide +kernel
theorem dX9_isText_0 : decode cX9_isText 0 = .ok (.iload_n 0, 1) := by decide +kernel
theorem dX9_isText_1 : decode cX9_isText 1 = .ok (.invokestatic 116, 3) := by decide +kernel
theorem dX9_isText_4 : decode cX9_isText 4 = .ok (.ireturn, 1) := by decide +kernel
theorem dX9_isBit_0 : decode cX9_isBit 0 = .ok (.iload_n 0, 1) := by decide +kernel
theorem dX9_isBit_1 : decode cX9_isBit 1 = .ok (.ifCond .eq 8, 3) := by decide +kernel
theorem dX9_isBit_4 : decode cX9_isBit 4 = .ok (.iload_n 0, 1) := by decide +kernel
theorem dX9_isBit_5 : decode cX9_isBit 5 = .ok (.iconst 1, 1) := by decide +kernel
theorem dX9_isBit_6 : decode cX9_isBit 6 = .ok (.if_icmp .ne 7, 3) := by decide +kernel
theorem dX9_isBit_9 : decode cX9_isBit 9 = .ok (.iconst 1, 1) := by decide +kernel
theorem dX9_isBit_10 : decode cX9_isBit 10 = .ok (.goto 4, 3) := by decide +kernel
theorem dX9_isBit_13 : decode cX9_isBit 13 = .ok (.iconst 0, 1) := by decide +kernel
theorem dX9_isBit_14 : decode cX9_isBit 14 = .ok (.ireturn, 1) := by decide +kernel
theorem dX9_isRowPlace_0 : decode cX9_isRowPlace 0 = .ok (.iload_n 0, 1) := by decide +kernel
theorem dX9_isRowPlace_1 : decode cX9_isRowPlace 1 = .ok (.iconst (-1), 1) := by decide +kernel
theorem dX9_isRowPlace_2 : decode cX9_isRowPlace 2 = .ok (.if_icmp .eq 10, 3) := by decide +kernel
theorem dX9_isRowPlace_5 : decode cX9_isRowPlace 5 = .ok (.iload_n 0, 1) := by decide +kernel
theorem dX9_isRowPlace_6 : decode cX9_isRowPlace 6 = .ok (.invokestatic 116, 3) := by decide +kernel
theorem dX9_isRowPlace_9 : decode cX9_isRowPlace 9 = .ok (.ifCond .eq 7, 3) := by decide +kernel
theorem dX9_isRowPlace_12 : decode cX9_isRowPlace 12 = .ok (.iconst 1, 1) := by decide +kernel
theorem dX9_isRowPlace_13 : decode cX9_isRowPlace 13 = .ok (.goto 4, 3) := by decide +kernel
theorem dX9_isRowPlace_16 : decode cX9_isRowPlace 16 = .ok (.iconst 0, 1) := by decide +kernel
theorem dX9_isRowPlace_17 : decode cX9_isRowPlace 17 = .ok (.ireturn, 1) := by decide +kernel
theorem dX9_isEighth_0 : decode cX9_isEighth 0 = .ok (.iload_n 0, 1) := by decide +kernel
theorem dX9_isEighth_1 : decode cX9_isEighth 1 = .ok (.ifCond .lt 13, 3) := by decide +kernel
theorem dX9_isEighth_4 : decode cX9_isEighth 4 = .ok (.iload_n 0, 1) := by decide +kernel
theorem dX9_isEighth_5 : decode cX9_isEighth 5 = .ok (.bipush 8, 2) := by decide +kernel
theorem dX9_isEighth_7 : decode cX9_isEighth 7 = .ok (.if_icmp .ge 7, 3) := by decide +kernel
theorem dX9_isEighth_10 : decode cX9_isEighth 10 = .ok (.iconst 1, 1) := by decide +kernel
theorem dX9_isEighth_11 : decode cX9_isEighth 11 = .ok (.goto 4, 3) := by decide +kernel
theorem dX9_isEighth_14 : decode cX9_isEighth 14 = .ok (.iconst 0, 1) := by decide +kernel
theorem dX9_isEighth_15 : decode cX9_isEighth 15 = .ok (.ireturn, 1) := by decide +kernel
theorem dX9_isHour_0 : decode cX9_isHour 0 = .ok (.iload_n 0, 1) := by decide +kernel
theorem dX9_isHour_1 : decode cX9_isHour 1 = .ok (.ifCond .lt 13, 3) := by decide +kernel
theorem dX9_isHour_4 : decode cX9_isHour 4 = .ok (.iload_n 0, 1) := by decide +kernel
theorem dX9_isHour_5 : decode cX9_isHour 5 = .ok (.bipush 24, 2) := by decide +kernel
theorem dX9_isHour_7 : decode cX9_isHour 7 = .ok (.if_icmp .ge 7, 3) := by decide +kernel
theorem dX9_isHour_10 : decode cX9_isHour 10 = .ok (.iconst 1, 1) := by decide +kernel
theorem dX9_isHour_11 : decode cX9_isHour 11 = .ok (.goto 4, 3) := by decide +kernel
theorem dX9_isHour_14 : decode cX9_isHour 14 = .ok (.iconst 0, 1) := by decide +kernel
theorem dX9_isHour_15 : decode cX9_isHour 15 = .ok (.ireturn, 1) := by decide +kernel
theorem dX9_isSheet_0 : decode cX9_isSheet 0 = .ok (.iload_n 0, 1) := by decide +kernel
theorem dX9_isSheet_1 : decode cX9_isSheet 1 = .ok (.ifCond .lt 12, 3) := by decide +kernel
theorem dX9_isSheet_4 : decode cX9_isSheet 4 = .ok (.iload_n 0, 1) := by decide +kernel
theorem dX9_isSheet_5 : decode cX9_isSheet 5 = .ok (.iconst 4, 1) := by decide +kernel
theorem dX9_isSheet_6 : decode cX9_isSheet 6 = .ok (.if_icmp .ge 7, 3) := by decide +kernel
theorem dX9_isSheet_9 : decode cX9_isSheet 9 = .ok (.iconst 1, 1) := by decide +kernel
theorem dX9_isSheet_10 : decode cX9_isSheet 10 = .ok (.goto 4, 3) := by decide +kernel
theorem dX9_isSheet_13 : decode cX9_isSheet 13 = .ok (.iconst 0, 1) := by decide +kernel
theorem dX9_isSheet_14 : decode cX9_isSheet 14 = .ok (.ireturn, 1) := by decide +kernel
theorem dX9_isForm_0 : decode cX9_isForm 0 = .ok (.iload_n 0, 1) := by decide +kernel
theorem dX9_isForm_1 : decode cX9_isForm 1 = .ok (.ifCond .lt 12, 3) := by decide +kernel
theorem dX9_isForm_4 : decode cX9_isForm 4 = .ok (.iload_n 0, 1) := by decide +kernel
theorem dX9_isForm_5 : decode cX9_isForm 5 = .ok (.iconst 2, 1) := by decide +kernel
theorem dX9_isForm_6 : decode cX9_isForm 6 = .ok (.if_icmp .gt 7, 3) := by decide +kernel
theorem dX9_isForm_9 : decode cX9_isForm 9 = .ok (.iconst 1, 1) := by decide +kernel
theorem dX9_isForm_10 : decode cX9_isForm 10 = .ok (.goto 4, 3) := by decide +kernel
theorem dX9_isForm_13 : decode cX9_isForm 13 = .ok (.iconst 0, 1) := by decide +kernel
theorem dX9_isForm_14 : decode cX9_isForm 14 = .ok (.ireturn, 1) := by decide +kernel
theorem dX10_init_0 : decode cX10_init 0 = .ok (.aload_n 0, 1) := by decide +kernel
theorem dX10_init_1 : decode cX10_init 1 = .ok (.invokespecial 1, 3) := by decide +kernel
theorem dX10_init_4 : decode cX10_init 4 = .ok (.aload_n 0, 1) := by decide +kernel
theorem dX10_init_5 : decode cX10_init 5 = .ok (.iconst 2, 1) := by decide +kernel
theorem dX10_init_6 : decode cX10_init 6 = .ok (.newarray .int, 2) := by decide +kernel
theorem dX10_init_8 : decode cX10_init 8 = .ok (.putfield 7, 3) := by decide +kernel
theorem dX10_init_11 : decode cX10_init 11 = .ok (.aload_n 0, 1) := by decide +kernel
theorem dX10_init_12 : decode cX10_init 12 = .ok (.bipush 62, 2) := by decide +kernel
theorem dX10_init_14 : decode cX10_init 14 = .ok (.newarray .int, 2) := by decide +kernel
theorem dX10_init_16 : decode cX10_init 16 = .ok (.putfield 13, 3) := by decide +kernel
theorem dX10_init_19 : decode cX10_init 19 = .ok (.aload_n 0, 1) := by decide +kernel
theorem dX10_init_20 : decode cX10_init 20 = .ok (.bipush 9, 2) := by decide +kernel
theorem dX10_init_22 : decode cX10_init 22 = .ok (.newarray .int, 2) := by decide +kernel
theorem dX10_init_24 : decode cX10_init 24 = .ok (.putfield 16, 3) := by decide +kernel
theorem dX10_init_27 : decode cX10_init 27 = .ok (.aload_n 0, 1) := by decide +kernel
theorem dX10_init_28 : decode cX10_init 28 = .ok (.bipush 9, 2) := by decide +kernel
theorem dX10_init_30 : decode cX10_init 30 = .ok (.newarray .int, 2) := by decide +kernel
theorem dX10_init_32 : decode cX10_init 32 = .ok (.putfield 19, 3) := by decide +kernel
theorem dX10_init_35 : decode cX10_init 35 = .ok (.aload_n 0, 1) := by decide +kernel
theorem dX10_init_36 : decode cX10_init 36 = .ok (.bipush 9, 2) := by decide +kernel
theorem dX10_init_38 : decode cX10_init 38 = .ok (.newarray .int, 2) := by decide +kernel
theorem dX10_init_40 : decode cX10_init 40 = .ok (.putfield 22, 3) := by decide +kernel
theorem dX10_init_43 : decode cX10_init 43 = .ok (.aload_n 0, 1) := by decide +kernel
theorem dX10_init_44 : decode cX10_init 44 = .ok (.bipush 9, 2) := by decide +kernel
theorem dX10_init_46 : decode cX10_init 46 = .ok (.newarray .int, 2) := by decide +kernel
theorem dX10_init_48 : decode cX10_init 48 = .ok (.putfield 25, 3) := by decide +kernel
theorem dX10_init_51 : decode cX10_init 51 = .ok (.aload_n 0, 1) := by decide +kernel
theorem dX10_init_52 : decode cX10_init 52 = .ok (.bipush 9, 2) := by decide +kernel
theorem dX10_init_54 : decode cX10_init 54 = .ok (.newarray .int, 2) := by decide +kernel
theorem dX10_init_56 : decode cX10_init 56 = .ok (.putfield 28, 3) := by decide +kernel
theorem dX10_init_59 : decode cX10_init 59 = .ok (.aload_n 0, 1) := by decide +kernel
theorem dX10_init_60 : decode cX10_init 60 = .ok (.bipush 44, 2) := by decide +kernel
theorem dX10_init_62 : decode cX10_init 62 = .ok (.newarray .int, 2) := by decide +kernel
theorem dX10_init_64 : decode cX10_init 64 = .ok (.putfield 31, 3) := by decide +kernel
theorem dX10_init_67 : decode cX10_init 67 = .ok (.aload_n 0, 1) := by decide +kernel
theorem dX10_init_68 : decode cX10_init 68 = .ok (.bipush 44, 2) := by decide +kernel
theorem dX10_init_70 : decode cX10_init 70 = .ok (.newarray .int, 2) := by decide +kernel
theorem dX10_init_72 : decode cX10_init 72 = .ok (.putfield 34, 3) := by decide +kernel
theorem dX10_init_75 : decode cX10_init 75 = .ok (.aload_n 0, 1) := by decide +kernel
theorem dX10_init_76 : decode cX10_init 76 = .ok (.bipush 6, 2) := by decide +kernel
theorem dX10_init_78 : decode cX10_init 78 = .ok (.newarray .int, 2) := by decide +kernel
theorem dX10_init_80 : decode cX10_init 80 = .ok (.putfield 37, 3) := by decide +kernel
theorem dX10_init_83 : decode cX10_init 83 = .ok (.aload_n 0, 1) := by decide +kernel
theorem dX10_init_84 : decode cX10_init 84 = .ok (.bipush 6, 2) := by decide +kernel
theorem dX10_init_86 : decode cX10_init 86 = .ok (.newarray .int, 2) := by decide +kernel
theorem dX10_init_88 : decode cX10_init 88 = .ok (.putfield 40, 3) := by decide +kernel
theorem dX10_init_91 : decode cX10_init 91 = .ok (.aload_n 0, 1) := by decide +kernel
theorem dX10_init_92 : decode cX10_init 92 = .ok (.bipush 8, 2) := by decide +kernel
theorem dX10_init_94 : decode cX10_init 94 = .ok (.newarray .int, 2) := by decide +kernel
theorem dX10_init_96 : decode cX10_init 96 = .ok (.putfield 43, 3) := by decide +kernel
theorem dX10_init_99 : decode cX10_init 99 = .ok (.aload_n 0, 1) := by decide +kernel
theorem dX10_init_100 : decode cX10_init 100 = .ok (.bipush 8, 2) := by decide +kernel
theorem dX10_init_102 : decode cX10_init 102 = .ok (.newarray .int, 2) := by decide +kernel
theorem dX10_init_104 : decode cX10_init 104 = .ok (.putfield 46, 3) := by decide +kernel
theorem dX10_init_107 : decode cX10_init 107 = .ok (.aload_n 0, 1) := by decide +kernel
theorem dX10_init_108 : decode cX10_init 108 = .ok (.bipush 8, 2) := by decide +kernel
theorem dX10_init_110 : decode cX10_init 110 = .ok (.newarray .int, 2) := by decide +kernel
theorem dX10_init_112 : decode cX10_init 112 = .ok (.putfield 49, 3) := by decide +kernel
theorem dX10_init_115 : decode cX10_init 115 = .ok (.aload_n 0, 1) := by decide +kernel
theorem dX10_init_116 : decode cX10_init 116 = .ok (.bipush 8, 2) := by decide +kernel
theorem dX10_init_118 : decode cX10_init 118 = .ok (.newarray .int, 2) := by decide +kernel
theorem dX10_init_120 : decode cX10_init 120 = .ok (.putfield 52, 3) := by decide +kernel
theorem dX10_init_123 : decode cX10_init 123 = .ok (.aload_n 0, 1) := by decide +kernel
theorem dX10_init_124 : decode cX10_init 124 = .ok (.bipush 44, 2) := by decide +kernel
theorem dX10_init_126 : decode cX10_init 126 = .ok (.newarray .boolean, 2) := by decide +kernel
theorem dX10_init_128 : decode cX10_init 128 = .ok (.putfield 55, 3) := by decide +kernel
theorem dX10_init_131 : decode cX10_init 131 = .ok (.aload_n 0, 1) := by decide +kernel
theorem dX10_init_132 : decode cX10_init 132 = .ok (.bipush 8, 2) := by decide +kernel
theorem dX10_init_134 : decode cX10_init 134 = .ok (.newarray .int, 2) := by decide +kernel
theorem dX10_init_136 : decode cX10_init 136 = .ok (.putfield 59, 3) := by decide +kernel
theorem dX10_init_139 : decode cX10_init 139 = .ok (.aload_n 0, 1) := by decide +kernel
theorem dX10_init_140 : decode cX10_init 140 = .ok (.bipush 8, 2) := by decide +kernel
theorem dX10_init_142 : decode cX10_init 142 = .ok (.newarray .int, 2) := by decide +kernel
theorem dX10_init_144 : decode cX10_init 144 = .ok (.putfield 62, 3) := by decide +kernel
theorem dX10_init_147 : decode cX10_init 147 = .ok (.aload_n 0, 1) := by decide +kernel
theorem dX10_init_148 : decode cX10_init 148 = .ok (.bipush 8, 2) := by decide +kernel
theorem dX10_init_150 : decode cX10_init 150 = .ok (.newarray .int, 2) := by decide +kernel
theorem dX10_init_152 : decode cX10_init 152 = .ok (.putfield 65, 3) := by decide +kernel
theorem dX10_init_155 : decode cX10_init 155 = .ok (.aload_n 0, 1) := by decide +kernel
theorem dX10_init_156 : decode cX10_init 156 = .ok (.iconst 2, 1) := by decide +kernel
theorem dX10_init_157 : decode cX10_init 157 = .ok (.newarray .int, 2) := by decide +kernel
theorem dX10_init_159 : decode cX10_init 159 = .ok (.putfield 68, 3) := by decide +kernel
theorem dX10_init_162 : decode cX10_init 162 = .ok (.aload_n 0, 1) := by decide +kernel
theorem dX10_init_163 : decode cX10_init 163 = .ok (.bipush 20, 2) := by decide +kernel
theorem dX10_init_165 : decode cX10_init 165 = .ok (.newarray .int, 2) := by decide +kernel
theorem dX10_init_167 : decode cX10_init 167 = .ok (.putfield 71, 3) := by decide +kernel
theorem dX10_init_170 : decode cX10_init 170 = .ok (.aload_n 0, 1) := by decide +kernel
theorem dX10_init_171 : decode cX10_init 171 = .ok (.bipush 8, 2) := by decide +kernel
theorem dX10_init_173 : decode cX10_init 173 = .ok (.newarray .int, 2) := by decide +kernel
theorem dX10_init_175 : decode cX10_init 175 = .ok (.putfield 74, 3) := by decide +kernel
theorem dX10_init_178 : decode cX10_init 178 = .ok (.aload_n 0, 1) := by decide +kernel
theorem dX10_init_179 : decode cX10_init 179 = .ok (.bipush 8, 2) := by decide +kernel
theorem dX10_init_181 : decode cX10_init 181 = .ok (.newarray .int, 2) := by decide +kernel
theorem dX10_init_183 : decode cX10_init 183 = .ok (.putfield 77, 3) := by decide +kernel
theorem dX10_init_186 : decode cX10_init 186 = .ok (.aload_n 0, 1) := by decide +kernel
theorem dX10_init_187 : decode cX10_init 187 = .ok (.bipush 8, 2) := by decide +kernel
theorem dX10_init_189 : decode cX10_init 189 = .ok (.newarray .int, 2) := by decide +kernel
theorem dX10_init_191 : decode cX10_init 191 = .ok (.putfield 80, 3) := by decide +kernel
theorem dX10_init_194 : decode cX10_init 194 = .ok (.aload_n 0, 1) := by decide +kernel
theorem dX10_init_195 : decode cX10_init 195 = .ok (.bipush 8, 2) := by decide +kernel
theorem dX10_init_197 : decode cX10_init 197 = .ok (.newarray .int, 2) := by decide +kernel
theorem dX10_init_199 : decode cX10_init 199 = .ok (.putfield 83, 3) := by decide +kernel
theorem dX10_init_202 : decode cX10_init 202 = .ok (.aload_n 0, 1) := by decide +kernel
theorem dX10_init_203 : decode cX10_init 203 = .ok (.bipush 24, 2) := by decide +kernel
theorem dX10_init_205 : decode cX10_init 205 = .ok (.newarray .int, 2) := by decide +kernel
theorem dX10_init_207 : decode cX10_init 207 = .ok (.putfield 86, 3) := by decide +kernel
theorem dX10_init_210 : decode cX10_init 210 = .ok (.aload_n 0, 1) := by decide +kernel
theorem dX10_init_211 : decode cX10_init 211 = .ok (.iconst 4, 1) := by decide +kernel
theorem dX10_init_212 : decode cX10_init 212 = .ok (.newarray .boolean, 2) := by decide +kernel
theorem dX10_init_214 : decode cX10_init 214 = .ok (.putfield 89, 3) := by decide +kernel
theorem dX10_init_217 : decode cX10_init 217 = .ok (.aload_n 0, 1) := by decide +kernel
theorem dX10_init_218 : decode cX10_init 218 = .ok (.iconst 4, 1) := by decide +kernel
theorem dX10_init_219 : decode cX10_init 219 = .ok (.newarray .int, 2) := by decide +kernel
theorem dX10_init_221 : decode cX10_init 221 = .ok (.putfield 92, 3) := by decide +kernel
theorem dX10_init_224 : decode cX10_init 224 = .ok (.aload_n 0, 1) := by decide +kernel
theorem dX10_init_225 : decode cX10_init 225 = .ok (.iconst 4, 1) := by decide +kernel
theorem dX10_init_226 : decode cX10_init 226 = .ok (.newarray .int, 2) := by decide +kernel
theorem dX10_init_228 : decode cX10_init 228 = .ok (.putfield 95, 3) := by decide +kernel
theorem dX10_init_231 : decode cX10_init 231 = .ok (.aload_n 0, 1) := by decide +kernel
theorem dX10_init_232 : decode cX10_init 232 = .ok (.sipush 240, 3) := by decide +kernel
theorem dX10_init_235 : decode cX10_init 235 = .ok (.newarray .int, 2) := by decide +kernel
theorem dX10_init_237 : decode cX10_init 237 = .ok (.putfield 98, 3) := by decide +kernel
theorem dX10_init_240 : decode cX10_init 240 = .ok (.aload_n 0, 1) := by decide +kernel
theorem dX10_init_241 : decode cX10_init 241 = .ok (.bipush 60, 2) := by decide +kernel
theorem dX10_init_243 : decode cX10_init 243 = .ok (.newarray .int, 2) := by decide +kernel
theorem dX10_init_245 : decode cX10_init 245 = .ok (.putfield 101, 3) := by decide +kernel
theorem dX10_init_248 : decode cX10_init 248 = .ok (.aload_n 0, 1) := by decide +kernel
theorem dX10_init_249 : decode cX10_init 249 = .ok (.bipush 20, 2) := by decide +kernel
theorem dX10_init_251 : decode cX10_init 251 = .ok (.putfield 104, 3) := by decide +kernel
theorem dX10_init_254 : decode cX10_init 254 = .ok (.return_, 1) := by decide +kernel
theorem dX10_in_0 : decode cX10_in 0 = .ok (.iload_n 0, 1) := by decide +kernel
theorem dX10_in_1 : decode cX10_in 1 = .ok (.iload_n 1, 1) := by decide +kernel
theorem dX10_in_2 : decode cX10_in 2 = .ok (.if_icmp .lt 12, 3) := by decide +kernel
theorem dX10_in_5 : decode cX10_in 5 = .ok (.iload_n 0, 1) := by decide +kernel
theorem dX10_in_6 : decode cX10_in 6 = .ok (.iload_n 2, 1) := by decide +kernel
theorem dX10_in_7 : decode cX10_in 7 = .ok (.if_icmp .gt 7, 3) := by decide +kernel
theorem dX10_in_10 : decode cX10_in 10 = .ok (.iconst 1, 1) := by decide +kernel
theorem dX10_in_11 : decode cX10_in 11 = .ok (.goto 4, 3) := by decide +kernel
theorem dX10_in_14 : decode cX10_in 14 = .ok (.iconst 0, 1) := by decide +kernel
theorem dX10_in_15 : decode cX10_in 15 = .ok (.ireturn, 1) := by decide +kernel
theorem dX10_isIn_0 : decode cX10_isIn 0 = .ok (.iload_n 0, 1) := by decide +kernel
theorem dX10_isIn_1 : decode cX10_isIn 1 = .ok (.iload_n 1, 1) := by decide +kernel
theorem dX10_isIn_2 : decode cX10_isIn 2 = .ok (.ishr, 1) := by decide +kernel
theorem dX10_isIn_3 : decode cX10_isIn 3 = .ok (.iconst 1, 1) := by decide +kernel
theorem dX10_isIn_4 : decode cX10_isIn 4 = .ok (.iand, 1) := by decide +kernel
theorem dX10_isIn_5 : decode cX10_isIn 5 = .ok (.iconst 1, 1) := by decide +kernel
theorem dX10_isIn_6 : decode cX10_isIn 6 = .ok (.if_icmp .ne 7, 3) := by decide +kernel
theorem dX10_isIn_9 : decode cX10_isIn 9 = .ok (.iconst 1, 1) := by decide +kernel
theorem dX10_isIn_10 : decode cX10_isIn 10 = .ok (.goto 4, 3) := by decide +kernel
theorem dX10_isIn_13 : decode cX10_isIn 13 = .ok (.iconst 0, 1) := by decide +kernel
theorem dX10_isIn_14 : decode cX10_isIn 14 = .ok (.ireturn, 1) := by decide +kernel
theorem dX10_no_0 : decode cX10_no 0 = .ok (.ldc2_w 108, 3) := by decide +kernel
theorem dX10_no_3 : decode cX10_no 3 = .ok (.iload_n 0, 1) := by decide +kernel
theorem dX10_no_4 : decode cX10_no 4 = .ok (.i2l, 1) := by decide +kernel
theorem dX10_no_5 : decode cX10_no 5 = .ok (.lsub, 1) := by decide +kernel
theorem dX10_no_6 : decode cX10_no 6 = .ok (.lreturn, 1) := by decide +kernel
theorem dX10_lowest_0 : decode cX10_lowest 0 = .ok (.lload_n 0, 1) := by decide +kernel
theorem dX10_lowest_1 : decode cX10_lowest 1 = .ok (.lstore 5, 2) := by decide +kernel
theorem dX10_lowest_3 : decode cX10_lowest 3 = .ok (.lload_n 2, 1) := by decide +kernel
theorem dX10_lowest_4 : decode cX10_lowest 4 = .ok (.lstore 7, 2) := by decide +kernel
theorem dX10_lowest_6 : decode cX10_lowest 6 = .ok (.lload 7, 2) := by decide +kernel
theorem dX10_lowest_8 : decode cX10_lowest 8 = .ok (.lconst 0, 1) := by decide +kernel
theorem dX10_lowest_9 : decode cX10_lowest 9 = .ok (.lcmp, 1) := by decide +kernel
theorem dX10_lowest_10 : decode cX10_lowest 10 = .ok (.ifCond .eq 21, 3) := by decide +kernel
theorem dX10_lowest_13 : decode cX10_lowest 13 = .ok (.lload 5, 2) := by decide +kernel
theorem dX10_lowest_15 : decode cX10_lowest 15 = .ok (.lload 7, 2) := by decide +kernel
theorem dX10_lowest_17 : decode cX10_lowest 17 = .ok (.lrem, 1) := by decide +kernel
theorem dX10_lowest_18 : decode cX10_lowest 18 = .ok (.lstore 9, 2) := by decide +kernel
theorem dX10_lowest_20 : decode cX10_lowest 20 = .ok (.lload 7, 2) := by decide +kernel
theorem dX10_lowest_22 : decode cX10_lowest 22 = .ok (.lstore 5, 2) := by decide +kernel
theorem dX10_lowest_24 : decode cX10_lowest 24 = .ok (.lload 9, 2) := by decide +kernel
theorem dX10_lowest_26 : decode cX10_lowest 26 = .ok (.lstore 7, 2) := by decide +kernel
theorem dX10_lowest_28 : decode cX10_lowest 28 = .ok (.goto (-22), 3) := by decide +kernel
theorem dX10_lowest_31 : decode cX10_lowest 31 = .ok (.iload 4, 2) := by decide +kernel
theorem dX10_lowest_33 : decode cX10_lowest 33 = .ok (.ifCond .ne 10, 3) := by decide +kernel
theorem dX10_lowest_36 : decode cX10_lowest 36 = .ok (.lload_n 0, 1) := by decide +kernel
theorem dX10_lowest_37 : decode cX10_lowest 37 = .ok (.lload 5, 2) := by decide +kernel
theorem dX10_lowest_39 : decode cX10_lowest 39 = .ok (.ldiv, 1) := by decide +kernel
theorem dX10_lowest_40 : decode cX10_lowest 40 = .ok (.goto 7, 3) := by decide +kernel
theorem dX10_lowest_43 : decode cX10_lowest 43 = .ok (.lload_n 2, 1) := by decide +kernel
theorem dX10_lowest_44 : decode cX10_lowest 44 = .ok (.lload 5, 2) := by decide +kernel
theorem dX10_lowest_46 : decode cX10_lowest 46 = .ok (.ldiv, 1) := by decide +kernel
theorem dX10_lowest_47 : decode cX10_lowest 47 = .ok (.lreturn, 1) := by decide +kernel
theorem dX10_isText_0 : decode cX10_isText 0 = .ok (.iload_n 0, 1) := by decide +kernel
theorem dX10_isText_1 : decode cX10_isText 1 = .ok (.iconst 0, 1) := by decide +kernel
theorem dX10_isText_2 : decode cX10_isText 2 = .ok (.iconst 1, 1) := by decide +kernel
theorem dX10_isText_3 : decode cX10_isText 3 = .ok (.invokestatic 110, 3) := by decide +kernel
theorem dX10_isText_6 : decode cX10_isText 6 = .ok (.ireturn, 1) := by decide +kernel
theorem dX10_isEight_0 : decode cX10_isEight 0 = .ok (.iload_n 0, 1) := by decide +kernel
theorem dX10_isEight_1 : decode cX10_isEight 1 = .ok (.iconst 0, 1) := by decide +kernel
theorem dX10_isEight_2 : decode cX10_isEight 2 = .ok (.bipush 7, 2) := by decide +kernel
theorem dX10_isEight_4 : decode cX10_isEight 4 = .ok (.invokestatic 110, 3) := by decide +kernel
theorem dX10_isEight_7 : decode cX10_isEight 7 = .ok (.ireturn, 1) := by decide +kernel
theorem dX10_isHour_0 : decode cX10_isHour 0 = .ok (.iload_n 0, 1) := by decide +kernel
theorem dX10_isHour_1 : decode cX10_isHour 1 = .ok (.iconst 0, 1) := by decide +kernel
theorem dX10_isHour_2 : decode cX10_isHour 2 = .ok (.bipush 23, 2) := by decide +kernel
theorem dX10_isHour_4 : decode cX10_isHour 4 = .ok (.invokestatic 110, 3) := by decide +kernel
theorem dX10_isHour_7 : decode cX10_isHour 7 = .ok (.ireturn, 1) := by decide +kernel
theorem dX10_type_0 : decode cX10_type 0 = .ok (.iload_n 1, 1) := by decide +kernel
theorem dX10_type_1 : decode cX10_type 1 = .ok (.invokestatic 114, 3) := by decide +kernel
theorem dX10_type_4 : decode cX10_type 4 = .ok (.ifCond .eq 14, 3) := by decide +kernel
theorem dX10_type_7 : decode cX10_type 7 = .ok (.iload_n 2, 1) := by decide +kernel
theorem dX10_type_8 : decode cX10_type 8 = .ok (.iconst 0, 1) := by decide +kernel
theorem dX10_type_9 : decode cX10_type 9 = .ok (.sipush 255, 3) := by decide +kernel
theorem dX10_type_12 : decode cX10_type 12 = .ok (.invokestatic 110, 3) := by decide +kernel
theorem dX10_type_15 : decode cX10_type 15 = .ok (.ifCond .ne 6, 3) := by decide +kernel
theorem dX10_type_18 : decode cX10_type 18 = .ok (.bipush (-2), 2) := by decide +kernel
theorem dX10_type_20 : decode cX10_type 20 = .ok (.ireturn, 1) := by decide +kernel
theorem dX10_type_21 : decode cX10_type 21 = .ok (.aload_n 0, 1) := by decide +kernel
theorem dX10_type_22 : decode cX10_type 22 = .ok (.getfield 7, 3) := by decide +kernel
theorem dX10_type_25 : decode cX10_type 25 = .ok (.iload_n 1, 1) := by decide +kernel
theorem dX10_type_26 : decode cX10_type 26 = .ok (.iaload, 1) := by decide +kernel
theorem dX10_type_27 : decode cX10_type 27 = .ok (.iload_n 1, 1) := by decide +kernel
theorem dX10_type_28 : decode cX10_type 28 = .ok (.ifCond .ne 8, 3) := by decide +kernel
theorem dX10_type_31 : decode cX10_type 31 = .ok (.bipush 31, 2) := by decide +kernel
theorem dX10_type_33 : decode cX10_type 33 = .ok (.goto 5, 3) := by decide +kernel
theorem dX10_type_36 : decode cX10_type 36 = .ok (.bipush 23, 2) := by decide +kernel
theorem dX10_type_38 : decode cX10_type 38 = .ok (.if_icmp .ne 6, 3) := by decide +kernel
theorem dX10_type_41 : decode cX10_type 41 = .ok (.bipush (-4), 2) := by decide +kernel
theorem dX10_type_43 : decode cX10_type 43 = .ok (.ireturn, 1) := by decide +kernel
theorem dX10_type_44 : decode cX10_type 44 = .ok (.aload_n 0, 1) := by decide +kernel
theorem dX10_type_45 : decode cX10_type 45 = .ok (.getfield 13, 3) := by decide +kernel
theorem dX10_type_48 : decode cX10_type 48 = .ok (.bipush 31, 2) := by decide +kernel
theorem dX10_type_50 : decode cX10_type 50 = .ok (.iload_n 1, 1) := by decide +kernel
theorem dX10_type_51 : decode cX10_type 51 = .ok (.imul, 1) := by decide +kernel
theorem dX10_type_52 : decode cX10_type 52 = .ok (.aload_n 0, 1) := by decide +kernel
theorem dX10_type_53 : decode cX10_type 53 = .ok (.getfield 7, 3) := by decide +kernel
theorem dX10_type_56 : decode cX10_type 56 = .ok (.iload_n 1, 1) := by decide +kernel
theorem dX10_type_57 : decode cX10_type 57 = .ok (.iaload, 1) := by decide +kernel
theorem dX10_type_58 : decode cX10_type 58 = .ok (.iadd, 1) := by decide +kernel
theorem dX10_type_59 : decode cX10_type 59 = .ok (.iload_n 2, 1) := by decide +kernel
theorem dX10_type_60 : decode cX10_type 60 = .ok (.iastore, 1) := by decide +kernel
theorem dX10_type_61 : decode cX10_type 61 = .ok (.aload_n 0, 1) := by decide +kernel
theorem dX10_type_62 : decode cX10_type 62 = .ok (.getfield 7, 3) := by decide +kernel
theorem dX10_type_65 : decode cX10_type 65 = .ok (.iload_n 1, 1) := by decide +kernel
theorem dX10_type_66 : decode cX10_type 66 = .ok (.dup2, 1) := by decide +kernel
theorem dX10_type_67 : decode cX10_type 67 = .ok (.iaload, 1) := by decide +kernel
theorem dX10_type_68 : decode cX10_type 68 = .ok (.iconst 1, 1) := by decide +kernel
theorem dX10_type_69 : decode cX10_type 69 = .ok (.iadd, 1) := by decide +kernel
theorem dX10_type_70 : decode cX10_type 70 = .ok (.iastore, 1) := by decide +kernel
theorem dX10_type_71 : decode cX10_type 71 = .ok (.aload_n 0, 1) := by decide +kernel
theorem dX10_type_72 : decode cX10_type 72 = .ok (.getfield 7, 3) := by decide +kernel
theorem dX10_type_75 : decode cX10_type 75 = .ok (.iload_n 1, 1) := by decide +kernel
theorem dX10_type_76 : decode cX10_type 76 = .ok (.iaload, 1) := by decide +kernel
theorem dX10_type_77 : decode cX10_type 77 = .ok (.ireturn, 1) := by decide +kernel
theorem dX10_wipe_0 : decode cX10_wipe 0 = .ok (.iload_n 1, 1) := by decide +kernel
theorem dX10_wipe_1 : decode cX10_wipe 1 = .ok (.invokestatic 114, 3) := by decide +kernel
theorem dX10_wipe_4 : decode cX10_wipe 4 = .ok (.ifCond .ne 6, 3) := by decide +kernel
theorem dX10_wipe_7 : decode cX10_wipe 7 = .ok (.bipush (-2), 2) := by decide +kernel
theorem dX10_wipe_9 : decode cX10_wipe 9 = .ok (.ireturn, 1) := by decide +kernel
theorem dX10_wipe_10 : decode cX10_wipe 10 = .ok (.aload_n 0, 1) := by decide +kernel
theorem dX10_wipe_11 : decode cX10_wipe 11 = .ok (.getfield 7, 3) := by decide +kernel
theorem dX10_wipe_14 : decode cX10_wipe 14 = .ok (.iload_n 1, 1) := by decide +kernel
theorem dX10_wipe_15 : decode cX10_wipe 15 = .ok (.iaload, 1) := by decide +kernel
theorem dX10_wipe_16 : decode cX10_wipe 16 = .ok (.istore_n 2, 1) := by decide +kernel
theorem dX10_wipe_17 : decode cX10_wipe 17 = .ok (.aload_n 0, 1) := by decide +kernel
theorem dX10_wipe_18 : decode cX10_wipe 18 = .ok (.getfield 7, 3) := by decide +kernel
theorem dX10_wipe_21 : decode cX10_wipe 21 = .ok (.iload_n 1, 1) := by decide +kernel
theorem dX10_wipe_22 : decode cX10_wipe 22 = .ok (.iconst 0, 1) := by decide +kernel
theorem dX10_wipe_23 : decode cX10_wipe 23 = .ok (.iastore, 1) := by decide +kernel
theorem dX10_wipe_24 : decode cX10_wipe 24 = .ok (.iload_n 2, 1) := by decide +kernel
theorem dX10_wipe_25 : decode cX10_wipe 25 = .ok (.ireturn, 1) := by decide +kernel
theorem dX10_undo_0 : decode cX10_undo 0 = .ok (.iload_n 1, 1) := by decide +kernel
theorem dX10_undo_1 : decode cX10_undo 1 = .ok (.invokestatic 114, 3) := by decide +kernel
theorem dX10_undo_4 : decode cX10_undo 4 = .ok (.ifCond .ne 6, 3) := by decide +kernel
theorem dX10_undo_7 : decode cX10_undo 7 = .ok (.bipush (-2), 2) := by decide +kernel
theorem dX10_undo_9 : decode cX10_undo 9 = .ok (.ireturn, 1) := by decide +kernel
theorem dX10_undo_10 : decode cX10_undo 10 = .ok (.aload_n 0, 1) := by decide +kernel
theorem dX10_undo_11 : decode cX10_undo 11 = .ok (.getfield 7, 3) := by decide +kernel
theorem dX10_undo_14 : decode cX10_undo 14 = .ok (.iload_n 1, 1) := by decide +kernel
theorem dX10_undo_15 : decode cX10_undo 15 = .ok (.iaload, 1) := by decide +kernel
theorem dX10_undo_16 : decode cX10_undo 16 = .ok (.ifCond .ne 6, 3) := by decide +kernel
theorem dX10_undo_19 : decode cX10_undo 19 = .ok (.bipush (-3), 2) := by decide +kernel
theorem dX10_undo_21 : decode cX10_undo 21 = .ok (.ireturn, 1) := by decide +kernel
theorem dX10_undo_22 : decode cX10_undo 22 = .ok (.aload_n 0, 1) := by decide +kernel
theorem dX10_undo_23 : decode cX10_undo 23 = .ok (.getfield 7, 3) := by decide +kernel
theorem dX10_undo_26 : decode cX10_undo 26 = .ok (.iload_n 1, 1) := by decide +kernel
theorem dX10_undo_27 : decode cX10_undo 27 = .ok (.dup2, 1) := by decide +kernel
theorem dX10_undo_28 : decode cX10_undo 28 = .ok (.iaload, 1) := by decide +kernel
theorem dX10_undo_29 : decode cX10_undo 29 = .ok (.iconst 1, 1) := by decide +kernel
theorem dX10_undo_30 : decode cX10_undo 30 = .ok (.isub, 1) := by decide +kernel
theorem dX10_undo_31 : decode cX10_undo 31 = .ok (.iastore, 1) := by decide +kernel
theorem dX10_undo_32 : decode cX10_undo 32 = .ok (.aload_n 0, 1) := by decide +kernel
theorem dX10_undo_33 : decode cX10_undo 33 = .ok (.getfield 7, 3) := by decide +kernel
theorem dX10_undo_36 : decode cX10_undo 36 = .ok (.iload_n 1, 1) := by decide +kernel
theorem dX10_undo_37 : decode cX10_undo 37 = .ok (.iaload, 1) := by decide +kernel
theorem dX10_undo_38 : decode cX10_undo 38 = .ok (.ireturn, 1) := by decide +kernel
theorem dX10_byteAt_0 : decode cX10_byteAt 0 = .ok (.iload_n 2, 1) := by decide +kernel
theorem dX10_byteAt_1 : decode cX10_byteAt 1 = .ok (.aload_n 0, 1) := by decide +kernel
theorem dX10_byteAt_2 : decode cX10_byteAt 2 = .ok (.getfield 7, 3) := by decide +kernel
theorem dX10_byteAt_5 : decode cX10_byteAt 5 = .ok (.iload_n 1, 1) := by decide +kernel
theorem dX10_byteAt_6 : decode cX10_byteAt 6 = .ok (.iaload, 1) := by decide +kernel
theorem dX10_byteAt_7 : decode cX10_byteAt 7 = .ok (.if_icmp .ge 17, 3) := by decide +kernel
theorem dX10_byteAt_10 : decode cX10_byteAt 10 = .ok (.aload_n 0, 1) := by decide +kernel
theorem dX10_byteAt_11 : decode cX10_byteAt 11 = .ok (.getfield 13, 3) := by decide +kernel
theorem dX10_byteAt_14 : decode cX10_byteAt 14 = .ok (.bipush 31, 2) := by decide +kernel
theorem dX10_byteAt_16 : decode cX10_byteAt 16 = .ok (.iload_n 1, 1) := by decide +kernel
theorem dX10_byteAt_17 : decode cX10_byteAt 17 = .ok (.imul, 1) := by decide +kernel
theorem dX10_byteAt_18 : decode cX10_byteAt 18 = .ok (.iload_n 2, 1) := by decide +kernel
theorem dX10_byteAt_19 : decode cX10_byteAt 19 = .ok (.iadd, 1) := by decide +kernel
theorem dX10_byteAt_20 : decode cX10_byteAt 20 = .ok (.iaload, 1) := by decide +kernel
theorem dX10_byteAt_21 : decode cX10_byteAt 21 = .ok (.goto 4, 3) := by decide +kernel
theorem dX10_byteAt_24 : decode cX10_byteAt 24 = .ok (.iconst (-1), 1) := by decide +kernel
theorem dX10_byteAt_25 : decode cX10_byteAt 25 = .ok (.ireturn, 1) := by decide +kernel
theorem dX10_readsThing_0 : decode cX10_readsThing 0 = .ok (.aload_n 0, 1) := by decide +kernel
theorem dX10_readsThing_1 : decode cX10_readsThing 1 = .ok (.iconst 0, 1) := by decide +kernel
theorem dX10_readsThing_2 : decode cX10_readsThing 2 = .ok (.iload_n 2, 1) := by decide +kernel
theorem dX10_readsThing_3 : decode cX10_readsThing 3 = .ok (.invokevirtual 118, 3) := by decide +kernel
theorem dX10_readsThing_6 : decode cX10_readsThing 6 = .ok (.bipush 48, 2) := by decide +kernel
theorem dX10_readsThing_8 : decode cX10_readsThing 8 = .ok (.isub, 1) := by decide +kernel
theorem dX10_readsThing_9 : decode cX10_readsThing 9 = .ok (.istore_n 3, 1) := by decide +kernel
theorem dX10_readsThing_10 : decode cX10_readsThing 10 = .ok (.aload_n 0, 1) := by decide +kernel
theorem dX10_readsThing_11 : decode cX10_readsThing 11 = .ok (.iconst 0, 1) := by decide +kernel
theorem dX10_readsThing_12 : decode cX10_readsThing 12 = .ok (.iload_n 2, 1) := by decide +kernel
theorem dX10_readsThing_13 : decode cX10_readsThing 13 = .ok (.iconst 1, 1) := by decide +kernel
theorem dX10_readsThing_14 : decode cX10_readsThing 14 = .ok (.iadd, 1) := by decide +kernel
theorem dX10_readsThing_15 : decode cX10_readsThing 15 = .ok (.invokevirtual 118, 3) := by decide +kernel
theorem dX10_readsThing_18 : decode cX10_readsThing 18 = .ok (.bipush 48, 2) := by decide +kernel
theorem dX10_readsThing_20 : decode cX10_readsThing 20 = .ok (.isub, 1) := by decide +kernel
theorem dX10_readsThing_21 : decode cX10_readsThing 21 = .ok (.istore 4, 2) := by decide +kernel
theorem dX10_readsThing_23 : decode cX10_readsThing 23 = .ok (.aload_n 0, 1) := by decide +kernel
theorem dX10_readsThing_24 : decode cX10_readsThing 24 = .ok (.iconst 0, 1) := by decide +kernel
theorem dX10_readsThing_25 : decode cX10_readsThing 25 = .ok (.iload_n 2, 1) := by decide +kernel
theorem dX10_readsThing_26 : decode cX10_readsThing 26 = .ok (.iconst 2, 1) := by decide +kernel
theorem dX10_readsThing_27 : decode cX10_readsThing 27 = .ok (.iadd, 1) := by decide +kernel
theorem dX10_readsThing_28 : decode cX10_readsThing 28 = .ok (.invokevirtual 118, 3) := by decide +kernel
theorem dX10_readsThing_31 : decode cX10_readsThing 31 = .ok (.istore 5, 2) := by decide +kernel
theorem dX10_readsThing_33 : decode cX10_readsThing 33 = .ok (.iload 5, 2) := by decide +kernel
theorem dX10_readsThing_35 : decode cX10_readsThing 35 = .ok (.bipush 111, 2) := by decide +kernel
theorem dX10_readsThing_37 : decode cX10_readsThing 37 = .ok (.if_icmp .ne 7, 3) := by decide +kernel
theorem dX10_readsThing_40 : decode cX10_readsThing 40 = .ok (.iconst 0, 1) := by decide +kernel
theorem dX10_readsThing_41 : decode cX10_readsThing 41 = .ok (.goto 26, 3) := by decide +kernel
theorem dX10_readsThing_44 : decode cX10_readsThing 44 = .ok (.iload 5, 2) := by decide +kernel
theorem dX10_readsThing_46 : decode cX10_readsThing 46 = .ok (.bipush 115, 2) := by decide +kernel
theorem dX10_readsThing_48 : decode cX10_readsThing 48 = .ok (.if_icmp .ne 7, 3) := by decide +kernel
theorem dX10_readsThing_51 : decode cX10_readsThing 51 = .ok (.iconst 1, 1) := by decide +kernel
theorem dX10_readsThing_52 : decode cX10_readsThing 52 = .ok (.goto 15, 3) := by decide +kernel
theorem dX10_readsThing_55 : decode cX10_readsThing 55 = .ok (.iload 5, 2) := by decide +kernel
theorem dX10_readsThing_57 : decode cX10_readsThing 57 = .ok (.bipush 102, 2) := by decide +kernel
theorem dX10_readsThing_59 : decode cX10_readsThing 59 = .ok (.if_icmp .ne 7, 3) := by decide +kernel
theorem dX10_readsThing_62 : decode cX10_readsThing 62 = .ok (.iconst 2, 1) := by decide +kernel
theorem dX10_readsThing_63 : decode cX10_readsThing 63 = .ok (.goto 4, 3) := by decide +kernel
theorem dX10_readsThing_66 : decode cX10_readsThing 66 = .ok (.iconst (-1), 1) := by decide +kernel
theorem dX10_readsThing_67 : decode cX10_readsThing 67 = .ok (.istore 6, 2) := by decide +kernel
theorem dX10_readsThing_69 : decode cX10_readsThing 69 = .ok (.iload_n 3, 1) := by decide +kernel
theorem dX10_readsThing_70 : decode cX10_readsThing 70 = .ok (.iconst 1, 1) := by decide +kernel
theorem dX10_readsThing_71 : decode cX10_readsThing 71 = .ok (.bipush 9, 2) := by decide +kernel
theorem dX10_readsThing_73 : decode cX10_readsThing 73 = .ok (.invokestatic 110, 3) := by decide +kernel
theorem dX10_readsThing_76 : decode cX10_readsThing 76 = .ok (.ifCond .ne 5, 3) := by decide +kernel
theorem dX10_readsThing_79 : decode cX10_readsThing 79 = .ok (.iconst 0, 1) := by decide +kernel
theorem dX10_readsThing_80 : decode cX10_readsThing 80 = .ok (.ireturn, 1) := by decide +kernel
theorem dX10_readsThing_81 : decode cX10_readsThing 81 = .ok (.iload 4, 2) := by decide +kernel
theorem dX10_readsThing_83 : decode cX10_readsThing 83 = .ok (.invokestatic 122, 3) := by decide +kernel
theorem dX10_readsThing_86 : decode cX10_readsThing 86 = .ok (.ifCond .ne 5, 3) := by decide +kernel
theorem dX10_readsThing_89 : decode cX10_readsThing 89 = .ok (.iconst 1, 1) := by decide +kernel
theorem dX10_readsThing_90 : decode cX10_readsThing 90 = .ok (.ireturn, 1) := by decide +kernel
theorem dX10_readsThing_91 : decode cX10_readsThing 91 = .ok (.iload 6, 2) := by decide +kernel
theorem dX10_readsThing_93 : decode cX10_readsThing 93 = .ok (.iconst (-1), 1) := by decide +kernel
theorem dX10_readsThing_94 : decode cX10_readsThing 94 = .ok (.if_icmp .ne 5, 3) := by decide +kernel
theorem dX10_readsThing_97 : decode cX10_readsThing 97 = .ok (.iconst 2, 1) := by decide +kernel
theorem dX10_readsThing_98 : decode cX10_readsThing 98 = .ok (.ireturn, 1) := by decide +kernel
theorem dX10_readsThing_99 : decode cX10_readsThing 99 = .ok (.aload_n 0, 1) := by decide +kernel
theorem dX10_readsThing_100 : decode cX10_readsThing 100 = .ok (.getfield 16, 3) := by decide +kernel
theorem dX10_readsThing_103 : decode cX10_readsThing 103 = .ok (.iload_n 1, 1) := by decide +kernel
theorem dX10_readsThing_104 : decode cX10_readsThing 104 = .ok (.iload_n 3, 1) := by decide +kernel
theorem dX10_readsThing_105 : decode cX10_readsThing 105 = .ok (.iastore, 1) := by decide +kernel
theorem dX10_readsThing_106 : decode cX10_readsThing 106 = .ok (.aload_n 0, 1) := by decide +kernel
theorem dX10_readsThing_107 : decode cX10_readsThing 107 = .ok (.getfield 19, 3) := by decide +kernel
theorem dX10_readsThing_110 : decode cX10_readsThing 110 = .ok (.iload_n 1, 1) := by decide +kernel
theorem dX10_readsThing_111 : decode cX10_readsThing 111 = .ok (.iload 4, 2) := by decide +kernel
theorem dX10_readsThing_113 : decode cX10_readsThing 113 = .ok (.iastore, 1) := by decide +kernel
theorem dX10_readsThing_114 : decode cX10_readsThing 114 = .ok (.aload_n 0, 1) := by decide +kernel
theorem dX10_readsThing_115 : decode cX10_readsThing 115 = .ok (.getfield 22, 3) := by decide +kernel
theorem dX10_readsThing_118 : decode cX10_readsThing 118 = .ok (.iload_n 1, 1) := by decide +kernel
theorem dX10_readsThing_119 : decode cX10_readsThing 119 = .ok (.iload 6, 2) := by decide +kernel
theorem dX10_readsThing_121 : decode cX10_readsThing 121 = .ok (.iastore, 1) := by decide +kernel
theorem dX10_readsThing_122 : decode cX10_readsThing 122 = .ok (.iconst 3, 1) := by decide +kernel
theorem dX10_readsThing_123 : decode cX10_readsThing 123 = .ok (.ireturn, 1) := by decide +kernel
theorem dX10_readsCousin_0 : decode cX10_readsCousin 0 = .ok (.aload_n 0, 1) := by decide +kernel
theorem dX10_readsCousin_1 : decode cX10_readsCousin 1 = .ok (.iconst 1, 1) := by decide +kernel
theorem dX10_readsCousin_2 : decode cX10_readsCousin 2 = .ok (.iload_n 2, 1) := by decide +kernel
theorem dX10_readsCousin_3 : decode cX10_readsCousin 3 = .ok (.invokevirtual 118, 3) := by decide +kernel
theorem dX10_readsCousin_6 : decode cX10_readsCousin 6 = .ok (.istore_n 3, 1) := by decide +kernel
theorem dX10_readsCousin_7 : decode cX10_readsCousin 7 = .ok (.aload_n 0, 1) := by decide +kernel
theorem dX10_readsCousin_8 : decode cX10_readsCousin 8 = .ok (.iconst 1, 1) := by decide +kernel
theorem dX10_readsCousin_9 : decode cX10_readsCousin 9 = .ok (.iload_n 2, 1) := by decide +kernel
theorem dX10_readsCousin_10 : decode cX10_readsCousin 10 = .ok (.iconst 1, 1) := by decide +kernel
theorem dX10_readsCousin_11 : decode cX10_readsCousin 11 = .ok (.iadd, 1) := by decide +kernel
theorem dX10_readsCousin_12 : decode cX10_readsCousin 12 = .ok (.invokevirtual 118, 3) := by decide +kernel
theorem dX10_readsCousin_15 : decode cX10_readsCousin 15 = .ok (.istore 4, 2) := by decide +kernel
theorem dX10_readsCousin_17 : decode cX10_readsCousin 17 = .ok (.iload_n 3, 1) := by decide +kernel
theorem dX10_readsCousin_18 : decode cX10_readsCousin 18 = .ok (.bipush 111, 2) := by decide +kernel
theorem dX10_readsCousin_20 : decode cX10_readsCousin 20 = .ok (.if_icmp .eq 11, 3) := by decide +kernel
theorem dX10_readsCousin_23 : decode cX10_readsCousin 23 = .ok (.iload_n 3, 1) := by decide +kernel
theorem dX10_readsCousin_24 : decode cX10_readsCousin 24 = .ok (.bipush 104, 2) := by decide +kernel
theorem dX10_readsCousin_26 : decode cX10_readsCousin 26 = .ok (.if_icmp .eq 5, 3) := by decide +kernel
theorem dX10_readsCousin_29 : decode cX10_readsCousin 29 = .ok (.iconst 0, 1) := by decide +kernel
theorem dX10_readsCousin_30 : decode cX10_readsCousin 30 = .ok (.ireturn, 1) := by decide +kernel
theorem dX10_readsCousin_31 : decode cX10_readsCousin 31 = .ok (.iload 4, 2) := by decide +kernel
theorem dX10_readsCousin_33 : decode cX10_readsCousin 33 = .ok (.bipush 46, 2) := by decide +kernel
theorem dX10_readsCousin_35 : decode cX10_readsCousin 35 = .ok (.if_icmp .eq 17, 3) := by decide +kernel
theorem dX10_readsCousin_38 : decode cX10_readsCousin 38 = .ok (.iload 4, 2) := by decide +kernel
theorem dX10_readsCousin_40 : decode cX10_readsCousin 40 = .ok (.bipush 48, 2) := by decide +kernel
theorem dX10_readsCousin_42 : decode cX10_readsCousin 42 = .ok (.bipush 55, 2) := by decide +kernel
theorem dX10_readsCousin_44 : decode cX10_readsCousin 44 = .ok (.invokestatic 110, 3) := by decide +kernel
theorem dX10_readsCousin_47 : decode cX10_readsCousin 47 = .ok (.ifCond .ne 5, 3) := by decide +kernel
theorem dX10_readsCousin_50 : decode cX10_readsCousin 50 = .ok (.iconst 1, 1) := by decide +kernel
theorem dX10_readsCousin_51 : decode cX10_readsCousin 51 = .ok (.ireturn, 1) := by decide +kernel
theorem dX10_readsCousin_52 : decode cX10_readsCousin 52 = .ok (.aload_n 0, 1) := by decide +kernel
theorem dX10_readsCousin_53 : decode cX10_readsCousin 53 = .ok (.getfield 25, 3) := by decide +kernel
theorem dX10_readsCousin_56 : decode cX10_readsCousin 56 = .ok (.iload_n 1, 1) := by decide +kernel
theorem dX10_readsCousin_57 : decode cX10_readsCousin 57 = .ok (.iload_n 3, 1) := by decide +kernel
theorem dX10_readsCousin_58 : decode cX10_readsCousin 58 = .ok (.bipush 104, 2) := by decide +kernel
theorem dX10_readsCousin_60 : decode cX10_readsCousin 60 = .ok (.if_icmp .ne 7, 3) := by decide +kernel
theorem dX10_readsCousin_63 : decode cX10_readsCousin 63 = .ok (.iconst 1, 1) := by decide +kernel
theorem dX10_readsCousin_64 : decode cX10_readsCousin 64 = .ok (.goto 4, 3) := by decide +kernel
theorem dX10_readsCousin_67 : decode cX10_readsCousin 67 = .ok (.iconst 0, 1) := by decide +kernel
theorem dX10_readsCousin_68 : decode cX10_readsCousin 68 = .ok (.iastore, 1) := by decide +kernel
theorem dX10_readsCousin_69 : decode cX10_readsCousin 69 = .ok (.aload_n 0, 1) := by decide +kernel
theorem dX10_readsCousin_70 : decode cX10_readsCousin 70 = .ok (.getfield 28, 3) := by decide +kernel
theorem dX10_readsCousin_73 : decode cX10_readsCousin 73 = .ok (.iload_n 1, 1) := by decide +kernel
theorem dX10_readsCousin_74 : decode cX10_readsCousin 74 = .ok (.iload 4, 2) := by decide +kernel
theorem dX10_readsCousin_76 : decode cX10_readsCousin 76 = .ok (.bipush 46, 2) := by decide +kernel
theorem dX10_readsCousin_78 : decode cX10_readsCousin 78 = .ok (.if_icmp .ne 7, 3) := by decide +kernel
theorem dX10_readsCousin_81 : decode cX10_readsCousin 81 = .ok (.iconst (-1), 1) := by decide +kernel
theorem dX10_readsCousin_82 : decode cX10_readsCousin 82 = .ok (.goto 8, 3) := by decide +kernel
theorem dX10_readsCousin_85 : decode cX10_readsCousin 85 = .ok (.iload 4, 2) := by decide +kernel
theorem dX10_readsCousin_87 : decode cX10_readsCousin 87 = .ok (.bipush 48, 2) := by decide +kernel
theorem dX10_readsCousin_89 : decode cX10_readsCousin 89 = .ok (.isub, 1) := by decide +kernel
theorem dX10_readsCousin_90 : decode cX10_readsCousin 90 = .ok (.iastore, 1) := by decide +kernel
theorem dX10_readsCousin_91 : decode cX10_readsCousin 91 = .ok (.iconst 2, 1) := by decide +kernel
theorem dX10_readsCousin_92 : decode cX10_readsCousin 92 = .ok (.ireturn, 1) := by decide +kernel
theorem dX10_readsText_0 : decode cX10_readsText 0 = .ok (.iload_n 1, 1) := by decide +kernel
theorem dX10_readsText_1 : decode cX10_readsText 1 = .ok (.ifCond .ne 7, 3) := by decide +kernel
theorem dX10_readsText_4 : decode cX10_readsText 4 = .ok (.iconst 3, 1) := by decide +kernel
theorem dX10_readsText_5 : decode cX10_readsText 5 = .ok (.goto 4, 3) := by decide +kernel
theorem dX10_readsText_8 : decode cX10_readsText 8 = .ok (.iconst 2, 1) := by decide +kernel
theorem dX10_readsText_9 : decode cX10_readsText 9 = .ok (.istore_n 2, 1) := by decide +kernel
theorem dX10_readsText_10 : decode cX10_readsText 10 = .ok (.iconst 0, 1) := by decide +kernel
theorem dX10_readsText_11 : decode cX10_readsText 11 = .ok (.istore_n 3, 1) := by decide +kernel
theorem dX10_readsText_12 : decode cX10_readsText 12 = .ok (.iconst 0, 1) := by decide +kernel
theorem dX10_readsText_13 : decode cX10_readsText 13 = .ok (.istore 4, 2) := by decide +kernel
theorem dX10_readsText_15 : decode cX10_readsText 15 = .ok (.aload_n 0, 1) := by decide +kernel
theorem dX10_readsText_16 : decode cX10_readsText 16 = .ok (.iload_n 1, 1) := by decide +kernel
theorem dX10_readsText_17 : decode cX10_readsText 17 = .ok (.ifCond .ne 7, 3) := by decide +kernel
theorem dX10_readsText_20 : decode cX10_readsText 20 = .ok (.iconst 0, 1) := by decide +kernel
theorem dX10_readsText_21 : decode cX10_readsText 21 = .ok (.goto 7, 3) := by decide +kernel
theorem dX10_readsText_24 : decode cX10_readsText 24 = .ok (.aload_n 0, 1) := by decide +kernel
theorem dX10_readsText_25 : decode cX10_readsText 25 = .ok (.getfield 125, 3) := by decide +kernel
theorem dX10_readsText_28 : decode cX10_readsText 28 = .ok (.putfield 125, 3) := by decide +kernel
theorem dX10_readsText_31 : decode cX10_readsText 31 = .ok (.aload_n 0, 1) := by decide +kernel
theorem dX10_readsText_32 : decode cX10_readsText 32 = .ok (.iload_n 1, 1) := by decide +kernel
theorem dX10_readsText_33 : decode cX10_readsText 33 = .ok (.iconst 1, 1) := by decide +kernel
theorem dX10_readsText_34 : decode cX10_readsText 34 = .ok (.if_icmp .ne 7, 3) := by decide +kernel
theorem dX10_readsText_37 : decode cX10_readsText 37 = .ok (.iconst 0, 1) := by decide +kernel
theorem dX10_readsText_38 : decode cX10_readsText 38 = .ok (.goto 7, 3) := by decide +kernel
theorem dX10_readsText_41 : decode cX10_readsText 41 = .ok (.aload_n 0, 1) := by decide +kernel
theorem dX10_readsText_42 : decode cX10_readsText 42 = .ok (.getfield 128, 3) := by decide +kernel
theorem dX10_readsText_45 : decode cX10_readsText 45 = .ok (.putfield 128, 3) := by decide +kernel
theorem dX10_readsText_48 : decode cX10_readsText 48 = .ok (.iload 4, 2) := by decide +kernel
theorem dX10_readsText_50 : decode cX10_readsText 50 = .ok (.aload_n 0, 1) := by decide +kernel
theorem dX10_readsText_51 : decode cX10_readsText 51 = .ok (.getfield 7, 3) := by decide +kernel
theorem dX10_readsText_54 : decode cX10_readsText 54 = .ok (.iload_n 1, 1) := by decide +kernel
theorem dX10_readsText_55 : decode cX10_readsText 55 = .ok (.iaload, 1) := by decide +kernel
theorem dX10_readsText_56 : decode cX10_readsText 56 = .ok (.if_icmp .lt 8, 3) := by decide +kernel
theorem dX10_readsText_59 : decode cX10_readsText 59 = .ok (.iload 4, 2) := by decide +kernel
theorem dX10_readsText_61 : decode cX10_readsText 61 = .ok (.ifCond .le 124, 3) := by decide +kernel
theorem dX10_readsText_64 : decode cX10_readsText 64 = .ok (.iload_n 3, 1) := by decide +kernel
theorem dX10_readsText_65 : decode cX10_readsText 65 = .ok (.bipush 8, 2) := by decide +kernel
theorem dX10_readsText_67 : decode cX10_readsText 67 = .ok (.if_icmp .ne 7, 3) := by decide +kernel
theorem dX10_readsText_70 : decode cX10_readsText 70 = .ok (.iconst 0, 1) := by decide +kernel
theorem dX10_readsText_71 : decode cX10_readsText 71 = .ok (.goto 24, 3) := by decide +kernel
theorem dX10_readsText_74 : decode cX10_readsText 74 = .ok (.iload_n 1, 1) := by decide +kernel
