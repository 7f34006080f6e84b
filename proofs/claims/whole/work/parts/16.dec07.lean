theorem dX12_order_147 : decode cX12_order 147 = .ok (.iconst 0, 1) := by decide +kernel
theorem dX12_order_148 : decode cX12_order 148 = .ok (.istore 4, 2) := by decide +kernel
theorem dX12_order_150 : decode cX12_order 150 = .ok (.iconst 0, 1) := by decide +kernel
theorem dX12_order_151 : decode cX12_order 151 = .ok (.istore 5, 2) := by decide +kernel
theorem dX12_order_153 : decode cX12_order 153 = .ok (.iload 5, 2) := by decide +kernel
theorem dX12_order_155 : decode cX12_order 155 = .ok (.iload_n 2, 1) := by decide +kernel
theorem dX12_order_156 : decode cX12_order 156 = .ok (.if_icmp .ge 50, 3) := by decide +kernel
theorem dX12_order_159 : decode cX12_order 159 = .ok (.aload_n 0, 1) := by decide +kernel
theorem dX12_order_160 : decode cX12_order 160 = .ok (.iload_n 1, 1) := by decide +kernel
theorem dX12_order_161 : decode cX12_order 161 = .ok (.iload 5, 2) := by decide +kernel
theorem dX12_order_163 : decode cX12_order 163 = .ok (.invokevirtual 393, 3) := by decide +kernel
theorem dX12_order_166 : decode cX12_order 166 = .ok (.l2i, 1) := by decide +kernel
theorem dX12_order_167 : decode cX12_order 167 = .ok (.istore 6, 2) := by decide +kernel
theorem dX12_order_169 : decode cX12_order 169 = .ok (.aload_n 0, 1) := by decide +kernel
theorem dX12_order_170 : decode cX12_order 170 = .ok (.iconst 0, 1) := by decide +kernel
theorem dX12_order_171 : decode cX12_order 171 = .ok (.iload 6, 2) := by decide +kernel
theorem dX12_order_173 : decode cX12_order 173 = .ok (.invokevirtual 249, 3) := by decide +kernel
theorem dX12_order_176 : decode cX12_order 176 = .ok (.iload 4, 2) := by decide +kernel
theorem dX12_order_178 : decode cX12_order 178 = .ok (.iconst (-1), 1) := by decide +kernel
theorem dX12_order_179 : decode cX12_order 179 = .ok (.ixor, 1) := by decide +kernel
theorem dX12_order_180 : decode cX12_order 180 = .ok (.iand, 1) := by decide +kernel
theorem dX12_order_181 : decode cX12_order 181 = .ok (.ifCond .eq 10, 3) := by decide +kernel
theorem dX12_order_184 : decode cX12_order 184 = .ok (.aload_n 0, 1) := by decide +kernel
theorem dX12_order_185 : decode cX12_order 185 = .ok (.bipush 9, 2) := by decide +kernel
theorem dX12_order_187 : decode cX12_order 187 = .ok (.invokevirtual 90, 3) := by decide +kernel
theorem dX12_order_190 : decode cX12_order 190 = .ok (.ireturn, 1) := by decide +kernel
theorem dX12_order_191 : decode cX12_order 191 = .ok (.iload 4, 2) := by decide +kernel
theorem dX12_order_193 : decode cX12_order 193 = .ok (.iconst 1, 1) := by decide +kernel
theorem dX12_order_194 : decode cX12_order 194 = .ok (.iload 6, 2) := by decide +kernel
theorem dX12_order_196 : decode cX12_order 196 = .ok (.ishl, 1) := by decide +kernel
theorem dX12_order_197 : decode cX12_order 197 = .ok (.ior, 1) := by decide +kernel
theorem dX12_order_198 : decode cX12_order 198 = .ok (.istore 4, 2) := by decide +kernel
theorem dX12_order_200 : decode cX12_order 200 = .ok (.iinc 5 1, 3) := by decide +kernel
theorem dX12_order_203 : decode cX12_order 203 = .ok (.goto (-50), 3) := by decide +kernel
theorem dX12_order_206 : decode cX12_order 206 = .ok (.iconst 0, 1) := by decide +kernel
theorem dX12_order_207 : decode cX12_order 207 = .ok (.istore 5, 2) := by decide +kernel
theorem dX12_order_209 : decode cX12_order 209 = .ok (.iload 5, 2) := by decide +kernel
theorem dX12_order_211 : decode cX12_order 211 = .ok (.iload_n 2, 1) := by decide +kernel
theorem dX12_order_212 : decode cX12_order 212 = .ok (.if_icmp .ge 27, 3) := by decide +kernel
theorem dX12_order_215 : decode cX12_order 215 = .ok (.aload_n 0, 1) := by decide +kernel
theorem dX12_order_216 : decode cX12_order 216 = .ok (.getfield 35, 3) := by decide +kernel
theorem dX12_order_219 : decode cX12_order 219 = .ok (.bipush 119, 2) := by decide +kernel
theorem dX12_order_221 : decode cX12_order 221 = .ok (.iload 5, 2) := by decide +kernel
theorem dX12_order_223 : decode cX12_order 223 = .ok (.iadd, 1) := by decide +kernel
theorem dX12_order_224 : decode cX12_order 224 = .ok (.aload_n 0, 1) := by decide +kernel
theorem dX12_order_225 : decode cX12_order 225 = .ok (.iload_n 1, 1) := by decide +kernel
theorem dX12_order_226 : decode cX12_order 226 = .ok (.iload 5, 2) := by decide +kernel
theorem dX12_order_228 : decode cX12_order 228 = .ok (.invokevirtual 393, 3) := by decide +kernel
theorem dX12_order_231 : decode cX12_order 231 = .ok (.l2i, 1) := by decide +kernel
theorem dX12_order_232 : decode cX12_order 232 = .ok (.iastore, 1) := by decide +kernel
theorem dX12_order_233 : decode cX12_order 233 = .ok (.iinc 5 1, 3) := by decide +kernel
theorem dX12_order_236 : decode cX12_order 236 = .ok (.goto (-27), 3) := by decide +kernel
theorem dX12_order_239 : decode cX12_order 239 = .ok (.aload_n 0, 1) := by decide +kernel
theorem dX12_order_240 : decode cX12_order 240 = .ok (.getfield 35, 3) := by decide +kernel
theorem dX12_order_243 : decode cX12_order 243 = .ok (.bipush 118, 2) := by decide +kernel
theorem dX12_order_245 : decode cX12_order 245 = .ok (.iload_n 2, 1) := by decide +kernel
theorem dX12_order_246 : decode cX12_order 246 = .ok (.iastore, 1) := by decide +kernel
theorem dX12_order_247 : decode cX12_order 247 = .ok (.iconst 1, 1) := by decide +kernel
theorem dX12_order_248 : decode cX12_order 248 = .ok (.ireturn, 1) := by decide +kernel
theorem dX12_number_0 : decode cX12_number 0 = .ok (.aload_n 0, 1) := by decide +kernel
theorem dX12_number_1 : decode cX12_number 1 = .ok (.iconst 0, 1) := by decide +kernel
theorem dX12_number_2 : decode cX12_number 2 = .ok (.putfield 75, 3) := by decide +kernel
theorem dX12_number_5 : decode cX12_number 5 = .ok (.aload_n 0, 1) := by decide +kernel
theorem dX12_number_6 : decode cX12_number 6 = .ok (.iconst 0, 1) := by decide +kernel
theorem dX12_number_7 : decode cX12_number 7 = .ok (.putfield 78, 3) := by decide +kernel
theorem dX12_number_10 : decode cX12_number 10 = .ok (.aload_n 0, 1) := by decide +kernel
theorem dX12_number_11 : decode cX12_number 11 = .ok (.invokevirtual 397, 3) := by decide +kernel
theorem dX12_number_14 : decode cX12_number 14 = .ok (.istore_n 1, 1) := by decide +kernel
theorem dX12_number_15 : decode cX12_number 15 = .ok (.aload_n 0, 1) := by decide +kernel
theorem dX12_number_16 : decode cX12_number 16 = .ok (.iload_n 1, 1) := by decide +kernel
theorem dX12_number_17 : decode cX12_number 17 = .ok (.iconst (-1), 1) := by decide +kernel
theorem dX12_number_18 : decode cX12_number 18 = .ok (.iconst (-1), 1) := by decide +kernel
theorem dX12_number_19 : decode cX12_number 19 = .ok (.invokevirtual 377, 3) := by decide +kernel
theorem dX12_number_22 : decode cX12_number 22 = .ok (.aload_n 0, 1) := by decide +kernel
theorem dX12_number_23 : decode cX12_number 23 = .ok (.iload_n 1, 1) := by decide +kernel
theorem dX12_number_24 : decode cX12_number 24 = .ok (.invokevirtual 381, 3) := by decide +kernel
theorem dX12_number_27 : decode cX12_number 27 = .ok (.lconst 0, 1) := by decide +kernel
theorem dX12_number_28 : decode cX12_number 28 = .ok (.lstore_n 2, 1) := by decide +kernel
theorem dX12_number_29 : decode cX12_number 29 = .ok (.iconst 0, 1) := by decide +kernel
theorem dX12_number_30 : decode cX12_number 30 = .ok (.istore 4, 2) := by decide +kernel
theorem dX12_number_32 : decode cX12_number 32 = .ok (.iconst 0, 1) := by decide +kernel
theorem dX12_number_33 : decode cX12_number 33 = .ok (.istore 5, 2) := by decide +kernel
theorem dX12_number_35 : decode cX12_number 35 = .ok (.iload 5, 2) := by decide +kernel
theorem dX12_number_37 : decode cX12_number 37 = .ok (.aload_n 0, 1) := by decide +kernel
theorem dX12_number_38 : decode cX12_number 38 = .ok (.getfield 35, 3) := by decide +kernel
theorem dX12_number_41 : decode cX12_number 41 = .ok (.bipush 118, 2) := by decide +kernel
theorem dX12_number_43 : decode cX12_number 43 = .ok (.iaload, 1) := by decide +kernel
theorem dX12_number_44 : decode cX12_number 44 = .ok (.if_icmp .ge 90, 3) := by decide +kernel
theorem dX12_number_47 : decode cX12_number 47 = .ok (.aload_n 0, 1) := by decide +kernel
theorem dX12_number_48 : decode cX12_number 48 = .ok (.getfield 35, 3) := by decide +kernel
theorem dX12_number_51 : decode cX12_number 51 = .ok (.bipush 119, 2) := by decide +kernel
theorem dX12_number_53 : decode cX12_number 53 = .ok (.iload 5, 2) := by decide +kernel
theorem dX12_number_55 : decode cX12_number 55 = .ok (.iadd, 1) := by decide +kernel
theorem dX12_number_56 : decode cX12_number 56 = .ok (.iaload, 1) := by decide +kernel
theorem dX12_number_57 : decode cX12_number 57 = .ok (.istore 6, 2) := by decide +kernel
theorem dX12_number_59 : decode cX12_number 59 = .ok (.iconst 0, 1) := by decide +kernel
theorem dX12_number_60 : decode cX12_number 60 = .ok (.istore 7, 2) := by decide +kernel
theorem dX12_number_62 : decode cX12_number 62 = .ok (.iload 7, 2) := by decide +kernel
theorem dX12_number_64 : decode cX12_number 64 = .ok (.iload 6, 2) := by decide +kernel
theorem dX12_number_66 : decode cX12_number 66 = .ok (.if_icmp .ge 53, 3) := by decide +kernel
theorem dX12_number_69 : decode cX12_number 69 = .ok (.iload_n 1, 1) := by decide +kernel
theorem dX12_number_70 : decode cX12_number 70 = .ok (.iload 4, 2) := by decide +kernel
theorem dX12_number_72 : decode cX12_number 72 = .ok (.iconst (-1), 1) := by decide +kernel
theorem dX12_number_73 : decode cX12_number 73 = .ok (.ixor, 1) := by decide +kernel
theorem dX12_number_74 : decode cX12_number 74 = .ok (.iand, 1) := by decide +kernel
theorem dX12_number_75 : decode cX12_number 75 = .ok (.iload 7, 2) := by decide +kernel
theorem dX12_number_77 : decode cX12_number 77 = .ok (.invokestatic 302, 3) := by decide +kernel
theorem dX12_number_80 : decode cX12_number 80 = .ok (.ifCond .eq 33, 3) := by decide +kernel
theorem dX12_number_83 : decode cX12_number 83 = .ok (.aload_n 0, 1) := by decide +kernel
theorem dX12_number_84 : decode cX12_number 84 = .ok (.getfield 51, 3) := by decide +kernel
theorem dX12_number_87 : decode cX12_number 87 = .ok (.iload 7, 2) := by decide +kernel
theorem dX12_number_89 : decode cX12_number 89 = .ok (.iaload, 1) := by decide +kernel
theorem dX12_number_90 : decode cX12_number 90 = .ok (.iload 4, 2) := by decide +kernel
theorem dX12_number_92 : decode cX12_number 92 = .ok (.iconst (-1), 1) := by decide +kernel
theorem dX12_number_93 : decode cX12_number 93 = .ok (.ixor, 1) := by decide +kernel
theorem dX12_number_94 : decode cX12_number 94 = .ok (.iand, 1) := by decide +kernel
theorem dX12_number_95 : decode cX12_number 95 = .ok (.ifCond .ne 18, 3) := by decide +kernel
theorem dX12_number_98 : decode cX12_number 98 = .ok (.lload_n 2, 1) := by decide +kernel
theorem dX12_number_99 : decode cX12_number 99 = .ok (.aload_n 0, 1) := by decide +kernel
theorem dX12_number_100 : decode cX12_number 100 = .ok (.getfield 48, 3) := by decide +kernel
theorem dX12_number_103 : decode cX12_number 103 = .ok (.iload 4, 2) := by decide +kernel
theorem dX12_number_105 : decode cX12_number 105 = .ok (.iconst 1, 1) := by decide +kernel
theorem dX12_number_106 : decode cX12_number 106 = .ok (.iload 7, 2) := by decide +kernel
theorem dX12_number_108 : decode cX12_number 108 = .ok (.ishl, 1) := by decide +kernel
theorem dX12_number_109 : decode cX12_number 109 = .ok (.ior, 1) := by decide +kernel
theorem dX12_number_110 : decode cX12_number 110 = .ok (.laload, 1) := by decide +kernel
theorem dX12_number_111 : decode cX12_number 111 = .ok (.ladd, 1) := by decide +kernel
theorem dX12_number_112 : decode cX12_number 112 = .ok (.lstore_n 2, 1) := by decide +kernel
theorem dX12_number_113 : decode cX12_number 113 = .ok (.iinc 7 1, 3) := by decide +kernel
theorem dX12_number_116 : decode cX12_number 116 = .ok (.goto (-54), 3) := by decide +kernel
theorem dX12_number_119 : decode cX12_number 119 = .ok (.iload 4, 2) := by decide +kernel
theorem dX12_number_121 : decode cX12_number 121 = .ok (.iconst 1, 1) := by decide +kernel
theorem dX12_number_122 : decode cX12_number 122 = .ok (.iload 6, 2) := by decide +kernel
theorem dX12_number_124 : decode cX12_number 124 = .ok (.ishl, 1) := by decide +kernel
theorem dX12_number_125 : decode cX12_number 125 = .ok (.ior, 1) := by decide +kernel
theorem dX12_number_126 : decode cX12_number 126 = .ok (.istore 4, 2) := by decide +kernel
theorem dX12_number_128 : decode cX12_number 128 = .ok (.iinc 5 1, 3) := by decide +kernel
theorem dX12_number_131 : decode cX12_number 131 = .ok (.goto (-96), 3) := by decide +kernel
theorem dX12_number_134 : decode cX12_number 134 = .ok (.lload_n 2, 1) := by decide +kernel
theorem dX12_number_135 : decode cX12_number 135 = .ok (.lreturn, 1) := by decide +kernel
theorem dX12_orderAt_0 : decode cX12_orderAt 0 = .ok (.aload_n 0, 1) := by decide +kernel
theorem dX12_orderAt_1 : decode cX12_orderAt 1 = .ok (.iconst 0, 1) := by decide +kernel
theorem dX12_orderAt_2 : decode cX12_orderAt 2 = .ok (.putfield 75, 3) := by decide +kernel
theorem dX12_orderAt_5 : decode cX12_orderAt 5 = .ok (.aload_n 0, 1) := by decide +kernel
theorem dX12_orderAt_6 : decode cX12_orderAt 6 = .ok (.iconst 0, 1) := by decide +kernel
theorem dX12_orderAt_7 : decode cX12_orderAt 7 = .ok (.putfield 78, 3) := by decide +kernel
theorem dX12_orderAt_10 : decode cX12_orderAt 10 = .ok (.iload_n 1, 1) := by decide +kernel
theorem dX12_orderAt_11 : decode cX12_orderAt 11 = .ok (.i2l, 1) := by decide +kernel
theorem dX12_orderAt_12 : decode cX12_orderAt 12 = .ok (.lconst 0, 1) := by decide +kernel
theorem dX12_orderAt_13 : decode cX12_orderAt 13 = .ok (.aload_n 0, 1) := by decide +kernel
theorem dX12_orderAt_14 : decode cX12_orderAt 14 = .ok (.getfield 35, 3) := by decide +kernel
theorem dX12_orderAt_17 : decode cX12_orderAt 17 = .ok (.bipush 118, 2) := by decide +kernel
theorem dX12_orderAt_19 : decode cX12_orderAt 19 = .ok (.iaload, 1) := by decide +kernel
theorem dX12_orderAt_20 : decode cX12_orderAt 20 = .ok (.iconst 1, 1) := by decide +kernel
theorem dX12_orderAt_21 : decode cX12_orderAt 21 = .ok (.isub, 1) := by decide +kernel
theorem dX12_orderAt_22 : decode cX12_orderAt 22 = .ok (.i2l, 1) := by decide +kernel
theorem dX12_orderAt_23 : decode cX12_orderAt 23 = .ok (.invokestatic 110, 3) := by decide +kernel
theorem dX12_orderAt_26 : decode cX12_orderAt 26 = .ok (.ifCond .eq 15, 3) := by decide +kernel
theorem dX12_orderAt_29 : decode cX12_orderAt 29 = .ok (.aload_n 0, 1) := by decide +kernel
theorem dX12_orderAt_30 : decode cX12_orderAt 30 = .ok (.getfield 35, 3) := by decide +kernel
theorem dX12_orderAt_33 : decode cX12_orderAt 33 = .ok (.bipush 119, 2) := by decide +kernel
theorem dX12_orderAt_35 : decode cX12_orderAt 35 = .ok (.iload_n 1, 1) := by decide +kernel
theorem dX12_orderAt_36 : decode cX12_orderAt 36 = .ok (.iadd, 1) := by decide +kernel
theorem dX12_orderAt_37 : decode cX12_orderAt 37 = .ok (.iaload, 1) := by decide +kernel
theorem dX12_orderAt_38 : decode cX12_orderAt 38 = .ok (.goto 9, 3) := by decide +kernel
theorem dX12_orderAt_41 : decode cX12_orderAt 41 = .ok (.aload_n 0, 1) := by decide +kernel
theorem dX12_orderAt_42 : decode cX12_orderAt 42 = .ok (.bipush 8, 2) := by decide +kernel
theorem dX12_orderAt_44 : decode cX12_orderAt 44 = .ok (.invokevirtual 299, 3) := by decide +kernel
theorem dX12_orderAt_47 : decode cX12_orderAt 47 = .ok (.ireturn, 1) := by decide +kernel
theorem dX12_acts_0 : decode cX12_acts 0 = .ok (.aload_n 0, 1) := by decide +kernel
theorem dX12_acts_1 : decode cX12_acts 1 = .ok (.iconst 0, 1) := by decide +kernel
theorem dX12_acts_2 : decode cX12_acts 2 = .ok (.putfield 75, 3) := by decide +kernel
theorem dX12_acts_5 : decode cX12_acts 5 = .ok (.aload_n 0, 1) := by decide +kernel
theorem dX12_acts_6 : decode cX12_acts 6 = .ok (.iconst 0, 1) := by decide +kernel
theorem dX12_acts_7 : decode cX12_acts 7 = .ok (.putfield 78, 3) := by decide +kernel
theorem dX12_acts_10 : decode cX12_acts 10 = .ok (.iload_n 1, 1) := by decide +kernel
theorem dX12_acts_11 : decode cX12_acts 11 = .ok (.i2l, 1) := by decide +kernel
theorem dX12_acts_12 : decode cX12_acts 12 = .ok (.lconst 0, 1) := by decide +kernel
theorem dX12_acts_13 : decode cX12_acts 13 = .ok (.aload_n 0, 1) := by decide +kernel
theorem dX12_acts_14 : decode cX12_acts 14 = .ok (.getfield 35, 3) := by decide +kernel
theorem dX12_acts_17 : decode cX12_acts 17 = .ok (.bipush 118, 2) := by decide +kernel
theorem dX12_acts_19 : decode cX12_acts 19 = .ok (.iaload, 1) := by decide +kernel
theorem dX12_acts_20 : decode cX12_acts 20 = .ok (.iconst 1, 1) := by decide +kernel
theorem dX12_acts_21 : decode cX12_acts 21 = .ok (.isub, 1) := by decide +kernel
theorem dX12_acts_22 : decode cX12_acts 22 = .ok (.i2l, 1) := by decide +kernel
theorem dX12_acts_23 : decode cX12_acts 23 = .ok (.invokestatic 110, 3) := by decide +kernel
theorem dX12_acts_26 : decode cX12_acts 26 = .ok (.ifCond .ne 10, 3) := by decide +kernel
theorem dX12_acts_29 : decode cX12_acts 29 = .ok (.aload_n 0, 1) := by decide +kernel
theorem dX12_acts_30 : decode cX12_acts 30 = .ok (.bipush 8, 2) := by decide +kernel
theorem dX12_acts_32 : decode cX12_acts 32 = .ok (.invokevirtual 299, 3) := by decide +kernel
theorem dX12_acts_35 : decode cX12_acts 35 = .ok (.ireturn, 1) := by decide +kernel
theorem dX12_acts_36 : decode cX12_acts 36 = .ok (.iconst 0, 1) := by decide +kernel
theorem dX12_acts_37 : decode cX12_acts 37 = .ok (.istore_n 2, 1) := by decide +kernel
theorem dX12_acts_38 : decode cX12_acts 38 = .ok (.iconst 0, 1) := by decide +kernel
theorem dX12_acts_39 : decode cX12_acts 39 = .ok (.istore_n 3, 1) := by decide +kernel
theorem dX12_acts_40 : decode cX12_acts 40 = .ok (.iload_n 3, 1) := by decide +kernel
theorem dX12_acts_41 : decode cX12_acts 41 = .ok (.iload_n 1, 1) := by decide +kernel
theorem dX12_acts_42 : decode cX12_acts 42 = .ok (.if_icmp .ge 23, 3) := by decide +kernel
theorem dX12_acts_45 : decode cX12_acts 45 = .ok (.iload_n 2, 1) := by decide +kernel
theorem dX12_acts_46 : decode cX12_acts 46 = .ok (.iconst 1, 1) := by decide +kernel
theorem dX12_acts_47 : decode cX12_acts 47 = .ok (.aload_n 0, 1) := by decide +kernel
theorem dX12_acts_48 : decode cX12_acts 48 = .ok (.getfield 35, 3) := by decide +kernel
theorem dX12_acts_51 : decode cX12_acts 51 = .ok (.bipush 119, 2) := by decide +kernel
theorem dX12_acts_53 : decode cX12_acts 53 = .ok (.iload_n 3, 1) := by decide +kernel
theorem dX12_acts_54 : decode cX12_acts 54 = .ok (.iadd, 1) := by decide +kernel
theorem dX12_acts_55 : decode cX12_acts 55 = .ok (.iaload, 1) := by decide +kernel
theorem dX12_acts_56 : decode cX12_acts 56 = .ok (.ishl, 1) := by decide +kernel
theorem dX12_acts_57 : decode cX12_acts 57 = .ok (.ior, 1) := by decide +kernel
theorem dX12_acts_58 : decode cX12_acts 58 = .ok (.istore_n 2, 1) := by decide +kernel
theorem dX12_acts_59 : decode cX12_acts 59 = .ok (.iinc 3 1, 3) := by decide +kernel
theorem dX12_acts_62 : decode cX12_acts 62 = .ok (.goto (-22), 3) := by decide +kernel
theorem dX12_acts_65 : decode cX12_acts 65 = .ok (.aload_n 0, 1) := by decide +kernel
theorem dX12_acts_66 : decode cX12_acts 66 = .ok (.getfield 35, 3) := by decide +kernel
theorem dX12_acts_69 : decode cX12_acts 69 = .ok (.bipush 119, 2) := by decide +kernel
theorem dX12_acts_71 : decode cX12_acts 71 = .ok (.iload_n 1, 1) := by decide +kernel
theorem dX12_acts_72 : decode cX12_acts 72 = .ok (.iadd, 1) := by decide +kernel
theorem dX12_acts_73 : decode cX12_acts 73 = .ok (.iaload, 1) := by decide +kernel
theorem dX12_acts_74 : decode cX12_acts 74 = .ok (.istore_n 3, 1) := by decide +kernel
theorem dX12_acts_75 : decode cX12_acts 75 = .ok (.aload_n 0, 1) := by decide +kernel
theorem dX12_acts_76 : decode cX12_acts 76 = .ok (.iconst 0, 1) := by decide +kernel
theorem dX12_acts_77 : decode cX12_acts 77 = .ok (.iload_n 3, 1) := by decide +kernel
theorem dX12_acts_78 : decode cX12_acts 78 = .ok (.invokevirtual 239, 3) := by decide +kernel
theorem dX12_acts_81 : decode cX12_acts 81 = .ok (.iconst 4, 1) := by decide +kernel
theorem dX12_acts_82 : decode cX12_acts 82 = .ok (.if_icmp .ne 5, 3) := by decide +kernel
theorem dX12_acts_85 : decode cX12_acts 85 = .ok (.iconst (-1), 1) := by decide +kernel
theorem dX12_acts_86 : decode cX12_acts 86 = .ok (.ireturn, 1) := by decide +kernel
theorem dX12_acts_87 : decode cX12_acts 87 = .ok (.aload_n 0, 1) := by decide +kernel
theorem dX12_acts_88 : decode cX12_acts 88 = .ok (.iconst 0, 1) := by decide +kernel
theorem dX12_acts_89 : decode cX12_acts 89 = .ok (.iload_n 3, 1) := by decide +kernel
theorem dX12_acts_90 : decode cX12_acts 90 = .ok (.invokevirtual 239, 3) := by decide +kernel
theorem dX12_acts_93 : decode cX12_acts 93 = .ok (.ifCond .ne 16, 3) := by decide +kernel
theorem dX12_acts_96 : decode cX12_acts 96 = .ok (.aload_n 0, 1) := by decide +kernel
theorem dX12_acts_97 : decode cX12_acts 97 = .ok (.iload_n 2, 1) := by decide +kernel
theorem dX12_acts_98 : decode cX12_acts 98 = .ok (.iconst 1, 1) := by decide +kernel
theorem dX12_acts_99 : decode cX12_acts 99 = .ok (.iload_n 3, 1) := by decide +kernel
theorem dX12_acts_100 : decode cX12_acts 100 = .ok (.ishl, 1) := by decide +kernel
theorem dX12_acts_101 : decode cX12_acts 101 = .ok (.ior, 1) := by decide +kernel
theorem dX12_acts_102 : decode cX12_acts 102 = .ok (.iload_n 3, 1) := by decide +kernel
theorem dX12_acts_103 : decode cX12_acts 103 = .ok (.invokevirtual 362, 3) := by decide +kernel
theorem dX12_acts_106 : decode cX12_acts 106 = .ok (.goto 14, 3) := by decide +kernel
theorem dX12_acts_109 : decode cX12_acts 109 = .ok (.aload_n 0, 1) := by decide +kernel
theorem dX12_acts_110 : decode cX12_acts 110 = .ok (.iload_n 2, 1) := by decide +kernel
theorem dX12_acts_111 : decode cX12_acts 111 = .ok (.aload_n 0, 1) := by decide +kernel
theorem dX12_acts_112 : decode cX12_acts 112 = .ok (.iconst 0, 1) := by decide +kernel
theorem dX12_acts_113 : decode cX12_acts 113 = .ok (.iload_n 3, 1) := by decide +kernel
theorem dX12_acts_114 : decode cX12_acts 114 = .ok (.invokevirtual 246, 3) := by decide +kernel
theorem dX12_acts_117 : decode cX12_acts 117 = .ok (.invokevirtual 362, 3) := by decide +kernel
theorem dX12_acts_120 : decode cX12_acts 120 = .ok (.ireturn, 1) := by decide +kernel
theorem dX12_swapped_0 : decode cX12_swapped 0 = .ok (.aload_n 0, 1) := by decide +kernel
theorem dX12_swapped_1 : decode cX12_swapped 1 = .ok (.getfield 35, 3) := by decide +kernel
theorem dX12_swapped_4 : decode cX12_swapped 4 = .ok (.bipush 119, 2) := by decide +kernel
theorem dX12_swapped_6 : decode cX12_swapped 6 = .ok (.iload_n 1, 1) := by decide +kernel
theorem dX12_swapped_7 : decode cX12_swapped 7 = .ok (.iadd, 1) := by decide +kernel
theorem dX12_swapped_8 : decode cX12_swapped 8 = .ok (.iaload, 1) := by decide +kernel
theorem dX12_swapped_9 : decode cX12_swapped 9 = .ok (.istore_n 2, 1) := by decide +kernel
theorem dX12_swapped_10 : decode cX12_swapped 10 = .ok (.aload_n 0, 1) := by decide +kernel
theorem dX12_swapped_11 : decode cX12_swapped 11 = .ok (.getfield 35, 3) := by decide +kernel
theorem dX12_swapped_14 : decode cX12_swapped 14 = .ok (.bipush 119, 2) := by decide +kernel
theorem dX12_swapped_16 : decode cX12_swapped 16 = .ok (.iload_n 1, 1) := by decide +kernel
theorem dX12_swapped_17 : decode cX12_swapped 17 = .ok (.iadd, 1) := by decide +kernel
theorem dX12_swapped_18 : decode cX12_swapped 18 = .ok (.iconst 1, 1) := by decide +kernel
theorem dX12_swapped_19 : decode cX12_swapped 19 = .ok (.iadd, 1) := by decide +kernel
theorem dX12_swapped_20 : decode cX12_swapped 20 = .ok (.iaload, 1) := by decide +kernel
theorem dX12_swapped_21 : decode cX12_swapped 21 = .ok (.istore_n 3, 1) := by decide +kernel
theorem dX12_swapped_22 : decode cX12_swapped 22 = .ok (.aload_n 0, 1) := by decide +kernel
theorem dX12_swapped_23 : decode cX12_swapped 23 = .ok (.getfield 35, 3) := by decide +kernel
theorem dX12_swapped_26 : decode cX12_swapped 26 = .ok (.bipush 82, 2) := by decide +kernel
theorem dX12_swapped_28 : decode cX12_swapped 28 = .ok (.iload_n 3, 1) := by decide +kernel
theorem dX12_swapped_29 : decode cX12_swapped 29 = .ok (.iadd, 1) := by decide +kernel
theorem dX12_swapped_30 : decode cX12_swapped 30 = .ok (.iaload, 1) := by decide +kernel
theorem dX12_swapped_31 : decode cX12_swapped 31 = .ok (.iload_n 2, 1) := by decide +kernel
theorem dX12_swapped_32 : decode cX12_swapped 32 = .ok (.invokestatic 302, 3) := by decide +kernel
theorem dX12_swapped_35 : decode cX12_swapped 35 = .ok (.ifCond .eq 5, 3) := by decide +kernel
theorem dX12_swapped_38 : decode cX12_swapped 38 = .ok (.iconst 0, 1) := by decide +kernel
theorem dX12_swapped_39 : decode cX12_swapped 39 = .ok (.ireturn, 1) := by decide +kernel
theorem dX12_swapped_40 : decode cX12_swapped 40 = .ok (.aload_n 0, 1) := by decide +kernel
theorem dX12_swapped_41 : decode cX12_swapped 41 = .ok (.getfield 35, 3) := by decide +kernel
theorem dX12_swapped_44 : decode cX12_swapped 44 = .ok (.bipush 119, 2) := by decide +kernel
theorem dX12_swapped_46 : decode cX12_swapped 46 = .ok (.iload_n 1, 1) := by decide +kernel
theorem dX12_swapped_47 : decode cX12_swapped 47 = .ok (.iadd, 1) := by decide +kernel
theorem dX12_swapped_48 : decode cX12_swapped 48 = .ok (.iload_n 3, 1) := by decide +kernel
theorem dX12_swapped_49 : decode cX12_swapped 49 = .ok (.iastore, 1) := by decide +kernel
theorem dX12_swapped_50 : decode cX12_swapped 50 = .ok (.aload_n 0, 1) := by decide +kernel
theorem dX12_swapped_51 : decode cX12_swapped 51 = .ok (.getfield 35, 3) := by decide +kernel
theorem dX12_swapped_54 : decode cX12_swapped 54 = .ok (.bipush 119, 2) := by decide +kernel
theorem dX12_swapped_56 : decode cX12_swapped 56 = .ok (.iload_n 1, 1) := by decide +kernel
theorem dX12_swapped_57 : decode cX12_swapped 57 = .ok (.iadd, 1) := by decide +kernel
theorem dX12_swapped_58 : decode cX12_swapped 58 = .ok (.iconst 1, 1) := by decide +kernel
theorem dX12_swapped_59 : decode cX12_swapped 59 = .ok (.iadd, 1) := by decide +kernel
theorem dX12_swapped_60 : decode cX12_swapped 60 = .ok (.iload_n 2, 1) := by decide +kernel
theorem dX12_swapped_61 : decode cX12_swapped 61 = .ok (.iastore, 1) := by decide +kernel
theorem dX12_swapped_62 : decode cX12_swapped 62 = .ok (.iconst 1, 1) := by decide +kernel
theorem dX12_swapped_63 : decode cX12_swapped 63 = .ok (.ireturn, 1) := by decide +kernel
theorem dX12_swap_0 : decode cX12_swap 0 = .ok (.aload_n 0, 1) := by decide +kernel
theorem dX12_swap_1 : decode cX12_swap 1 = .ok (.iconst 0, 1) := by decide +kernel
theorem dX12_swap_2 : decode cX12_swap 2 = .ok (.putfield 75, 3) := by decide +kernel
theorem dX12_swap_5 : decode cX12_swap 5 = .ok (.aload_n 0, 1) := by decide +kernel
theorem dX12_swap_6 : decode cX12_swap 6 = .ok (.iconst 0, 1) := by decide +kernel
theorem dX12_swap_7 : decode cX12_swap 7 = .ok (.putfield 78, 3) := by decide +kernel
theorem dX12_swap_10 : decode cX12_swap 10 = .ok (.iload_n 1, 1) := by decide +kernel
theorem dX12_swap_11 : decode cX12_swap 11 = .ok (.i2l, 1) := by decide +kernel
theorem dX12_swap_12 : decode cX12_swap 12 = .ok (.lconst 0, 1) := by decide +kernel
theorem dX12_swap_13 : decode cX12_swap 13 = .ok (.aload_n 0, 1) := by decide +kernel
theorem dX12_swap_14 : decode cX12_swap 14 = .ok (.getfield 35, 3) := by decide +kernel
theorem dX12_swap_17 : decode cX12_swap 17 = .ok (.bipush 118, 2) := by decide +kernel
theorem dX12_swap_19 : decode cX12_swap 19 = .ok (.iaload, 1) := by decide +kernel
theorem dX12_swap_20 : decode cX12_swap 20 = .ok (.iconst 2, 1) := by decide +kernel
theorem dX12_swap_21 : decode cX12_swap 21 = .ok (.isub, 1) := by decide +kernel
theorem dX12_swap_22 : decode cX12_swap 22 = .ok (.i2l, 1) := by decide +kernel
theorem dX12_swap_23 : decode cX12_swap 23 = .ok (.invokestatic 110, 3) := by decide +kernel
theorem dX12_swap_26 : decode cX12_swap 26 = .ok (.ifCond .ne 10, 3) := by decide +kernel
theorem dX12_swap_29 : decode cX12_swap 29 = .ok (.aload_n 0, 1) := by decide +kernel
theorem dX12_swap_30 : decode cX12_swap 30 = .ok (.bipush 8, 2) := by decide +kernel
theorem dX12_swap_32 : decode cX12_swap 32 = .ok (.invokevirtual 90, 3) := by decide +kernel
theorem dX12_swap_35 : decode cX12_swap 35 = .ok (.ireturn, 1) := by decide +kernel
theorem dX12_swap_36 : decode cX12_swap 36 = .ok (.aload_n 0, 1) := by decide +kernel
theorem dX12_swap_37 : decode cX12_swap 37 = .ok (.iload_n 1, 1) := by decide +kernel
theorem dX12_swap_38 : decode cX12_swap 38 = .ok (.invokevirtual 400, 3) := by decide +kernel
theorem dX12_swap_41 : decode cX12_swap 41 = .ok (.ifCond .ne 12, 3) := by decide +kernel
theorem dX12_swap_44 : decode cX12_swap 44 = .ok (.aload_n 0, 1) := by decide +kernel
theorem dX12_swap_45 : decode cX12_swap 45 = .ok (.bipush 9, 2) := by decide +kernel
theorem dX12_swap_47 : decode cX12_swap 47 = .ok (.invokevirtual 90, 3) := by decide +kernel
theorem dX12_swap_50 : decode cX12_swap 50 = .ok (.ifCond .eq 7, 3) := by decide +kernel
theorem dX12_swap_53 : decode cX12_swap 53 = .ok (.iconst 1, 1) := by decide +kernel
theorem dX12_swap_54 : decode cX12_swap 54 = .ok (.goto 4, 3) := by decide +kernel
theorem dX12_swap_57 : decode cX12_swap 57 = .ok (.iconst 0, 1) := by decide +kernel
theorem dX12_swap_58 : decode cX12_swap 58 = .ok (.ireturn, 1) := by decide +kernel
theorem dX12_forward_0 : decode cX12_forward 0 = .ok (.aload_n 0, 1) := by decide +kernel
theorem dX12_forward_1 : decode cX12_forward 1 = .ok (.iconst 0, 1) := by decide +kernel
theorem dX12_forward_2 : decode cX12_forward 2 = .ok (.putfield 75, 3) := by decide +kernel
theorem dX12_forward_5 : decode cX12_forward 5 = .ok (.aload_n 0, 1) := by decide +kernel
theorem dX12_forward_6 : decode cX12_forward 6 = .ok (.iconst 0, 1) := by decide +kernel
theorem dX12_forward_7 : decode cX12_forward 7 = .ok (.putfield 78, 3) := by decide +kernel
theorem dX12_forward_10 : decode cX12_forward 10 = .ok (.aload_n 0, 1) := by decide +kernel
theorem dX12_forward_11 : decode cX12_forward 11 = .ok (.iload_n 1, 1) := by decide +kernel
theorem dX12_forward_12 : decode cX12_forward 12 = .ok (.invokevirtual 311, 3) := by decide +kernel
theorem dX12_forward_15 : decode cX12_forward 15 = .ok (.ifCond .ne 9, 3) := by decide +kernel
theorem dX12_forward_18 : decode cX12_forward 18 = .ok (.aload_n 0, 1) := by decide +kernel
theorem dX12_forward_19 : decode cX12_forward 19 = .ok (.iconst 2, 1) := by decide +kernel
theorem dX12_forward_20 : decode cX12_forward 20 = .ok (.invokevirtual 299, 3) := by decide +kernel
theorem dX12_forward_23 : decode cX12_forward 23 = .ok (.ireturn, 1) := by decide +kernel
theorem dX12_forward_24 : decode cX12_forward 24 = .ok (.iconst (-1), 1) := by decide +kernel
theorem dX12_forward_25 : decode cX12_forward 25 = .ok (.istore_n 2, 1) := by decide +kernel
theorem dX12_forward_26 : decode cX12_forward 26 = .ok (.iconst 0, 1) := by decide +kernel
theorem dX12_forward_27 : decode cX12_forward 27 = .ok (.istore_n 3, 1) := by decide +kernel
theorem dX12_forward_28 : decode cX12_forward 28 = .ok (.iload_n 3, 1) := by decide +kernel
theorem dX12_forward_29 : decode cX12_forward 29 = .ok (.aload_n 0, 1) := by decide +kernel
theorem dX12_forward_30 : decode cX12_forward 30 = .ok (.getfield 35, 3) := by decide +kernel
theorem dX12_forward_33 : decode cX12_forward 33 = .ok (.bipush 118, 2) := by decide +kernel
theorem dX12_forward_35 : decode cX12_forward 35 = .ok (.iaload, 1) := by decide +kernel
theorem dX12_forward_36 : decode cX12_forward 36 = .ok (.if_icmp .ge 24, 3) := by decide +kernel
theorem dX12_forward_39 : decode cX12_forward 39 = .ok (.aload_n 0, 1) := by decide +kernel
theorem dX12_forward_40 : decode cX12_forward 40 = .ok (.getfield 35, 3) := by decide +kernel
theorem dX12_forward_43 : decode cX12_forward 43 = .ok (.bipush 119, 2) := by decide +kernel
theorem dX12_forward_45 : decode cX12_forward 45 = .ok (.iload_n 3, 1) := by decide +kernel
theorem dX12_forward_46 : decode cX12_forward 46 = .ok (.iadd, 1) := by decide +kernel
theorem dX12_forward_47 : decode cX12_forward 47 = .ok (.iaload, 1) := by decide +kernel
theorem dX12_forward_48 : decode cX12_forward 48 = .ok (.iload_n 1, 1) := by decide +kernel
theorem dX12_forward_49 : decode cX12_forward 49 = .ok (.if_icmp .ne 5, 3) := by decide +kernel
theorem dX12_forward_52 : decode cX12_forward 52 = .ok (.iload_n 3, 1) := by decide +kernel
theorem dX12_forward_53 : decode cX12_forward 53 = .ok (.istore_n 2, 1) := by decide +kernel
theorem dX12_forward_54 : decode cX12_forward 54 = .ok (.iinc 3 1, 3) := by decide +kernel
theorem dX12_forward_57 : decode cX12_forward 57 = .ok (.goto (-29), 3) := by decide +kernel
theorem dX12_forward_60 : decode cX12_forward 60 = .ok (.iload_n 2, 1) := by decide +kernel
theorem dX12_forward_61 : decode cX12_forward 61 = .ok (.ifCond .ge 10, 3) := by decide +kernel
theorem dX12_forward_64 : decode cX12_forward 64 = .ok (.aload_n 0, 1) := by decide +kernel
theorem dX12_forward_65 : decode cX12_forward 65 = .ok (.bipush 8, 2) := by decide +kernel
theorem dX12_forward_67 : decode cX12_forward 67 = .ok (.invokevirtual 299, 3) := by decide +kernel
theorem dX12_forward_70 : decode cX12_forward 70 = .ok (.ireturn, 1) := by decide +kernel
theorem dX12_forward_71 : decode cX12_forward 71 = .ok (.iconst 1, 1) := by decide +kernel
theorem dX12_forward_72 : decode cX12_forward 72 = .ok (.istore_n 3, 1) := by decide +kernel
theorem dX12_forward_73 : decode cX12_forward 73 = .ok (.iload_n 2, 1) := by decide +kernel
theorem dX12_forward_74 : decode cX12_forward 74 = .ok (.ifCond .le 25, 3) := by decide +kernel
theorem dX12_forward_77 : decode cX12_forward 77 = .ok (.iload_n 3, 1) := by decide +kernel
theorem dX12_forward_78 : decode cX12_forward 78 = .ok (.ifCond .eq 21, 3) := by decide +kernel
theorem dX12_forward_81 : decode cX12_forward 81 = .ok (.aload_n 0, 1) := by decide +kernel
theorem dX12_forward_82 : decode cX12_forward 82 = .ok (.iload_n 2, 1) := by decide +kernel
theorem dX12_forward_83 : decode cX12_forward 83 = .ok (.iconst 1, 1) := by decide +kernel
theorem dX12_forward_84 : decode cX12_forward 84 = .ok (.isub, 1) := by decide +kernel
theorem dX12_forward_85 : decode cX12_forward 85 = .ok (.invokevirtual 400, 3) := by decide +kernel
theorem dX12_forward_88 : decode cX12_forward 88 = .ok (.istore_n 3, 1) := by decide +kernel
theorem dX12_forward_89 : decode cX12_forward 89 = .ok (.iload_n 3, 1) := by decide +kernel
theorem dX12_forward_90 : decode cX12_forward 90 = .ok (.ifCond .eq (-17), 3) := by decide +kernel
theorem dX12_forward_93 : decode cX12_forward 93 = .ok (.iinc 2 (-1), 3) := by decide +kernel
theorem dX12_forward_96 : decode cX12_forward 96 = .ok (.goto (-23), 3) := by decide +kernel
theorem dX12_forward_99 : decode cX12_forward 99 = .ok (.iload_n 2, 1) := by decide +kernel
theorem dX12_forward_100 : decode cX12_forward 100 = .ok (.ireturn, 1) := by decide +kernel
theorem dX12_swaps_0 : decode cX12_swaps 0 = .ok (.aload_n 0, 1) := by decide +kernel
theorem dX12_swaps_1 : decode cX12_swaps 1 = .ok (.iconst 0, 1) := by decide +kernel
theorem dX12_swaps_2 : decode cX12_swaps 2 = .ok (.putfield 75, 3) := by decide +kernel
theorem dX12_swaps_5 : decode cX12_swaps 5 = .ok (.aload_n 0, 1) := by decide +kernel
theorem dX12_swaps_6 : decode cX12_swaps 6 = .ok (.iconst 0, 1) := by decide +kernel
theorem dX12_swaps_7 : decode cX12_swaps 7 = .ok (.putfield 78, 3) := by decide +kernel
theorem dX12_swaps_10 : decode cX12_swaps 10 = .ok (.aload_n 0, 1) := by decide +kernel
theorem dX12_swaps_11 : decode cX12_swaps 11 = .ok (.invokevirtual 397, 3) := by decide +kernel
theorem dX12_swaps_14 : decode cX12_swaps 14 = .ok (.istore_n 1, 1) := by decide +kernel
theorem dX12_swaps_15 : decode cX12_swaps 15 = .ok (.iconst 0, 1) := by decide +kernel
theorem dX12_swaps_16 : decode cX12_swaps 16 = .ok (.istore_n 2, 1) := by decide +kernel
theorem dX12_swaps_17 : decode cX12_swaps 17 = .ok (.iconst 0, 1) := by decide +kernel
theorem dX12_swaps_18 : decode cX12_swaps 18 = .ok (.istore_n 3, 1) := by decide +kernel
theorem dX12_swaps_19 : decode cX12_swaps 19 = .ok (.iload_n 2, 1) := by decide +kernel
theorem dX12_swaps_20 : decode cX12_swaps 20 = .ok (.iload_n 1, 1) := by decide +kernel
theorem dX12_swaps_21 : decode cX12_swaps 21 = .ok (.if_icmp .eq 60, 3) := by decide +kernel
theorem dX12_swaps_24 : decode cX12_swaps 24 = .ok (.iconst 0, 1) := by decide +kernel
theorem dX12_swaps_25 : decode cX12_swaps 25 = .ok (.istore 4, 2) := by decide +kernel
theorem dX12_swaps_27 : decode cX12_swaps 27 = .ok (.iload_n 1, 1) := by decide +kernel
theorem dX12_swaps_28 : decode cX12_swaps 28 = .ok (.iload_n 2, 1) := by decide +kernel
theorem dX12_swaps_29 : decode cX12_swaps 29 = .ok (.iconst (-1), 1) := by decide +kernel
theorem dX12_swaps_30 : decode cX12_swaps 30 = .ok (.ixor, 1) := by decide +kernel
theorem dX12_swaps_31 : decode cX12_swaps 31 = .ok (.iand, 1) := by decide +kernel
theorem dX12_swaps_32 : decode cX12_swaps 32 = .ok (.iload 4, 2) := by decide +kernel
theorem dX12_swaps_34 : decode cX12_swaps 34 = .ok (.invokestatic 302, 3) := by decide +kernel
theorem dX12_swaps_37 : decode cX12_swaps 37 = .ok (.ifCond .eq 17, 3) := by decide +kernel
theorem dX12_swaps_40 : decode cX12_swaps 40 = .ok (.aload_n 0, 1) := by decide +kernel
theorem dX12_swaps_41 : decode cX12_swaps 41 = .ok (.iconst 0, 1) := by decide +kernel
theorem dX12_swaps_42 : decode cX12_swaps 42 = .ok (.iload 4, 2) := by decide +kernel
theorem dX12_swaps_44 : decode cX12_swaps 44 = .ok (.invokevirtual 249, 3) := by decide +kernel
theorem dX12_swaps_47 : decode cX12_swaps 47 = .ok (.iload_n 2, 1) := by decide +kernel
theorem dX12_swaps_48 : decode cX12_swaps 48 = .ok (.iconst (-1), 1) := by decide +kernel
theorem dX12_swaps_49 : decode cX12_swaps 49 = .ok (.ixor, 1) := by decide +kernel
theorem dX12_swaps_50 : decode cX12_swaps 50 = .ok (.iand, 1) := by decide +kernel
theorem dX12_swaps_51 : decode cX12_swaps 51 = .ok (.ifCond .eq 9, 3) := by decide +kernel
theorem dX12_swaps_54 : decode cX12_swaps 54 = .ok (.iinc 4 1, 3) := by decide +kernel
theorem dX12_swaps_57 : decode cX12_swaps 57 = .ok (.goto (-30), 3) := by decide +kernel
theorem dX12_swaps_60 : decode cX12_swaps 60 = .ok (.aload_n 0, 1) := by decide +kernel
theorem dX12_swaps_61 : decode cX12_swaps 61 = .ok (.getfield 72, 3) := by decide +kernel
theorem dX12_swaps_64 : decode cX12_swaps 64 = .ok (.iload 4, 2) := by decide +kernel
theorem dX12_swaps_66 : decode cX12_swaps 66 = .ok (.iload_n 3, 1) := by decide +kernel
theorem dX12_swaps_67 : decode cX12_swaps 67 = .ok (.iastore, 1) := by decide +kernel
theorem dX12_swaps_68 : decode cX12_swaps 68 = .ok (.iinc 3 1, 3) := by decide +kernel
theorem dX12_swaps_71 : decode cX12_swaps 71 = .ok (.iload_n 2, 1) := by decide +kernel
theorem dX12_swaps_72 : decode cX12_swaps 72 = .ok (.iconst 1, 1) := by decide +kernel
theorem dX12_swaps_73 : decode cX12_swaps 73 = .ok (.iload 4, 2) := by decide +kernel
theorem dX12_swaps_75 : decode cX12_swaps 75 = .ok (.ishl, 1) := by decide +kernel
theorem dX12_swaps_76 : decode cX12_swaps 76 = .ok (.ior, 1) := by decide +kernel
theorem dX12_swaps_77 : decode cX12_swaps 77 = .ok (.istore_n 2, 1) := by decide +kernel
theorem dX12_swaps_78 : decode cX12_swaps 78 = .ok (.goto (-59), 3) := by decide +kernel
theorem dX12_swaps_81 : decode cX12_swaps 81 = .ok (.iconst 0, 1) := by decide +kernel
theorem dX12_swaps_82 : decode cX12_swaps 82 = .ok (.istore 4, 2) := by decide +kernel
theorem dX12_swaps_84 : decode cX12_swaps 84 = .ok (.iconst 0, 1) := by decide +kernel
theorem dX12_swaps_85 : decode cX12_swaps 85 = .ok (.istore 5, 2) := by decide +kernel
theorem dX12_swaps_87 : decode cX12_swaps 87 = .ok (.iload 5, 2) := by decide +kernel
theorem dX12_swaps_89 : decode cX12_swaps 89 = .ok (.aload_n 0, 1) := by decide +kernel
theorem dX12_swaps_90 : decode cX12_swaps 90 = .ok (.getfield 35, 3) := by decide +kernel
theorem dX12_swaps_93 : decode cX12_swaps 93 = .ok (.bipush 118, 2) := by decide +kernel
theorem dX12_swaps_95 : decode cX12_swaps 95 = .ok (.iaload, 1) := by decide +kernel
theorem dX12_swaps_96 : decode cX12_swaps 96 = .ok (.if_icmp .ge 76, 3) := by decide +kernel
theorem dX12_swaps_99 : decode cX12_swaps 99 = .ok (.iload 5, 2) := by decide +kernel
theorem dX12_swaps_101 : decode cX12_swaps 101 = .ok (.iconst 1, 1) := by decide +kernel
theorem dX12_swaps_102 : decode cX12_swaps 102 = .ok (.iadd, 1) := by decide +kernel
theorem dX12_swaps_103 : decode cX12_swaps 103 = .ok (.istore 6, 2) := by decide +kernel
theorem dX12_swaps_105 : decode cX12_swaps 105 = .ok (.iload 6, 2) := by decide +kernel
theorem dX12_swaps_107 : decode cX12_swaps 107 = .ok (.aload_n 0, 1) := by decide +kernel
theorem dX12_swaps_108 : decode cX12_swaps 108 = .ok (.getfield 35, 3) := by decide +kernel
theorem dX12_swaps_111 : decode cX12_swaps 111 = .ok (.bipush 118, 2) := by decide +kernel
theorem dX12_swaps_113 : decode cX12_swaps 113 = .ok (.iaload, 1) := by decide +kernel
theorem dX12_swaps_114 : decode cX12_swaps 114 = .ok (.if_icmp .ge 52, 3) := by decide +kernel
theorem dX12_swaps_117 : decode cX12_swaps 117 = .ok (.iload 4, 2) := by decide +kernel
theorem dX12_swaps_119 : decode cX12_swaps 119 = .ok (.aload_n 0, 1) := by decide +kernel
theorem dX12_swaps_120 : decode cX12_swaps 120 = .ok (.getfield 72, 3) := by decide +kernel
theorem dX12_swaps_123 : decode cX12_swaps 123 = .ok (.aload_n 0, 1) := by decide +kernel
theorem dX12_swaps_124 : decode cX12_swaps 124 = .ok (.getfield 35, 3) := by decide +kernel
theorem dX12_swaps_127 : decode cX12_swaps 127 = .ok (.bipush 119, 2) := by decide +kernel
theorem dX12_swaps_129 : decode cX12_swaps 129 = .ok (.iload 5, 2) := by decide +kernel
theorem dX12_swaps_131 : decode cX12_swaps 131 = .ok (.iadd, 1) := by decide +kernel
theorem dX12_swaps_132 : decode cX12_swaps 132 = .ok (.iaload, 1) := by decide +kernel
theorem dX12_swaps_133 : decode cX12_swaps 133 = .ok (.iaload, 1) := by decide +kernel
theorem dX12_swaps_134 : decode cX12_swaps 134 = .ok (.aload_n 0, 1) := by decide +kernel
theorem dX12_swaps_135 : decode cX12_swaps 135 = .ok (.getfield 72, 3) := by decide +kernel
theorem dX12_swaps_138 : decode cX12_swaps 138 = .ok (.aload_n 0, 1) := by decide +kernel
theorem dX12_swaps_139 : decode cX12_swaps 139 = .ok (.getfield 35, 3) := by decide +kernel
theorem dX12_swaps_142 : decode cX12_swaps 142 = .ok (.bipush 119, 2) := by decide +kernel
theorem dX12_swaps_144 : decode cX12_swaps 144 = .ok (.iload 6, 2) := by decide +kernel
theorem dX12_swaps_146 : decode cX12_swaps 146 = .ok (.iadd, 1) := by decide +kernel
theorem dX12_swaps_147 : decode cX12_swaps 147 = .ok (.iaload, 1) := by decide +kernel
theorem dX12_swaps_148 : decode cX12_swaps 148 = .ok (.iaload, 1) := by decide +kernel
theorem dX12_swaps_149 : decode cX12_swaps 149 = .ok (.if_icmp .le 7, 3) := by decide +kernel
theorem dX12_swaps_152 : decode cX12_swaps 152 = .ok (.iconst 1, 1) := by decide +kernel
theorem dX12_swaps_153 : decode cX12_swaps 153 = .ok (.goto 4, 3) := by decide +kernel
theorem dX12_swaps_156 : decode cX12_swaps 156 = .ok (.iconst 0, 1) := by decide +kernel
theorem dX12_swaps_157 : decode cX12_swaps 157 = .ok (.iadd, 1) := by decide +kernel
theorem dX12_swaps_158 : decode cX12_swaps 158 = .ok (.istore 4, 2) := by decide +kernel
theorem dX12_swaps_160 : decode cX12_swaps 160 = .ok (.iinc 6 1, 3) := by decide +kernel
theorem dX12_swaps_163 : decode cX12_swaps 163 = .ok (.goto (-58), 3) := by decide +kernel
theorem dX12_swaps_166 : decode cX12_swaps 166 = .ok (.iinc 5 1, 3) := by decide +kernel
theorem dX12_swaps_169 : decode cX12_swaps 169 = .ok (.goto (-82), 3) := by decide +kernel
theorem dX12_swaps_172 : decode cX12_swaps 172 = .ok (.iload 4, 2) := by decide +kernel
theorem dX12_swaps_174 : decode cX12_swaps 174 = .ok (.ireturn, 1) := by decide +kernel
theorem dX12_has_0 : decode cX12_has 0 = .ok (.aload_n 0, 1) := by decide +kernel
theorem dX12_has_1 : decode cX12_has 1 = .ok (.iconst 0, 1) := by decide +kernel
theorem dX12_has_2 : decode cX12_has 2 = .ok (.putfield 75, 3) := by decide +kernel
theorem dX12_has_5 : decode cX12_has 5 = .ok (.aload_n 0, 1) := by decide +kernel
theorem dX12_has_6 : decode cX12_has 6 = .ok (.iconst 0, 1) := by decide +kernel
theorem dX12_has_7 : decode cX12_has 7 = .ok (.putfield 78, 3) := by decide +kernel
theorem dX12_has_10 : decode cX12_has 10 = .ok (.aload_n 0, 1) := by decide +kernel
theorem dX12_has_11 : decode cX12_has 11 = .ok (.iload_n 1, 1) := by decide +kernel
theorem dX12_has_12 : decode cX12_has 12 = .ok (.invokevirtual 403, 3) := by decide +kernel
theorem dX12_has_15 : decode cX12_has 15 = .ok (.ifCond .eq 15, 3) := by decide +kernel
theorem dX12_has_18 : decode cX12_has 18 = .ok (.aload_n 0, 1) := by decide +kernel
theorem dX12_has_19 : decode cX12_has 19 = .ok (.getfield 35, 3) := by decide +kernel
theorem dX12_has_22 : decode cX12_has 22 = .ok (.bipush 114, 2) := by decide +kernel
theorem dX12_has_24 : decode cX12_has 24 = .ok (.iload_n 1, 1) := by decide +kernel
theorem dX12_has_25 : decode cX12_has 25 = .ok (.iadd, 1) := by decide +kernel
theorem dX12_has_26 : decode cX12_has 26 = .ok (.iaload, 1) := by decide +kernel
theorem dX12_has_27 : decode cX12_has 27 = .ok (.goto 8, 3) := by decide +kernel
theorem dX12_has_30 : decode cX12_has 30 = .ok (.aload_n 0, 1) := by decide +kernel
theorem dX12_has_31 : decode cX12_has 31 = .ok (.iconst 2, 1) := by decide +kernel
theorem dX12_has_32 : decode cX12_has 32 = .ok (.invokevirtual 299, 3) := by decide +kernel
theorem dX12_has_35 : decode cX12_has 35 = .ok (.ireturn, 1) := by decide +kernel
theorem dX12_give_0 : decode cX12_give 0 = .ok (.aload_n 0, 1) := by decide +kernel
theorem dX12_give_1 : decode cX12_give 1 = .ok (.iconst 0, 1) := by decide +kernel
theorem dX12_give_2 : decode cX12_give 2 = .ok (.putfield 75, 3) := by decide +kernel
theorem dX12_give_5 : decode cX12_give 5 = .ok (.aload_n 0, 1) := by decide +kernel
theorem dX12_give_6 : decode cX12_give 6 = .ok (.iconst 0, 1) := by decide +kernel
theorem dX12_give_7 : decode cX12_give 7 = .ok (.putfield 78, 3) := by decide +kernel
theorem dX12_give_10 : decode cX12_give 10 = .ok (.aload_n 0, 1) := by decide +kernel
theorem dX12_give_11 : decode cX12_give 11 = .ok (.iload_n 1, 1) := by decide +kernel
theorem dX12_give_12 : decode cX12_give 12 = .ok (.invokevirtual 403, 3) := by decide +kernel
theorem dX12_give_15 : decode cX12_give 15 = .ok (.ifCond .eq 11, 3) := by decide +kernel
theorem dX12_give_18 : decode cX12_give 18 = .ok (.aload_n 0, 1) := by decide +kernel
theorem dX12_give_19 : decode cX12_give 19 = .ok (.iload_n 2, 1) := by decide +kernel
theorem dX12_give_20 : decode cX12_give 20 = .ok (.invokevirtual 319, 3) := by decide +kernel
theorem dX12_give_23 : decode cX12_give 23 = .ok (.ifCond .ne 9, 3) := by decide +kernel
theorem dX12_give_26 : decode cX12_give 26 = .ok (.aload_n 0, 1) := by decide +kernel
theorem dX12_give_27 : decode cX12_give 27 = .ok (.iconst 2, 1) := by decide +kernel
theorem dX12_give_28 : decode cX12_give 28 = .ok (.invokevirtual 90, 3) := by decide +kernel
theorem dX12_give_31 : decode cX12_give 31 = .ok (.ireturn, 1) := by decide +kernel
theorem dX12_give_32 : decode cX12_give 32 = .ok (.aload_n 0, 1) := by decide +kernel
theorem dX12_give_33 : decode cX12_give 33 = .ok (.iload_n 2, 1) := by decide +kernel
theorem dX12_give_34 : decode cX12_give 34 = .ok (.invokevirtual 322, 3) := by decide +kernel
theorem dX12_give_37 : decode cX12_give 37 = .ok (.ifCond .eq 10, 3) := by decide +kernel
theorem dX12_give_40 : decode cX12_give 40 = .ok (.aload_n 0, 1) := by decide +kernel
theorem dX12_give_41 : decode cX12_give 41 = .ok (.bipush 9, 2) := by decide +kernel
theorem dX12_give_43 : decode cX12_give 43 = .ok (.invokevirtual 90, 3) := by decide +kernel
theorem dX12_give_46 : decode cX12_give 46 = .ok (.ireturn, 1) := by decide +kernel
theorem dX12_give_47 : decode cX12_give 47 = .ok (.aload_n 0, 1) := by decide +kernel
theorem dX12_give_48 : decode cX12_give 48 = .ok (.getfield 35, 3) := by decide +kernel
theorem dX12_give_51 : decode cX12_give 51 = .ok (.bipush 114, 2) := by decide +kernel
theorem dX12_give_53 : decode cX12_give 53 = .ok (.iload_n 1, 1) := by decide +kernel
theorem dX12_give_54 : decode cX12_give 54 = .ok (.iadd, 1) := by decide +kernel
theorem dX12_give_55 : decode cX12_give 55 = .ok (.iload_n 2, 1) := by decide +kernel
theorem dX12_give_56 : decode cX12_give 56 = .ok (.iastore, 1) := by decide +kernel
theorem dX12_give_57 : decode cX12_give 57 = .ok (.iconst 1, 1) := by decide +kernel
theorem dX12_give_58 : decode cX12_give 58 = .ok (.ireturn, 1) := by decide +kernel
theorem dX12_readLogName_0 : decode cX12_readLogName 0 = .ok (.aload_n 0, 1) := by decide +kernel
theorem dX12_readLogName_1 : decode cX12_readLogName 1 = .ok (.getfield 209, 3) := by decide +kernel
theorem dX12_readLogName_4 : decode cX12_readLogName 4 = .ok (.ifCond .ne 14, 3) := by decide +kernel
theorem dX12_readLogName_7 : decode cX12_readLogName 7 = .ok (.aload_n 0, 1) := by decide +kernel
theorem dX12_readLogName_8 : decode cX12_readLogName 8 = .ok (.invokevirtual 232, 3) := by decide +kernel
theorem dX12_readLogName_11 : decode cX12_readLogName 11 = .ok (.ifCond .ne 7, 3) := by decide +kernel
theorem dX12_readLogName_14 : decode cX12_readLogName 14 = .ok (.aload_n 0, 1) := by decide +kernel
theorem dX12_readLogName_15 : decode cX12_readLogName 15 = .ok (.invokevirtual 222, 3) := by decide +kernel
theorem dX12_readLogName_18 : decode cX12_readLogName 18 = .ok (.aload_n 0, 1) := by decide +kernel
theorem dX12_readLogName_19 : decode cX12_readLogName 19 = .ok (.getfield 209, 3) := by decide +kernel
theorem dX12_readLogName_22 : decode cX12_readLogName 22 = .ok (.ifCond .le 7, 3) := by decide +kernel
theorem dX12_readLogName_25 : decode cX12_readLogName 25 = .ok (.iconst 0, 1) := by decide +kernel
theorem dX12_readLogName_26 : decode cX12_readLogName 26 = .ok (.goto 35, 3) := by decide +kernel
theorem dX12_readLogName_29 : decode cX12_readLogName 29 = .ok (.iload_n 1, 1) := by decide +kernel
theorem dX12_readLogName_30 : decode cX12_readLogName 30 = .ok (.ifCond .eq 19, 3) := by decide +kernel
theorem dX12_readLogName_33 : decode cX12_readLogName 33 = .ok (.aload_n 0, 1) := by decide +kernel
theorem dX12_readLogName_34 : decode cX12_readLogName 34 = .ok (.iconst 0, 1) := by decide +kernel
theorem dX12_readLogName_35 : decode cX12_readLogName 35 = .ok (.bipush 16, 2) := by decide +kernel
theorem dX12_readLogName_37 : decode cX12_readLogName 37 = .ok (.aload_n 0, 1) := by decide +kernel
theorem dX12_readLogName_38 : decode cX12_readLogName 38 = .ok (.getfield 35, 3) := by decide +kernel
theorem dX12_readLogName_41 : decode cX12_readLogName 41 = .ok (.iconst 1, 1) := by decide +kernel
theorem dX12_readLogName_42 : decode cX12_readLogName 42 = .ok (.iaload, 1) := by decide +kernel
theorem dX12_readLogName_43 : decode cX12_readLogName 43 = .ok (.invokevirtual 235, 3) := by decide +kernel
theorem dX12_readLogName_46 : decode cX12_readLogName 46 = .ok (.goto 15, 3) := by decide +kernel
theorem dX12_readLogName_49 : decode cX12_readLogName 49 = .ok (.aload_n 0, 1) := by decide +kernel
theorem dX12_readLogName_50 : decode cX12_readLogName 50 = .ok (.iconst 0, 1) := by decide +kernel
theorem dX12_readLogName_51 : decode cX12_readLogName 51 = .ok (.iconst 0, 1) := by decide +kernel
theorem dX12_readLogName_52 : decode cX12_readLogName 52 = .ok (.aload_n 0, 1) := by decide +kernel
theorem dX12_readLogName_53 : decode cX12_readLogName 53 = .ok (.getfield 35, 3) := by decide +kernel
theorem dX12_readLogName_56 : decode cX12_readLogName 56 = .ok (.iconst 0, 1) := by decide +kernel
theorem dX12_readLogName_57 : decode cX12_readLogName 57 = .ok (.iaload, 1) := by decide +kernel
theorem dX12_readLogName_58 : decode cX12_readLogName 58 = .ok (.invokevirtual 235, 3) := by decide +kernel
theorem dX12_readLogName_61 : decode cX12_readLogName 61 = .ok (.istore_n 2, 1) := by decide +kernel
theorem dX12_readLogName_62 : decode cX12_readLogName 62 = .ok (.aload_n 0, 1) := by decide +kernel
theorem dX12_readLogName_63 : decode cX12_readLogName 63 = .ok (.getfield 209, 3) := by decide +kernel
theorem dX12_readLogName_66 : decode cX12_readLogName 66 = .ok (.ifCond .ne 16, 3) := by decide +kernel
theorem dX12_readLogName_69 : decode cX12_readLogName 69 = .ok (.iload_n 2, 1) := by decide +kernel
theorem dX12_readLogName_70 : decode cX12_readLogName 70 = .ok (.ifCond .ge 12, 3) := by decide +kernel
theorem dX12_readLogName_73 : decode cX12_readLogName 73 = .ok (.aload_n 0, 1) := by decide +kernel
theorem dX12_readLogName_74 : decode cX12_readLogName 74 = .ok (.iconst 3, 1) := by decide +kernel
theorem dX12_readLogName_75 : decode cX12_readLogName 75 = .ok (.aload_n 0, 1) := by decide +kernel
theorem dX12_readLogName_76 : decode cX12_readLogName 76 = .ok (.getfield 120, 3) := by decide +kernel
theorem dX12_readLogName_79 : decode cX12_readLogName 79 = .ok (.invokevirtual 215, 3) := by decide +kernel
theorem dX12_readLogName_82 : decode cX12_readLogName 82 = .ok (.aload_n 0, 1) := by decide +kernel
theorem dX12_readLogName_83 : decode cX12_readLogName 83 = .ok (.iconst 1, 1) := by decide +kernel
theorem dX12_readLogName_84 : decode cX12_readLogName 84 = .ok (.invokevirtual 252, 3) := by decide +kernel
theorem dX12_readLogName_87 : decode cX12_readLogName 87 = .ok (.iload_n 2, 1) := by decide +kernel
theorem dX12_readLogName_88 : decode cX12_readLogName 88 = .ok (.ireturn, 1) := by decide +kernel
theorem dX12_readShip_0 : decode cX12_readShip 0 = .ok (.aload_n 0, 1) := by decide +kernel
theorem dX12_readShip_1 : decode cX12_readShip 1 = .ok (.getfield 35, 3) := by decide +kernel
theorem dX12_readShip_4 : decode cX12_readShip 4 = .ok (.iload_n 1, 1) := by decide +kernel
theorem dX12_readShip_5 : decode cX12_readShip 5 = .ok (.iconst 1, 1) := by decide +kernel
theorem dX12_readShip_6 : decode cX12_readShip 6 = .ok (.iadd, 1) := by decide +kernel
theorem dX12_readShip_7 : decode cX12_readShip 7 = .ok (.aload_n 0, 1) := by decide +kernel
theorem dX12_readShip_8 : decode cX12_readShip 8 = .ok (.iconst 1, 1) := by decide +kernel
theorem dX12_readShip_9 : decode cX12_readShip 9 = .ok (.invokevirtual 406, 3) := by decide +kernel
theorem dX12_readShip_12 : decode cX12_readShip 12 = .ok (.iastore, 1) := by decide +kernel
theorem dX12_readShip_13 : decode cX12_readShip 13 = .ok (.aload_n 0, 1) := by decide +kernel
theorem dX12_readShip_14 : decode cX12_readShip 14 = .ok (.aload_n 0, 1) := by decide +kernel
theorem dX12_readShip_15 : decode cX12_readShip 15 = .ok (.invokevirtual 185, 3) := by decide +kernel
theorem dX12_readShip_18 : decode cX12_readShip 18 = .ok (.invokevirtual 252, 3) := by decide +kernel
theorem dX12_readShip_21 : decode cX12_readShip 21 = .ok (.aload_n 0, 1) := by decide +kernel
theorem dX12_readShip_22 : decode cX12_readShip 22 = .ok (.getfield 35, 3) := by decide +kernel
theorem dX12_readShip_25 : decode cX12_readShip 25 = .ok (.iload_n 1, 1) := by decide +kernel
theorem dX12_readShip_26 : decode cX12_readShip 26 = .ok (.iconst 2, 1) := by decide +kernel
theorem dX12_readShip_27 : decode cX12_readShip 27 = .ok (.iadd, 1) := by decide +kernel
theorem dX12_readShip_28 : decode cX12_readShip 28 = .ok (.aload_n 0, 1) := by decide +kernel
theorem dX12_readShip_29 : decode cX12_readShip 29 = .ok (.iconst 1, 1) := by decide +kernel
theorem dX12_readShip_30 : decode cX12_readShip 30 = .ok (.invokevirtual 406, 3) := by decide +kernel
theorem dX12_readShip_33 : decode cX12_readShip 33 = .ok (.iastore, 1) := by decide +kernel
theorem dX12_readShip_34 : decode cX12_readShip 34 = .ok (.aload_n 0, 1) := by decide +kernel
theorem dX12_readShip_35 : decode cX12_readShip 35 = .ok (.getfield 35, 3) := by decide +kernel
theorem dX12_readShip_38 : decode cX12_readShip 38 = .ok (.iload_n 1, 1) := by decide +kernel
theorem dX12_readShip_39 : decode cX12_readShip 39 = .ok (.iconst 3, 1) := by decide +kernel
theorem dX12_readShip_40 : decode cX12_readShip 40 = .ok (.iadd, 1) := by decide +kernel
theorem dX12_readShip_41 : decode cX12_readShip 41 = .ok (.iconst 0, 1) := by decide +kernel
theorem dX12_readShip_42 : decode cX12_readShip 42 = .ok (.iastore, 1) := by decide +kernel
theorem dX12_readShip_43 : decode cX12_readShip 43 = .ok (.aload_n 0, 1) := by decide +kernel
theorem dX12_readShip_44 : decode cX12_readShip 44 = .ok (.getfield 35, 3) := by decide +kernel
theorem dX12_readShip_47 : decode cX12_readShip 47 = .ok (.iload_n 1, 1) := by decide +kernel
theorem dX12_readShip_48 : decode cX12_readShip 48 = .ok (.iconst 4, 1) := by decide +kernel
theorem dX12_readShip_49 : decode cX12_readShip 49 = .ok (.iadd, 1) := by decide +kernel
theorem dX12_readShip_50 : decode cX12_readShip 50 = .ok (.iconst 0, 1) := by decide +kernel
theorem dX12_readShip_51 : decode cX12_readShip 51 = .ok (.iastore, 1) := by decide +kernel
theorem dX12_readShip_52 : decode cX12_readShip 52 = .ok (.aload_n 0, 1) := by decide +kernel
theorem dX12_readShip_53 : decode cX12_readShip 53 = .ok (.getfield 209, 3) := by decide +kernel
theorem dX12_readShip_56 : decode cX12_readShip 56 = .ok (.ifCond .ne 29, 3) := by decide +kernel
theorem dX12_readShip_59 : decode cX12_readShip 59 = .ok (.aload_n 0, 1) := by decide +kernel
theorem dX12_readShip_60 : decode cX12_readShip 60 = .ok (.invokevirtual 188, 3) := by decide +kernel
theorem dX12_readShip_63 : decode cX12_readShip 63 = .ok (.ifCond .eq 22, 3) := by decide +kernel
theorem dX12_readShip_66 : decode cX12_readShip 66 = .ok (.aload_n 0, 1) := by decide +kernel
theorem dX12_readShip_67 : decode cX12_readShip 67 = .ok (.invokevirtual 219, 3) := by decide +kernel
theorem dX12_readShip_70 : decode cX12_readShip 70 = .ok (.aload_n 0, 1) := by decide +kernel
theorem dX12_readShip_71 : decode cX12_readShip 71 = .ok (.getfield 35, 3) := by decide +kernel
theorem dX12_readShip_74 : decode cX12_readShip 74 = .ok (.iload_n 1, 1) := by decide +kernel
theorem dX12_readShip_75 : decode cX12_readShip 75 = .ok (.iconst 3, 1) := by decide +kernel
theorem dX12_readShip_76 : decode cX12_readShip 76 = .ok (.iadd, 1) := by decide +kernel
theorem dX12_readShip_77 : decode cX12_readShip 77 = .ok (.aload_n 0, 1) := by decide +kernel
theorem dX12_readShip_78 : decode cX12_readShip 78 = .ok (.iconst 0, 1) := by decide +kernel
theorem dX12_readShip_79 : decode cX12_readShip 79 = .ok (.bipush 9, 2) := by decide +kernel
theorem dX12_readShip_81 : decode cX12_readShip 81 = .ok (.invokevirtual 272, 3) := by decide +kernel
theorem dX12_readShip_84 : decode cX12_readShip 84 = .ok (.iastore, 1) := by decide +kernel
theorem dX12_readShip_85 : decode cX12_readShip 85 = .ok (.aload_n 0, 1) := by decide +kernel
theorem dX12_readShip_86 : decode cX12_readShip 86 = .ok (.getfield 209, 3) := by decide +kernel
theorem dX12_readShip_89 : decode cX12_readShip 89 = .ok (.ifCond .ne 23, 3) := by decide +kernel
theorem dX12_readShip_92 : decode cX12_readShip 92 = .ok (.aload_n 0, 1) := by decide +kernel
theorem dX12_readShip_93 : decode cX12_readShip 93 = .ok (.invokevirtual 191, 3) := by decide +kernel
theorem dX12_readShip_96 : decode cX12_readShip 96 = .ok (.ifCond .eq 16, 3) := by decide +kernel
theorem dX12_readShip_99 : decode cX12_readShip 99 = .ok (.aload_n 0, 1) := by decide +kernel
theorem dX12_readShip_100 : decode cX12_readShip 100 = .ok (.invokevirtual 219, 3) := by decide +kernel
theorem dX12_readShip_103 : decode cX12_readShip 103 = .ok (.aload_n 0, 1) := by decide +kernel
theorem dX12_readShip_104 : decode cX12_readShip 104 = .ok (.getfield 35, 3) := by decide +kernel
theorem dX12_readShip_107 : decode cX12_readShip 107 = .ok (.iload_n 1, 1) := by decide +kernel
theorem dX12_readShip_108 : decode cX12_readShip 108 = .ok (.iconst 4, 1) := by decide +kernel
theorem dX12_readShip_109 : decode cX12_readShip 109 = .ok (.iadd, 1) := by decide +kernel
theorem dX12_readShip_110 : decode cX12_readShip 110 = .ok (.iconst 1, 1) := by decide +kernel
theorem dX12_readShip_111 : decode cX12_readShip 111 = .ok (.iastore, 1) := by decide +kernel
theorem dX12_readShip_112 : decode cX12_readShip 112 = .ok (.return_, 1) := by decide +kernel
theorem dX12_readTest_0 : decode cX12_readTest 0 = .ok (.aload_n 0, 1) := by decide +kernel
theorem dX12_readTest_1 : decode cX12_readTest 1 = .ok (.invokevirtual 194, 3) := by decide +kernel
theorem dX12_readTest_4 : decode cX12_readTest 4 = .ok (.ifCond .eq 7, 3) := by decide +kernel
theorem dX12_readTest_7 : decode cX12_readTest 7 = .ok (.iconst 0, 1) := by decide +kernel
theorem dX12_readTest_8 : decode cX12_readTest 8 = .ok (.goto 26, 3) := by decide +kernel
theorem dX12_readTest_11 : decode cX12_readTest 11 = .ok (.aload_n 0, 1) := by decide +kernel
theorem dX12_readTest_12 : decode cX12_readTest 12 = .ok (.invokevirtual 197, 3) := by decide +kernel
theorem dX12_readTest_15 : decode cX12_readTest 15 = .ok (.ifCond .eq 7, 3) := by decide +kernel
theorem dX12_readTest_18 : decode cX12_readTest 18 = .ok (.iconst 1, 1) := by decide +kernel
theorem dX12_readTest_19 : decode cX12_readTest 19 = .ok (.goto 15, 3) := by decide +kernel
theorem dX12_readTest_22 : decode cX12_readTest 22 = .ok (.aload_n 0, 1) := by decide +kernel
theorem dX12_readTest_23 : decode cX12_readTest 23 = .ok (.invokevirtual 200, 3) := by decide +kernel
theorem dX12_readTest_26 : decode cX12_readTest 26 = .ok (.ifCond .eq 7, 3) := by decide +kernel
theorem dX12_readTest_29 : decode cX12_readTest 29 = .ok (.iconst 2, 1) := by decide +kernel
theorem dX12_readTest_30 : decode cX12_readTest 30 = .ok (.goto 4, 3) := by decide +kernel
theorem dX12_readTest_33 : decode cX12_readTest 33 = .ok (.iconst (-1), 1) := by decide +kernel
theorem dX12_readTest_34 : decode cX12_readTest 34 = .ok (.istore_n 2, 1) := by decide +kernel
theorem dX12_readTest_35 : decode cX12_readTest 35 = .ok (.aload_n 0, 1) := by decide +kernel
theorem dX12_readTest_36 : decode cX12_readTest 36 = .ok (.iload_n 2, 1) := by decide +kernel
theorem dX12_readTest_37 : decode cX12_readTest 37 = .ok (.ifCond .lt 7, 3) := by decide +kernel
theorem dX12_readTest_40 : decode cX12_readTest 40 = .ok (.iconst 1, 1) := by decide +kernel
theorem dX12_readTest_41 : decode cX12_readTest 41 = .ok (.goto 4, 3) := by decide +kernel
theorem dX12_readTest_44 : decode cX12_readTest 44 = .ok (.iconst 0, 1) := by decide +kernel
theorem dX12_readTest_45 : decode cX12_readTest 45 = .ok (.invokevirtual 252, 3) := by decide +kernel
theorem dX12_readTest_48 : decode cX12_readTest 48 = .ok (.aload_n 0, 1) := by decide +kernel
theorem dX12_readTest_49 : decode cX12_readTest 49 = .ok (.getfield 35, 3) := by decide +kernel
theorem dX12_readTest_52 : decode cX12_readTest 52 = .ok (.iload_n 1, 1) := by decide +kernel
theorem dX12_readTest_53 : decode cX12_readTest 53 = .ok (.iconst 5, 1) := by decide +kernel
theorem dX12_readTest_54 : decode cX12_readTest 54 = .ok (.iadd, 1) := by decide +kernel
theorem dX12_readTest_55 : decode cX12_readTest 55 = .ok (.iload_n 2, 1) := by decide +kernel
theorem dX12_readTest_56 : decode cX12_readTest 56 = .ok (.iastore, 1) := by decide +kernel
theorem dX12_readTest_57 : decode cX12_readTest 57 = .ok (.iload_n 2, 1) := by decide +kernel
theorem dX12_readTest_58 : decode cX12_readTest 58 = .ok (.iconst 2, 1) := by decide +kernel
theorem dX12_readTest_59 : decode cX12_readTest 59 = .ok (.if_icmp .ne 22, 3) := by decide +kernel
theorem dX12_readTest_62 : decode cX12_readTest 62 = .ok (.aload_n 0, 1) := by decide +kernel
theorem dX12_readTest_63 : decode cX12_readTest 63 = .ok (.getfield 35, 3) := by decide +kernel
theorem dX12_readTest_66 : decode cX12_readTest 66 = .ok (.iload_n 1, 1) := by decide +kernel
theorem dX12_readTest_67 : decode cX12_readTest 67 = .ok (.iconst 1, 1) := by decide +kernel
theorem dX12_readTest_68 : decode cX12_readTest 68 = .ok (.iadd, 1) := by decide +kernel
theorem dX12_readTest_69 : decode cX12_readTest 69 = .ok (.aload_n 0, 1) := by decide +kernel
theorem dX12_readTest_70 : decode cX12_readTest 70 = .ok (.iconst 0, 1) := by decide +kernel
theorem dX12_readTest_71 : decode cX12_readTest 71 = .ok (.sipush 999, 3) := by decide +kernel
theorem dX12_readTest_74 : decode cX12_readTest 74 = .ok (.invokevirtual 272, 3) := by decide +kernel
theorem dX12_readTest_77 : decode cX12_readTest 77 = .ok (.iastore, 1) := by decide +kernel
theorem dX12_readTest_78 : decode cX12_readTest 78 = .ok (.goto 37, 3) := by decide +kernel
theorem dX12_readTest_81 : decode cX12_readTest 81 = .ok (.iload_n 2, 1) := by decide +kernel
theorem dX12_readTest_82 : decode cX12_readTest 82 = .ok (.ifCond .lt 33, 3) := by decide +kernel
theorem dX12_readTest_85 : decode cX12_readTest 85 = .ok (.aload_n 0, 1) := by decide +kernel
theorem dX12_readTest_86 : decode cX12_readTest 86 = .ok (.getfield 35, 3) := by decide +kernel
theorem dX12_readTest_89 : decode cX12_readTest 89 = .ok (.iload_n 1, 1) := by decide +kernel
theorem dX12_readTest_90 : decode cX12_readTest 90 = .ok (.iconst 1, 1) := by decide +kernel
theorem dX12_readTest_91 : decode cX12_readTest 91 = .ok (.iadd, 1) := by decide +kernel
theorem dX12_readTest_92 : decode cX12_readTest 92 = .ok (.aload_n 0, 1) := by decide +kernel
theorem dX12_readTest_93 : decode cX12_readTest 93 = .ok (.iconst 1, 1) := by decide +kernel
theorem dX12_readTest_94 : decode cX12_readTest 94 = .ok (.invokevirtual 406, 3) := by decide +kernel
theorem dX12_readTest_97 : decode cX12_readTest 97 = .ok (.iastore, 1) := by decide +kernel
theorem dX12_readTest_98 : decode cX12_readTest 98 = .ok (.iload_n 2, 1) := by decide +kernel
theorem dX12_readTest_99 : decode cX12_readTest 99 = .ok (.ifCond .ne 16, 3) := by decide +kernel
theorem dX12_readTest_102 : decode cX12_readTest 102 = .ok (.aload_n 0, 1) := by decide +kernel
theorem dX12_readTest_103 : decode cX12_readTest 103 = .ok (.getfield 35, 3) := by decide +kernel
theorem dX12_readTest_106 : decode cX12_readTest 106 = .ok (.iload_n 1, 1) := by decide +kernel
theorem dX12_readTest_107 : decode cX12_readTest 107 = .ok (.iconst 2, 1) := by decide +kernel
theorem dX12_readTest_108 : decode cX12_readTest 108 = .ok (.iadd, 1) := by decide +kernel
theorem dX12_readTest_109 : decode cX12_readTest 109 = .ok (.aload_n 0, 1) := by decide +kernel
theorem dX12_readTest_110 : decode cX12_readTest 110 = .ok (.iconst 0, 1) := by decide +kernel
theorem dX12_readTest_111 : decode cX12_readTest 111 = .ok (.invokevirtual 406, 3) := by decide +kernel
theorem dX12_readTest_114 : decode cX12_readTest 114 = .ok (.iastore, 1) := by decide +kernel
theorem dX12_readTest_115 : decode cX12_readTest 115 = .ok (.return_, 1) := by decide +kernel
theorem dX12_readRest_0 : decode cX12_readRest 0 = .ok (.aload_n 0, 1) := by decide +kernel
theorem dX12_readRest_1 : decode cX12_readRest 1 = .ok (.getfield 35, 3) := by decide +kernel
theorem dX12_readRest_4 : decode cX12_readRest 4 = .ok (.iload_n 1, 1) := by decide +kernel
theorem dX12_readRest_5 : decode cX12_readRest 5 = .ok (.iaload, 1) := by decide +kernel
theorem dX12_readRest_6 : decode cX12_readRest 6 = .ok (.istore_n 2, 1) := by decide +kernel
theorem dX12_readRest_7 : decode cX12_readRest 7 = .ok (.iload_n 2, 1) := by decide +kernel
theorem dX12_readRest_8 : decode cX12_readRest 8 = .ok (.ifCond .eq 13, 3) := by decide +kernel
theorem dX12_readRest_11 : decode cX12_readRest 11 = .ok (.iload_n 2, 1) := by decide +kernel
theorem dX12_readRest_12 : decode cX12_readRest 12 = .ok (.iconst 2, 1) := by decide +kernel
theorem dX12_readRest_13 : decode cX12_readRest 13 = .ok (.if_icmp .eq 8, 3) := by decide +kernel
theorem dX12_readRest_16 : decode cX12_readRest 16 = .ok (.iload_n 2, 1) := by decide +kernel
theorem dX12_readRest_17 : decode cX12_readRest 17 = .ok (.iconst 3, 1) := by decide +kernel
theorem dX12_readRest_18 : decode cX12_readRest 18 = .ok (.if_icmp .ne 40, 3) := by decide +kernel
theorem dX12_readRest_21 : decode cX12_readRest 21 = .ok (.aload_n 0, 1) := by decide +kernel
theorem dX12_readRest_22 : decode cX12_readRest 22 = .ok (.getfield 35, 3) := by decide +kernel
theorem dX12_readRest_25 : decode cX12_readRest 25 = .ok (.iload_n 1, 1) := by decide +kernel
theorem dX12_readRest_26 : decode cX12_readRest 26 = .ok (.iconst 1, 1) := by decide +kernel
theorem dX12_readRest_27 : decode cX12_readRest 27 = .ok (.iadd, 1) := by decide +kernel
theorem dX12_readRest_28 : decode cX12_readRest 28 = .ok (.aload_n 0, 1) := by decide +kernel
theorem dX12_readRest_29 : decode cX12_readRest 29 = .ok (.iconst 0, 1) := by decide +kernel
theorem dX12_readRest_30 : decode cX12_readRest 30 = .ok (.invokevirtual 406, 3) := by decide +kernel
theorem dX12_readRest_33 : decode cX12_readRest 33 = .ok (.iastore, 1) := by decide +kernel
theorem dX12_readRest_34 : decode cX12_readRest 34 = .ok (.aload_n 0, 1) := by decide +kernel
theorem dX12_readRest_35 : decode cX12_readRest 35 = .ok (.aload_n 0, 1) := by decide +kernel
theorem dX12_readRest_36 : decode cX12_readRest 36 = .ok (.invokevirtual 182, 3) := by decide +kernel
theorem dX12_readRest_39 : decode cX12_readRest 39 = .ok (.invokevirtual 252, 3) := by decide +kernel
theorem dX12_readRest_42 : decode cX12_readRest 42 = .ok (.aload_n 0, 1) := by decide +kernel
theorem dX12_readRest_43 : decode cX12_readRest 43 = .ok (.getfield 35, 3) := by decide +kernel
theorem dX12_readRest_46 : decode cX12_readRest 46 = .ok (.iload_n 1, 1) := by decide +kernel
theorem dX12_readRest_47 : decode cX12_readRest 47 = .ok (.iconst 2, 1) := by decide +kernel
theorem dX12_readRest_48 : decode cX12_readRest 48 = .ok (.iadd, 1) := by decide +kernel
theorem dX12_readRest_49 : decode cX12_readRest 49 = .ok (.aload_n 0, 1) := by decide +kernel
theorem dX12_readRest_50 : decode cX12_readRest 50 = .ok (.iconst 1, 1) := by decide +kernel
theorem dX12_readRest_51 : decode cX12_readRest 51 = .ok (.invokevirtual 406, 3) := by decide +kernel
theorem dX12_readRest_54 : decode cX12_readRest 54 = .ok (.iastore, 1) := by decide +kernel
theorem dX12_readRest_55 : decode cX12_readRest 55 = .ok (.goto 79, 3) := by decide +kernel
theorem dX12_readRest_58 : decode cX12_readRest 58 = .ok (.iload_n 2, 1) := by decide +kernel
theorem dX12_readRest_59 : decode cX12_readRest 59 = .ok (.iconst 1, 1) := by decide +kernel
theorem dX12_readRest_60 : decode cX12_readRest 60 = .ok (.if_icmp .ne 11, 3) := by decide +kernel
theorem dX12_readRest_63 : decode cX12_readRest 63 = .ok (.aload_n 0, 1) := by decide +kernel
theorem dX12_readRest_64 : decode cX12_readRest 64 = .ok (.iload_n 1, 1) := by decide +kernel
theorem dX12_readRest_65 : decode cX12_readRest 65 = .ok (.invokevirtual 410, 3) := by decide +kernel
theorem dX12_readRest_68 : decode cX12_readRest 68 = .ok (.goto 66, 3) := by decide +kernel
theorem dX12_readRest_71 : decode cX12_readRest 71 = .ok (.iload_n 2, 1) := by decide +kernel
theorem dX12_readRest_72 : decode cX12_readRest 72 = .ok (.iconst 4, 1) := by decide +kernel
theorem dX12_readRest_73 : decode cX12_readRest 73 = .ok (.if_icmp .eq 9, 3) := by decide +kernel
theorem dX12_readRest_76 : decode cX12_readRest 76 = .ok (.iload_n 2, 1) := by decide +kernel
theorem dX12_readRest_77 : decode cX12_readRest 77 = .ok (.bipush 7, 2) := by decide +kernel
theorem dX12_readRest_79 : decode cX12_readRest 79 = .ok (.if_icmp .ne 21, 3) := by decide +kernel
theorem dX12_readRest_82 : decode cX12_readRest 82 = .ok (.aload_n 0, 1) := by decide +kernel
theorem dX12_readRest_83 : decode cX12_readRest 83 = .ok (.getfield 35, 3) := by decide +kernel
theorem dX12_readRest_86 : decode cX12_readRest 86 = .ok (.iload_n 1, 1) := by decide +kernel
theorem dX12_readRest_87 : decode cX12_readRest 87 = .ok (.iconst 1, 1) := by decide +kernel
theorem dX12_readRest_88 : decode cX12_readRest 88 = .ok (.iadd, 1) := by decide +kernel
theorem dX12_readRest_89 : decode cX12_readRest 89 = .ok (.aload_n 0, 1) := by decide +kernel
theorem dX12_readRest_90 : decode cX12_readRest 90 = .ok (.iconst 1, 1) := by decide +kernel
theorem dX12_readRest_91 : decode cX12_readRest 91 = .ok (.bipush 99, 2) := by decide +kernel
theorem dX12_readRest_93 : decode cX12_readRest 93 = .ok (.invokevirtual 272, 3) := by decide +kernel
theorem dX12_readRest_96 : decode cX12_readRest 96 = .ok (.iastore, 1) := by decide +kernel
theorem dX12_readRest_97 : decode cX12_readRest 97 = .ok (.goto 37, 3) := by decide +kernel
theorem dX12_readRest_100 : decode cX12_readRest 100 = .ok (.iload_n 2, 1) := by decide +kernel
theorem dX12_readRest_101 : decode cX12_readRest 101 = .ok (.iconst 5, 1) := by decide +kernel
theorem dX12_readRest_102 : decode cX12_readRest 102 = .ok (.if_icmp .ne 21, 3) := by decide +kernel
theorem dX12_readRest_105 : decode cX12_readRest 105 = .ok (.aload_n 0, 1) := by decide +kernel
theorem dX12_readRest_106 : decode cX12_readRest 106 = .ok (.getfield 35, 3) := by decide +kernel
theorem dX12_readRest_109 : decode cX12_readRest 109 = .ok (.iload_n 1, 1) := by decide +kernel
theorem dX12_readRest_110 : decode cX12_readRest 110 = .ok (.iconst 1, 1) := by decide +kernel
theorem dX12_readRest_111 : decode cX12_readRest 111 = .ok (.iadd, 1) := by decide +kernel
theorem dX12_readRest_112 : decode cX12_readRest 112 = .ok (.aload_n 0, 1) := by decide +kernel
theorem dX12_readRest_113 : decode cX12_readRest 113 = .ok (.iconst 0, 1) := by decide +kernel
theorem dX12_readRest_114 : decode cX12_readRest 114 = .ok (.bipush 16, 2) := by decide +kernel
theorem dX12_readRest_116 : decode cX12_readRest 116 = .ok (.invokevirtual 272, 3) := by decide +kernel
theorem dX12_readRest_119 : decode cX12_readRest 119 = .ok (.iastore, 1) := by decide +kernel
theorem dX12_readRest_120 : decode cX12_readRest 120 = .ok (.goto 14, 3) := by decide +kernel
theorem dX12_readRest_123 : decode cX12_readRest 123 = .ok (.iload_n 2, 1) := by decide +kernel
theorem dX12_readRest_124 : decode cX12_readRest 124 = .ok (.bipush 6, 2) := by decide +kernel
theorem dX12_readRest_126 : decode cX12_readRest 126 = .ok (.if_icmp .ne 8, 3) := by decide +kernel
theorem dX12_readRest_129 : decode cX12_readRest 129 = .ok (.aload_n 0, 1) := by decide +kernel
theorem dX12_readRest_130 : decode cX12_readRest 130 = .ok (.iload_n 1, 1) := by decide +kernel
theorem dX12_readRest_131 : decode cX12_readRest 131 = .ok (.invokevirtual 413, 3) := by decide +kernel
theorem dX12_readRest_134 : decode cX12_readRest 134 = .ok (.return_, 1) := by decide +kernel
theorem dX12_readStep_0 : decode cX12_readStep 0 = .ok (.aload_n 0, 1) := by decide +kernel
theorem dX12_readStep_1 : decode cX12_readStep 1 = .ok (.invokevirtual 179, 3) := by decide +kernel
theorem dX12_readStep_4 : decode cX12_readStep 4 = .ok (.istore_n 2, 1) := by decide +kernel
theorem dX12_readStep_5 : decode cX12_readStep 5 = .ok (.iload_n 2, 1) := by decide +kernel
theorem dX12_readStep_6 : decode cX12_readStep 6 = .ok (.bipush 6, 2) := by decide +kernel
theorem dX12_readStep_8 : decode cX12_readStep 8 = .ok (.if_icmp .eq 9, 3) := by decide +kernel
theorem dX12_readStep_11 : decode cX12_readStep 11 = .ok (.iload_n 2, 1) := by decide +kernel
theorem dX12_readStep_12 : decode cX12_readStep 12 = .ok (.bipush 7, 2) := by decide +kernel
theorem dX12_readStep_14 : decode cX12_readStep 14 = .ok (.if_icmp .ne 7, 3) := by decide +kernel
theorem dX12_readStep_17 : decode cX12_readStep 17 = .ok (.iconst 1, 1) := by decide +kernel
theorem dX12_readStep_18 : decode cX12_readStep 18 = .ok (.goto 4, 3) := by decide +kernel
theorem dX12_readStep_21 : decode cX12_readStep 21 = .ok (.iconst 0, 1) := by decide +kernel
theorem dX12_readStep_22 : decode cX12_readStep 22 = .ok (.istore_n 3, 1) := by decide +kernel
theorem dX12_readStep_23 : decode cX12_readStep 23 = .ok (.iload_n 2, 1) := by decide +kernel
theorem dX12_readStep_24 : decode cX12_readStep 24 = .ok (.ifCond .ge 7, 3) := by decide +kernel
theorem dX12_readStep_27 : decode cX12_readStep 27 = .ok (.aload_n 0, 1) := by decide +kernel
theorem dX12_readStep_28 : decode cX12_readStep 28 = .ok (.invokevirtual 222, 3) := by decide +kernel
theorem dX12_readStep_31 : decode cX12_readStep 31 = .ok (.aload_n 0, 1) := by decide +kernel
theorem dX12_readStep_32 : decode cX12_readStep 32 = .ok (.getfield 209, 3) := by decide +kernel
theorem dX12_readStep_35 : decode cX12_readStep 35 = .ok (.ifCond .ne 22, 3) := by decide +kernel
theorem dX12_readStep_38 : decode cX12_readStep 38 = .ok (.aload_n 0, 1) := by decide +kernel
theorem dX12_readStep_39 : decode cX12_readStep 39 = .ok (.getfield 416, 3) := by decide +kernel
theorem dX12_readStep_42 : decode cX12_readStep 42 = .ok (.bipush 30, 2) := by decide +kernel
theorem dX12_readStep_44 : decode cX12_readStep 44 = .ok (.if_icmp .ne 13, 3) := by decide +kernel
theorem dX12_readStep_47 : decode cX12_readStep 47 = .ok (.aload_n 0, 1) := by decide +kernel
theorem dX12_readStep_48 : decode cX12_readStep 48 = .ok (.bipush 6, 2) := by decide +kernel
theorem dX12_readStep_50 : decode cX12_readStep 50 = .ok (.aload_n 0, 1) := by decide +kernel
theorem dX12_readStep_51 : decode cX12_readStep 51 = .ok (.getfield 120, 3) := by decide +kernel
theorem dX12_readStep_54 : decode cX12_readStep 54 = .ok (.invokevirtual 215, 3) := by decide +kernel
theorem dX12_readStep_57 : decode cX12_readStep 57 = .ok (.aload_n 0, 1) := by decide +kernel
theorem dX12_readStep_58 : decode cX12_readStep 58 = .ok (.getfield 209, 3) := by decide +kernel
theorem dX12_readStep_61 : decode cX12_readStep 61 = .ok (.ifCond .ne 22, 3) := by decide +kernel
theorem dX12_readStep_64 : decode cX12_readStep 64 = .ok (.iload_n 3, 1) := by decide +kernel
theorem dX12_readStep_65 : decode cX12_readStep 65 = .ok (.ifCond .eq 18, 3) := by decide +kernel
theorem dX12_readStep_68 : decode cX12_readStep 68 = .ok (.iload_n 1, 1) := by decide +kernel
theorem dX12_readStep_69 : decode cX12_readStep 69 = .ok (.iconst 3, 1) := by decide +kernel
theorem dX12_readStep_70 : decode cX12_readStep 70 = .ok (.if_icmp .ne 13, 3) := by decide +kernel
theorem dX12_readStep_73 : decode cX12_readStep 73 = .ok (.aload_n 0, 1) := by decide +kernel
theorem dX12_readStep_74 : decode cX12_readStep 74 = .ok (.bipush 7, 2) := by decide +kernel
theorem dX12_readStep_76 : decode cX12_readStep 76 = .ok (.aload_n 0, 1) := by decide +kernel
theorem dX12_readStep_77 : decode cX12_readStep 77 = .ok (.getfield 120, 3) := by decide +kernel
theorem dX12_readStep_80 : decode cX12_readStep 80 = .ok (.invokevirtual 215, 3) := by decide +kernel
theorem dX12_readStep_83 : decode cX12_readStep 83 = .ok (.aload_n 0, 1) := by decide +kernel
theorem dX12_readStep_84 : decode cX12_readStep 84 = .ok (.getfield 209, 3) := by decide +kernel
theorem dX12_readStep_87 : decode cX12_readStep 87 = .ok (.ifCond .le 4, 3) := by decide +kernel
theorem dX12_readStep_90 : decode cX12_readStep 90 = .ok (.return_, 1) := by decide +kernel
theorem dX12_readStep_91 : decode cX12_readStep 91 = .ok (.sipush 1577, 3) := by decide +kernel
theorem dX12_readStep_94 : decode cX12_readStep 94 = .ok (.bipush 7, 2) := by decide +kernel
theorem dX12_readStep_96 : decode cX12_readStep 96 = .ok (.aload_n 0, 1) := by decide +kernel
theorem dX12_readStep_97 : decode cX12_readStep 97 = .ok (.getfield 416, 3) := by decide +kernel
theorem dX12_readStep_100 : decode cX12_readStep 100 = .ok (.imul, 1) := by decide +kernel
theorem dX12_readStep_101 : decode cX12_readStep 101 = .ok (.iadd, 1) := by decide +kernel
theorem dX12_readStep_102 : decode cX12_readStep 102 = .ok (.istore 4, 2) := by decide +kernel
theorem dX12_readStep_104 : decode cX12_readStep 104 = .ok (.aload_n 0, 1) := by decide +kernel
theorem dX12_readStep_105 : decode cX12_readStep 105 = .ok (.dup, 1) := by decide +kernel
theorem dX12_readStep_106 : decode cX12_readStep 106 = .ok (.getfield 416, 3) := by decide +kernel
theorem dX12_readStep_109 : decode cX12_readStep 109 = .ok (.iconst 1, 1) := by decide +kernel
theorem dX12_readStep_110 : decode cX12_readStep 110 = .ok (.iadd, 1) := by decide +kernel
theorem dX12_readStep_111 : decode cX12_readStep 111 = .ok (.putfield 416, 3) := by decide +kernel
theorem dX12_readStep_114 : decode cX12_readStep 114 = .ok (.aload_n 0, 1) := by decide +kernel
theorem dX12_readStep_115 : decode cX12_readStep 115 = .ok (.invokevirtual 219, 3) := by decide +kernel
theorem dX12_readStep_118 : decode cX12_readStep 118 = .ok (.aload_n 0, 1) := by decide +kernel
theorem dX12_readStep_119 : decode cX12_readStep 119 = .ok (.getfield 35, 3) := by decide +kernel
theorem dX12_readStep_122 : decode cX12_readStep 122 = .ok (.iload 4, 2) := by decide +kernel
theorem dX12_readStep_124 : decode cX12_readStep 124 = .ok (.iload_n 2, 1) := by decide +kernel
theorem dX12_readStep_125 : decode cX12_readStep 125 = .ok (.iastore, 1) := by decide +kernel
theorem dX12_readStep_126 : decode cX12_readStep 126 = .ok (.aload_n 0, 1) := by decide +kernel
theorem dX12_readStep_127 : decode cX12_readStep 127 = .ok (.iload 4, 2) := by decide +kernel
theorem dX12_readStep_129 : decode cX12_readStep 129 = .ok (.invokevirtual 419, 3) := by decide +kernel
theorem dX12_readStep_132 : decode cX12_readStep 132 = .ok (.aload_n 0, 1) := by decide +kernel
theorem dX12_readStep_133 : decode cX12_readStep 133 = .ok (.aload_n 0, 1) := by decide +kernel
theorem dX12_readStep_134 : decode cX12_readStep 134 = .ok (.invokevirtual 293, 3) := by decide +kernel
theorem dX12_readStep_137 : decode cX12_readStep 137 = .ok (.invokevirtual 252, 3) := by decide +kernel
theorem dX12_readStep_140 : decode cX12_readStep 140 = .ok (.iload_n 3, 1) := by decide +kernel
theorem dX12_readStep_141 : decode cX12_readStep 141 = .ok (.ifCond .eq 27, 3) := by decide +kernel
theorem dX12_readStep_144 : decode cX12_readStep 144 = .ok (.aload_n 0, 1) := by decide +kernel
theorem dX12_readStep_145 : decode cX12_readStep 145 = .ok (.getfield 209, 3) := by decide +kernel
theorem dX12_readStep_148 : decode cX12_readStep 148 = .ok (.ifCond .ne 20, 3) := by decide +kernel
theorem dX12_readStep_151 : decode cX12_readStep 151 = .ok (.aload_n 0, 1) := by decide +kernel
theorem dX12_readStep_152 : decode cX12_readStep 152 = .ok (.invokevirtual 203, 3) := by decide +kernel
theorem dX12_readStep_155 : decode cX12_readStep 155 = .ok (.ifCond .ne 13, 3) := by decide +kernel
theorem dX12_readStep_158 : decode cX12_readStep 158 = .ok (.aload_n 0, 1) := by decide +kernel
theorem dX12_readStep_159 : decode cX12_readStep 159 = .ok (.iload_n 1, 1) := by decide +kernel
theorem dX12_readStep_160 : decode cX12_readStep 160 = .ok (.iconst 1, 1) := by decide +kernel
theorem dX12_readStep_161 : decode cX12_readStep 161 = .ok (.iadd, 1) := by decide +kernel
theorem dX12_readStep_162 : decode cX12_readStep 162 = .ok (.invokevirtual 422, 3) := by decide +kernel
theorem dX12_readStep_165 : decode cX12_readStep 165 = .ok (.goto (-25), 3) := by decide +kernel
theorem dX12_readStep_168 : decode cX12_readStep 168 = .ok (.iload_n 3, 1) := by decide +kernel
theorem dX12_readStep_169 : decode cX12_readStep 169 = .ok (.ifCond .eq 19, 3) := by decide +kernel
theorem dX12_readStep_172 : decode cX12_readStep 172 = .ok (.aload_n 0, 1) := by decide +kernel
theorem dX12_readStep_173 : decode cX12_readStep 173 = .ok (.aload_n 0, 1) := by decide +kernel
theorem dX12_readStep_174 : decode cX12_readStep 174 = .ok (.invokevirtual 203, 3) := by decide +kernel
theorem dX12_readStep_177 : decode cX12_readStep 177 = .ok (.invokevirtual 252, 3) := by decide +kernel
theorem dX12_readStep_180 : decode cX12_readStep 180 = .ok (.aload_n 0, 1) := by decide +kernel
theorem dX12_readStep_181 : decode cX12_readStep 181 = .ok (.aload_n 0, 1) := by decide +kernel
theorem dX12_readStep_182 : decode cX12_readStep 182 = .ok (.invokevirtual 293, 3) := by decide +kernel
theorem dX12_readStep_185 : decode cX12_readStep 185 = .ok (.invokevirtual 252, 3) := by decide +kernel
theorem dX12_readStep_188 : decode cX12_readStep 188 = .ok (.aload_n 0, 1) := by decide +kernel
theorem dX12_readStep_189 : decode cX12_readStep 189 = .ok (.getfield 35, 3) := by decide +kernel
theorem dX12_readStep_192 : decode cX12_readStep 192 = .ok (.iload 4, 2) := by decide +kernel
theorem dX12_readStep_194 : decode cX12_readStep 194 = .ok (.bipush 6, 2) := by decide +kernel
theorem dX12_readStep_196 : decode cX12_readStep 196 = .ok (.iadd, 1) := by decide +kernel
theorem dX12_readStep_197 : decode cX12_readStep 197 = .ok (.aload_n 0, 1) := by decide +kernel
theorem dX12_readStep_198 : decode cX12_readStep 198 = .ok (.getfield 416, 3) := by decide +kernel
theorem dX12_readStep_201 : decode cX12_readStep 201 = .ok (.iastore, 1) := by decide +kernel
theorem dX12_readStep_202 : decode cX12_readStep 202 = .ok (.return_, 1) := by decide +kernel
theorem dX12_log_0 : decode cX12_log 0 = .ok (.aload_n 0, 1) := by decide +kernel
theorem dX12_log_1 : decode cX12_log 1 = .ok (.iconst 0, 1) := by decide +kernel
theorem dX12_log_2 : decode cX12_log 2 = .ok (.putfield 75, 3) := by decide +kernel
theorem dX12_log_5 : decode cX12_log 5 = .ok (.aload_n 0, 1) := by decide +kernel
theorem dX12_log_6 : decode cX12_log 6 = .ok (.iconst 0, 1) := by decide +kernel
theorem dX12_log_7 : decode cX12_log 7 = .ok (.putfield 78, 3) := by decide +kernel
theorem dX12_log_10 : decode cX12_log 10 = .ok (.aload_n 0, 1) := by decide +kernel
theorem dX12_log_11 : decode cX12_log 11 = .ok (.iload_n 1, 1) := by decide +kernel
theorem dX12_log_12 : decode cX12_log 12 = .ok (.sipush 300, 3) := by decide +kernel
theorem dX12_log_15 : decode cX12_log 15 = .ok (.invokevirtual 284, 3) := by decide +kernel
theorem dX12_log_18 : decode cX12_log 18 = .ok (.ifCond .ne 5, 3) := by decide +kernel
theorem dX12_log_21 : decode cX12_log 21 = .ok (.iconst (-1), 1) := by decide +kernel
theorem dX12_log_22 : decode cX12_log 22 = .ok (.ireturn, 1) := by decide +kernel
theorem dX12_log_23 : decode cX12_log 23 = .ok (.aload_n 0, 1) := by decide +kernel
theorem dX12_log_24 : decode cX12_log 24 = .ok (.iconst 0, 1) := by decide +kernel
theorem dX12_log_25 : decode cX12_log 25 = .ok (.putfield 416, 3) := by decide +kernel
theorem dX12_log_28 : decode cX12_log 28 = .ok (.aload_n 0, 1) := by decide +kernel
theorem dX12_log_29 : decode cX12_log 29 = .ok (.getfield 209, 3) := by decide +kernel
theorem dX12_log_32 : decode cX12_log 32 = .ok (.ifCond .ne 18, 3) := by decide +kernel
theorem dX12_log_35 : decode cX12_log 35 = .ok (.aload_n 0, 1) := by decide +kernel
theorem dX12_log_36 : decode cX12_log 36 = .ok (.getfield 126, 3) := by decide +kernel
theorem dX12_log_39 : decode cX12_log 39 = .ok (.ifCond .eq 11, 3) := by decide +kernel
theorem dX12_log_42 : decode cX12_log 42 = .ok (.aload_n 0, 1) := by decide +kernel
theorem dX12_log_43 : decode cX12_log 43 = .ok (.iconst 0, 1) := by decide +kernel
theorem dX12_log_44 : decode cX12_log 44 = .ok (.invokevirtual 422, 3) := by decide +kernel
theorem dX12_log_47 : decode cX12_log 47 = .ok (.goto (-19), 3) := by decide +kernel
theorem dX12_log_50 : decode cX12_log 50 = .ok (.aload_n 0, 1) := by decide +kernel
theorem dX12_log_51 : decode cX12_log 51 = .ok (.invokevirtual 296, 3) := by decide +kernel
theorem dX12_log_54 : decode cX12_log 54 = .ok (.ifCond .ne 5, 3) := by decide +kernel
theorem dX12_log_57 : decode cX12_log 57 = .ok (.iconst (-1), 1) := by decide +kernel
theorem dX12_log_58 : decode cX12_log 58 = .ok (.ireturn, 1) := by decide +kernel
theorem dX12_log_59 : decode cX12_log 59 = .ok (.aload_n 0, 1) := by decide +kernel
theorem dX12_log_60 : decode cX12_log 60 = .ok (.getfield 35, 3) := by decide +kernel
theorem dX12_log_63 : decode cX12_log 63 = .ok (.sipush 135, 3) := by decide +kernel
theorem dX12_log_66 : decode cX12_log 66 = .ok (.iconst 1, 1) := by decide +kernel
theorem dX12_log_67 : decode cX12_log 67 = .ok (.iastore, 1) := by decide +kernel
theorem dX12_log_68 : decode cX12_log 68 = .ok (.aload_n 0, 1) := by decide +kernel
theorem dX12_log_69 : decode cX12_log 69 = .ok (.getfield 35, 3) := by decide +kernel
theorem dX12_log_72 : decode cX12_log 72 = .ok (.sipush 136, 3) := by decide +kernel
theorem dX12_log_75 : decode cX12_log 75 = .ok (.aload_n 0, 1) := by decide +kernel
theorem dX12_log_76 : decode cX12_log 76 = .ok (.getfield 416, 3) := by decide +kernel
theorem dX12_log_79 : decode cX12_log 79 = .ok (.iastore, 1) := by decide +kernel
theorem dX12_log_80 : decode cX12_log 80 = .ok (.iconst 0, 1) := by decide +kernel
theorem dX12_log_81 : decode cX12_log 81 = .ok (.istore_n 2, 1) := by decide +kernel
theorem dX12_log_82 : decode cX12_log 82 = .ok (.iload_n 2, 1) := by decide +kernel
theorem dX12_log_83 : decode cX12_log 83 = .ok (.bipush 7, 2) := by decide +kernel
theorem dX12_log_85 : decode cX12_log 85 = .ok (.aload_n 0, 1) := by decide +kernel
theorem dX12_log_86 : decode cX12_log 86 = .ok (.getfield 416, 3) := by decide +kernel
theorem dX12_log_89 : decode cX12_log 89 = .ok (.imul, 1) := by decide +kernel
theorem dX12_log_90 : decode cX12_log 90 = .ok (.if_icmp .ge 29, 3) := by decide +kernel
theorem dX12_log_93 : decode cX12_log 93 = .ok (.aload_n 0, 1) := by decide +kernel
theorem dX12_log_94 : decode cX12_log 94 = .ok (.getfield 35, 3) := by decide +kernel
theorem dX12_log_97 : decode cX12_log 97 = .ok (.sipush 137, 3) := by decide +kernel
theorem dX12_log_100 : decode cX12_log 100 = .ok (.iload_n 2, 1) := by decide +kernel
theorem dX12_log_101 : decode cX12_log 101 = .ok (.iadd, 1) := by decide +kernel
theorem dX12_log_102 : decode cX12_log 102 = .ok (.aload_n 0, 1) := by decide +kernel
theorem dX12_log_103 : decode cX12_log 103 = .ok (.getfield 35, 3) := by decide +kernel
theorem dX12_log_106 : decode cX12_log 106 = .ok (.sipush 1577, 3) := by decide +kernel
theorem dX12_log_109 : decode cX12_log 109 = .ok (.iload_n 2, 1) := by decide +kernel
theorem dX12_log_110 : decode cX12_log 110 = .ok (.iadd, 1) := by decide +kernel
theorem dX12_log_111 : decode cX12_log 111 = .ok (.iaload, 1) := by decide +kernel
theorem dX12_log_112 : decode cX12_log 112 = .ok (.iastore, 1) := by decide +kernel
theorem dX12_log_113 : decode cX12_log 113 = .ok (.iinc 2 1, 3) := by decide +kernel
theorem dX12_log_116 : decode cX12_log 116 = .ok (.goto (-34), 3) := by decide +kernel
theorem dX12_log_119 : decode cX12_log 119 = .ok (.aload_n 0, 1) := by decide +kernel
theorem dX12_log_120 : decode cX12_log 120 = .ok (.getfield 416, 3) := by decide +kernel
theorem dX12_log_123 : decode cX12_log 123 = .ok (.ireturn, 1) := by decide +kernel
theorem dX12_draw_0 : decode cX12_draw 0 = .ok (.aload_n 0, 1) := by decide +kernel
theorem dX12_draw_1 : decode cX12_draw 1 = .ok (.aload_n 0, 1) := by decide +kernel
theorem dX12_draw_2 : decode cX12_draw 2 = .ok (.getfield 425, 3) := by decide +kernel
theorem dX12_draw_5 : decode cX12_draw 5 = .ok (.sipush 2749, 3) := by decide +kernel
theorem dX12_draw_8 : decode cX12_draw 8 = .ok (.imul, 1) := by decide +kernel
theorem dX12_draw_9 : decode cX12_draw 9 = .ok (.sipush 9733, 3) := by decide +kernel
theorem dX12_draw_12 : decode cX12_draw 12 = .ok (.iadd, 1) := by decide +kernel
theorem dX12_draw_13 : decode cX12_draw 13 = .ok (.ldc 47, 2) := by decide +kernel
theorem dX12_draw_15 : decode cX12_draw 15 = .ok (.irem, 1) := by decide +kernel
theorem dX12_draw_16 : decode cX12_draw 16 = .ok (.putfield 425, 3) := by decide +kernel
theorem dX12_draw_19 : decode cX12_draw 19 = .ok (.aload_n 0, 1) := by decide +kernel
theorem dX12_draw_20 : decode cX12_draw 20 = .ok (.getfield 425, 3) := by decide +kernel
theorem dX12_draw_23 : decode cX12_draw 23 = .ok (.bipush 8, 2) := by decide +kernel
theorem dX12_draw_25 : decode cX12_draw 25 = .ok (.idiv, 1) := by decide +kernel
theorem dX12_draw_26 : decode cX12_draw 26 = .ok (.bipush 16, 2) := by decide +kernel
theorem dX12_draw_28 : decode cX12_draw 28 = .ok (.irem, 1) := by decide +kernel
theorem dX12_draw_29 : decode cX12_draw 29 = .ok (.ireturn, 1) := by decide +kernel
theorem dX12_comes_0 : decode cX12_comes 0 = .ok (.aload_n 0, 1) := by decide +kernel
theorem dX12_comes_1 : decode cX12_comes 1 = .ok (.getfield 35, 3) := by decide +kernel
theorem dX12_comes_4 : decode cX12_comes 4 = .ok (.bipush 114, 2) := by decide +kernel
theorem dX12_comes_6 : decode cX12_comes 6 = .ok (.iload_n 1, 1) := by decide +kernel
theorem dX12_comes_7 : decode cX12_comes 7 = .ok (.iadd, 1) := by decide +kernel
theorem dX12_comes_8 : decode cX12_comes 8 = .ok (.dup2, 1) := by decide +kernel
theorem dX12_comes_9 : decode cX12_comes 9 = .ok (.iaload, 1) := by decide +kernel
theorem dX12_comes_10 : decode cX12_comes 10 = .ok (.iload_n 2, 1) := by decide +kernel
theorem dX12_comes_11 : decode cX12_comes 11 = .ok (.ior, 1) := by decide +kernel
theorem dX12_comes_12 : decode cX12_comes 12 = .ok (.iastore, 1) := by decide +kernel
theorem dX12_comes_13 : decode cX12_comes 13 = .ok (.aload_n 0, 1) := by decide +kernel
theorem dX12_comes_14 : decode cX12_comes 14 = .ok (.dup, 1) := by decide +kernel
theorem dX12_comes_15 : decode cX12_comes 15 = .ok (.getfield 428, 3) := by decide +kernel
theorem dX12_comes_18 : decode cX12_comes 18 = .ok (.iconst 1, 1) := by decide +kernel
theorem dX12_comes_19 : decode cX12_comes 19 = .ok (.iadd, 1) := by decide +kernel
theorem dX12_comes_20 : decode cX12_comes 20 = .ok (.putfield 428, 3) := by decide +kernel
theorem dX12_comes_23 : decode cX12_comes 23 = .ok (.return_, 1) := by decide +kernel
theorem dX12_doShip_0 : decode cX12_doShip 0 = .ok (.aload_n 0, 1) := by decide +kernel
theorem dX12_doShip_1 : decode cX12_doShip 1 = .ok (.getfield 35, 3) := by decide +kernel
theorem dX12_doShip_4 : decode cX12_doShip 4 = .ok (.iload_n 1, 1) := by decide +kernel
theorem dX12_doShip_5 : decode cX12_doShip 5 = .ok (.iconst 1, 1) := by decide +kernel
theorem dX12_doShip_6 : decode cX12_doShip 6 = .ok (.iadd, 1) := by decide +kernel
theorem dX12_doShip_7 : decode cX12_doShip 7 = .ok (.iaload, 1) := by decide +kernel
theorem dX12_doShip_8 : decode cX12_doShip 8 = .ok (.istore_n 2, 1) := by decide +kernel
theorem dX12_doShip_9 : decode cX12_doShip 9 = .ok (.aload_n 0, 1) := by decide +kernel
theorem dX12_doShip_10 : decode cX12_doShip 10 = .ok (.getfield 35, 3) := by decide +kernel
theorem dX12_doShip_13 : decode cX12_doShip 13 = .ok (.iload_n 1, 1) := by decide +kernel
theorem dX12_doShip_14 : decode cX12_doShip 14 = .ok (.iconst 2, 1) := by decide +kernel
theorem dX12_doShip_15 : decode cX12_doShip 15 = .ok (.iadd, 1) := by decide +kernel
theorem dX12_doShip_16 : decode cX12_doShip 16 = .ok (.iaload, 1) := by decide +kernel
theorem dX12_doShip_17 : decode cX12_doShip 17 = .ok (.istore_n 3, 1) := by decide +kernel
theorem dX12_doShip_18 : decode cX12_doShip 18 = .ok (.aload_n 0, 1) := by decide +kernel
theorem dX12_doShip_19 : decode cX12_doShip 19 = .ok (.getfield 35, 3) := by decide +kernel
theorem dX12_doShip_22 : decode cX12_doShip 22 = .ok (.iload_n 1, 1) := by decide +kernel
theorem dX12_doShip_23 : decode cX12_doShip 23 = .ok (.iconst 3, 1) := by decide +kernel
theorem dX12_doShip_24 : decode cX12_doShip 24 = .ok (.iadd, 1) := by decide +kernel
theorem dX12_doShip_25 : decode cX12_doShip 25 = .ok (.iaload, 1) := by decide +kernel
theorem dX12_doShip_26 : decode cX12_doShip 26 = .ok (.istore 4, 2) := by decide +kernel
theorem dX12_doShip_28 : decode cX12_doShip 28 = .ok (.iload 4, 2) := by decide +kernel
theorem dX12_doShip_30 : decode cX12_doShip 30 = .ok (.ifCond .le 7, 3) := by decide +kernel
theorem dX12_doShip_33 : decode cX12_doShip 33 = .ok (.iconst 1, 1) := by decide +kernel
theorem dX12_doShip_34 : decode cX12_doShip 34 = .ok (.goto 4, 3) := by decide +kernel
theorem dX12_doShip_37 : decode cX12_doShip 37 = .ok (.iconst 0, 1) := by decide +kernel
theorem dX12_doShip_38 : decode cX12_doShip 38 = .ok (.aload_n 0, 1) := by decide +kernel
theorem dX12_doShip_39 : decode cX12_doShip 39 = .ok (.getfield 35, 3) := by decide +kernel
theorem dX12_doShip_42 : decode cX12_doShip 42 = .ok (.iload_n 1, 1) := by decide +kernel
theorem dX12_doShip_43 : decode cX12_doShip 43 = .ok (.iconst 4, 1) := by decide +kernel
theorem dX12_doShip_44 : decode cX12_doShip 44 = .ok (.iadd, 1) := by decide +kernel
theorem dX12_doShip_45 : decode cX12_doShip 45 = .ok (.iaload, 1) := by decide +kernel
theorem dX12_doShip_46 : decode cX12_doShip 46 = .ok (.iadd, 1) := by decide +kernel
theorem dX12_doShip_47 : decode cX12_doShip 47 = .ok (.istore 5, 2) := by decide +kernel
theorem dX12_doShip_49 : decode cX12_doShip 49 = .ok (.aload_n 0, 1) := by decide +kernel
theorem dX12_doShip_50 : decode cX12_doShip 50 = .ok (.iload_n 2, 1) := by decide +kernel
theorem dX12_doShip_51 : decode cX12_doShip 51 = .ok (.invokevirtual 403, 3) := by decide +kernel
theorem dX12_doShip_54 : decode cX12_doShip 54 = .ok (.ifCond .eq 28, 3) := by decide +kernel
theorem dX12_doShip_57 : decode cX12_doShip 57 = .ok (.aload_n 0, 1) := by decide +kernel
theorem dX12_doShip_58 : decode cX12_doShip 58 = .ok (.iload_n 3, 1) := by decide +kernel
theorem dX12_doShip_59 : decode cX12_doShip 59 = .ok (.invokevirtual 403, 3) := by decide +kernel
theorem dX12_doShip_62 : decode cX12_doShip 62 = .ok (.ifCond .eq 20, 3) := by decide +kernel
theorem dX12_doShip_65 : decode cX12_doShip 65 = .ok (.iload_n 2, 1) := by decide +kernel
theorem dX12_doShip_66 : decode cX12_doShip 66 = .ok (.iload_n 3, 1) := by decide +kernel
theorem dX12_doShip_67 : decode cX12_doShip 67 = .ok (.if_icmp .eq 15, 3) := by decide +kernel
theorem dX12_doShip_70 : decode cX12_doShip 70 = .ok (.aload_n 0, 1) := by decide +kernel
theorem dX12_doShip_71 : decode cX12_doShip 71 = .ok (.getfield 431, 3) := by decide +kernel
theorem dX12_doShip_74 : decode cX12_doShip 74 = .ok (.iload 5, 2) := by decide +kernel
theorem dX12_doShip_76 : decode cX12_doShip 76 = .ok (.iadd, 1) := by decide +kernel
theorem dX12_doShip_77 : decode cX12_doShip 77 = .ok (.bipush 20, 2) := by decide +kernel
theorem dX12_doShip_79 : decode cX12_doShip 79 = .ok (.if_icmp .le 14, 3) := by decide +kernel
theorem dX12_doShip_82 : decode cX12_doShip 82 = .ok (.aload_n 0, 1) := by decide +kernel
theorem dX12_doShip_83 : decode cX12_doShip 83 = .ok (.dup, 1) := by decide +kernel
theorem dX12_doShip_84 : decode cX12_doShip 84 = .ok (.getfield 434, 3) := by decide +kernel
theorem dX12_doShip_87 : decode cX12_doShip 87 = .ok (.iconst 1, 1) := by decide +kernel
theorem dX12_doShip_88 : decode cX12_doShip 88 = .ok (.iadd, 1) := by decide +kernel
theorem dX12_doShip_89 : decode cX12_doShip 89 = .ok (.putfield 434, 3) := by decide +kernel
theorem dX12_doShip_92 : decode cX12_doShip 92 = .ok (.return_, 1) := by decide +kernel
theorem dX12_doShip_93 : decode cX12_doShip 93 = .ok (.aload_n 0, 1) := by decide +kernel
theorem dX12_doShip_94 : decode cX12_doShip 94 = .ok (.dup, 1) := by decide +kernel
theorem dX12_doShip_95 : decode cX12_doShip 95 = .ok (.getfield 437, 3) := by decide +kernel
theorem dX12_doShip_98 : decode cX12_doShip 98 = .ok (.iconst 1, 1) := by decide +kernel
theorem dX12_doShip_99 : decode cX12_doShip 99 = .ok (.iadd, 1) := by decide +kernel
theorem dX12_doShip_100 : decode cX12_doShip 100 = .ok (.putfield 437, 3) := by decide +kernel
theorem dX12_doShip_103 : decode cX12_doShip 103 = .ok (.aload_n 0, 1) := by decide +kernel
theorem dX12_doShip_104 : decode cX12_doShip 104 = .ok (.getfield 35, 3) := by decide +kernel
theorem dX12_doShip_107 : decode cX12_doShip 107 = .ok (.bipush 114, 2) := by decide +kernel
theorem dX12_doShip_109 : decode cX12_doShip 109 = .ok (.iload_n 2, 1) := by decide +kernel
theorem dX12_doShip_110 : decode cX12_doShip 110 = .ok (.iadd, 1) := by decide +kernel
theorem dX12_doShip_111 : decode cX12_doShip 111 = .ok (.iaload, 1) := by decide +kernel
theorem dX12_doShip_112 : decode cX12_doShip 112 = .ok (.istore 6, 2) := by decide +kernel
theorem dX12_doShip_114 : decode cX12_doShip 114 = .ok (.iload 4, 2) := by decide +kernel
theorem dX12_doShip_116 : decode cX12_doShip 116 = .ok (.ifCond .ne 13, 3) := by decide +kernel
theorem dX12_doShip_119 : decode cX12_doShip 119 = .ok (.aload_n 0, 1) := by decide +kernel
theorem dX12_doShip_120 : decode cX12_doShip 120 = .ok (.iload_n 3, 1) := by decide +kernel
theorem dX12_doShip_121 : decode cX12_doShip 121 = .ok (.iload 6, 2) := by decide +kernel
theorem dX12_doShip_123 : decode cX12_doShip 123 = .ok (.invokevirtual 440, 3) := by decide +kernel
theorem dX12_doShip_126 : decode cX12_doShip 126 = .ok (.goto 17, 3) := by decide +kernel
theorem dX12_doShip_129 : decode cX12_doShip 129 = .ok (.aload_n 0, 1) := by decide +kernel
theorem dX12_doShip_130 : decode cX12_doShip 130 = .ok (.iload_n 3, 1) := by decide +kernel
theorem dX12_doShip_131 : decode cX12_doShip 131 = .ok (.iload 6, 2) := by decide +kernel
theorem dX12_doShip_133 : decode cX12_doShip 133 = .ok (.aload_n 0, 1) := by decide +kernel
theorem dX12_doShip_134 : decode cX12_doShip 134 = .ok (.getfield 443, 3) := by decide +kernel
theorem dX12_doShip_137 : decode cX12_doShip 137 = .ok (.iload 4, 2) := by decide +kernel
theorem dX12_doShip_139 : decode cX12_doShip 139 = .ok (.iadd, 1) := by decide +kernel
theorem dX12_doShip_140 : decode cX12_doShip 140 = .ok (.invokevirtual 446, 3) := by decide +kernel
theorem dX12_doShip_143 : decode cX12_doShip 143 = .ok (.aload_n 0, 1) := by decide +kernel
theorem dX12_doShip_144 : decode cX12_doShip 144 = .ok (.getfield 35, 3) := by decide +kernel
theorem dX12_doShip_147 : decode cX12_doShip 147 = .ok (.iload_n 1, 1) := by decide +kernel
theorem dX12_doShip_148 : decode cX12_doShip 148 = .ok (.iconst 4, 1) := by decide +kernel
theorem dX12_doShip_149 : decode cX12_doShip 149 = .ok (.iadd, 1) := by decide +kernel
theorem dX12_doShip_150 : decode cX12_doShip 150 = .ok (.iaload, 1) := by decide +kernel
theorem dX12_doShip_151 : decode cX12_doShip 151 = .ok (.iconst 1, 1) := by decide +kernel
theorem dX12_doShip_152 : decode cX12_doShip 152 = .ok (.if_icmp .ne 19, 3) := by decide +kernel
theorem dX12_doShip_155 : decode cX12_doShip 155 = .ok (.aload_n 0, 1) := by decide +kernel
theorem dX12_doShip_156 : decode cX12_doShip 156 = .ok (.iload_n 3, 1) := by decide +kernel
theorem dX12_doShip_157 : decode cX12_doShip 157 = .ok (.iload 6, 2) := by decide +kernel
theorem dX12_doShip_159 : decode cX12_doShip 159 = .ok (.aload_n 0, 1) := by decide +kernel
theorem dX12_doShip_160 : decode cX12_doShip 160 = .ok (.getfield 443, 3) := by decide +kernel
theorem dX12_doShip_163 : decode cX12_doShip 163 = .ok (.iload 4, 2) := by decide +kernel
theorem dX12_doShip_165 : decode cX12_doShip 165 = .ok (.iadd, 1) := by decide +kernel
theorem dX12_doShip_166 : decode cX12_doShip 166 = .ok (.iconst 1, 1) := by decide +kernel
theorem dX12_doShip_167 : decode cX12_doShip 167 = .ok (.iadd, 1) := by decide +kernel
theorem dX12_doShip_168 : decode cX12_doShip 168 = .ok (.invokevirtual 446, 3) := by decide +kernel
theorem dX12_doShip_171 : decode cX12_doShip 171 = .ok (.return_, 1) := by decide +kernel
theorem dX12_load_0 : decode cX12_load 0 = .ok (.aload_n 0, 1) := by decide +kernel
theorem dX12_load_1 : decode cX12_load 1 = .ok (.getfield 54, 3) := by decide +kernel
theorem dX12_load_4 : decode cX12_load 4 = .ok (.aload_n 0, 1) := by decide +kernel
theorem dX12_load_5 : decode cX12_load 5 = .ok (.getfield 431, 3) := by decide +kernel
theorem dX12_load_8 : decode cX12_load 8 = .ok (.iload_n 1, 1) := by decide +kernel
theorem dX12_load_9 : decode cX12_load 9 = .ok (.iastore, 1) := by decide +kernel
theorem dX12_load_10 : decode cX12_load 10 = .ok (.aload_n 0, 1) := by decide +kernel
theorem dX12_load_11 : decode cX12_load 11 = .ok (.getfield 57, 3) := by decide +kernel
theorem dX12_load_14 : decode cX12_load 14 = .ok (.aload_n 0, 1) := by decide +kernel
theorem dX12_load_15 : decode cX12_load 15 = .ok (.getfield 431, 3) := by decide +kernel
theorem dX12_load_18 : decode cX12_load 18 = .ok (.iload_n 2, 1) := by decide +kernel
theorem dX12_load_19 : decode cX12_load 19 = .ok (.iastore, 1) := by decide +kernel
theorem dX12_load_20 : decode cX12_load 20 = .ok (.aload_n 0, 1) := by decide +kernel
theorem dX12_load_21 : decode cX12_load 21 = .ok (.getfield 60, 3) := by decide +kernel
theorem dX12_load_24 : decode cX12_load 24 = .ok (.aload_n 0, 1) := by decide +kernel
theorem dX12_load_25 : decode cX12_load 25 = .ok (.getfield 431, 3) := by decide +kernel
theorem dX12_load_28 : decode cX12_load 28 = .ok (.iload_n 3, 1) := by decide +kernel
theorem dX12_load_29 : decode cX12_load 29 = .ok (.iastore, 1) := by decide +kernel
theorem dX12_load_30 : decode cX12_load 30 = .ok (.aload_n 0, 1) := by decide +kernel
theorem dX12_load_31 : decode cX12_load 31 = .ok (.getfield 63, 3) := by decide +kernel
theorem dX12_load_34 : decode cX12_load 34 = .ok (.aload_n 0, 1) := by decide +kernel
theorem dX12_load_35 : decode cX12_load 35 = .ok (.getfield 431, 3) := by decide +kernel
theorem dX12_load_38 : decode cX12_load 38 = .ok (.aload_n 0, 1) := by decide +kernel
theorem dX12_load_39 : decode cX12_load 39 = .ok (.getfield 437, 3) := by decide +kernel
theorem dX12_load_42 : decode cX12_load 42 = .ok (.iastore, 1) := by decide +kernel
theorem dX12_load_43 : decode cX12_load 43 = .ok (.aload_n 0, 1) := by decide +kernel
theorem dX12_load_44 : decode cX12_load 44 = .ok (.dup, 1) := by decide +kernel
theorem dX12_load_45 : decode cX12_load 45 = .ok (.getfield 431, 3) := by decide +kernel
theorem dX12_load_48 : decode cX12_load 48 = .ok (.iconst 1, 1) := by decide +kernel
theorem dX12_load_49 : decode cX12_load 49 = .ok (.iadd, 1) := by decide +kernel
theorem dX12_load_50 : decode cX12_load 50 = .ok (.putfield 431, 3) := by decide +kernel
theorem dX12_load_53 : decode cX12_load 53 = .ok (.return_, 1) := by decide +kernel
theorem dX12_takeAway_0 : decode cX12_takeAway 0 = .ok (.aload_n 0, 1) := by decide +kernel
theorem dX12_takeAway_1 : decode cX12_takeAway 1 = .ok (.dup, 1) := by decide +kernel
theorem dX12_takeAway_2 : decode cX12_takeAway 2 = .ok (.getfield 431, 3) := by decide +kernel
theorem dX12_takeAway_5 : decode cX12_takeAway 5 = .ok (.iconst 1, 1) := by decide +kernel
theorem dX12_takeAway_6 : decode cX12_takeAway 6 = .ok (.isub, 1) := by decide +kernel
theorem dX12_takeAway_7 : decode cX12_takeAway 7 = .ok (.putfield 431, 3) := by decide +kernel
theorem dX12_takeAway_10 : decode cX12_takeAway 10 = .ok (.iload_n 1, 1) := by decide +kernel
theorem dX12_takeAway_11 : decode cX12_takeAway 11 = .ok (.istore_n 2, 1) := by decide +kernel
theorem dX12_takeAway_12 : decode cX12_takeAway 12 = .ok (.iload_n 2, 1) := by decide +kernel
theorem dX12_takeAway_13 : decode cX12_takeAway 13 = .ok (.aload_n 0, 1) := by decide +kernel
theorem dX12_takeAway_14 : decode cX12_takeAway 14 = .ok (.getfield 431, 3) := by decide +kernel
theorem dX12_takeAway_17 : decode cX12_takeAway 17 = .ok (.if_icmp .ge 65, 3) := by decide +kernel
theorem dX12_takeAway_20 : decode cX12_takeAway 20 = .ok (.aload_n 0, 1) := by decide +kernel
theorem dX12_takeAway_21 : decode cX12_takeAway 21 = .ok (.getfield 54, 3) := by decide +kernel
theorem dX12_takeAway_24 : decode cX12_takeAway 24 = .ok (.iload_n 2, 1) := by decide +kernel
theorem dX12_takeAway_25 : decode cX12_takeAway 25 = .ok (.aload_n 0, 1) := by decide +kernel
theorem dX12_takeAway_26 : decode cX12_takeAway 26 = .ok (.getfield 54, 3) := by decide +kernel
theorem dX12_takeAway_29 : decode cX12_takeAway 29 = .ok (.iload_n 2, 1) := by decide +kernel
theorem dX12_takeAway_30 : decode cX12_takeAway 30 = .ok (.iconst 1, 1) := by decide +kernel
theorem dX12_takeAway_31 : decode cX12_takeAway 31 = .ok (.iadd, 1) := by decide +kernel
theorem dX12_takeAway_32 : decode cX12_takeAway 32 = .ok (.iaload, 1) := by decide +kernel
theorem dX12_takeAway_33 : decode cX12_takeAway 33 = .ok (.iastore, 1) := by decide +kernel
theorem dX12_takeAway_34 : decode cX12_takeAway 34 = .ok (.aload_n 0, 1) := by decide +kernel
theorem dX12_takeAway_35 : decode cX12_takeAway 35 = .ok (.getfield 57, 3) := by decide +kernel
theorem dX12_takeAway_38 : decode cX12_takeAway 38 = .ok (.iload_n 2, 1) := by decide +kernel
theorem dX12_takeAway_39 : decode cX12_takeAway 39 = .ok (.aload_n 0, 1) := by decide +kernel
theorem dX12_takeAway_40 : decode cX12_takeAway 40 = .ok (.getfield 57, 3) := by decide +kernel
theorem dX12_takeAway_43 : decode cX12_takeAway 43 = .ok (.iload_n 2, 1) := by decide +kernel
theorem dX12_takeAway_44 : decode cX12_takeAway 44 = .ok (.iconst 1, 1) := by decide +kernel
theorem dX12_takeAway_45 : decode cX12_takeAway 45 = .ok (.iadd, 1) := by decide +kernel
theorem dX12_takeAway_46 : decode cX12_takeAway 46 = .ok (.iaload, 1) := by decide +kernel
theorem dX12_takeAway_47 : decode cX12_takeAway 47 = .ok (.iastore, 1) := by decide +kernel
theorem dX12_takeAway_48 : decode cX12_takeAway 48 = .ok (.aload_n 0, 1) := by decide +kernel
theorem dX12_takeAway_49 : decode cX12_takeAway 49 = .ok (.getfield 60, 3) := by decide +kernel
theorem dX12_takeAway_52 : decode cX12_takeAway 52 = .ok (.iload_n 2, 1) := by decide +kernel
theorem dX12_takeAway_53 : decode cX12_takeAway 53 = .ok (.aload_n 0, 1) := by decide +kernel
theorem dX12_takeAway_54 : decode cX12_takeAway 54 = .ok (.getfield 60, 3) := by decide +kernel
theorem dX12_takeAway_57 : decode cX12_takeAway 57 = .ok (.iload_n 2, 1) := by decide +kernel
theorem dX12_takeAway_58 : decode cX12_takeAway 58 = .ok (.iconst 1, 1) := by decide +kernel
theorem dX12_takeAway_59 : decode cX12_takeAway 59 = .ok (.iadd, 1) := by decide +kernel
theorem dX12_takeAway_60 : decode cX12_takeAway 60 = .ok (.iaload, 1) := by decide +kernel
theorem dX12_takeAway_61 : decode cX12_takeAway 61 = .ok (.iastore, 1) := by decide +kernel
theorem dX12_takeAway_62 : decode cX12_takeAway 62 = .ok (.aload_n 0, 1) := by decide +kernel
theorem dX12_takeAway_63 : decode cX12_takeAway 63 = .ok (.getfield 63, 3) := by decide +kernel
theorem dX12_takeAway_66 : decode cX12_takeAway 66 = .ok (.iload_n 2, 1) := by decide +kernel
theorem dX12_takeAway_67 : decode cX12_takeAway 67 = .ok (.aload_n 0, 1) := by decide +kernel
theorem dX12_takeAway_68 : decode cX12_takeAway 68 = .ok (.getfield 63, 3) := by decide +kernel
theorem dX12_takeAway_71 : decode cX12_takeAway 71 = .ok (.iload_n 2, 1) := by decide +kernel
theorem dX12_takeAway_72 : decode cX12_takeAway 72 = .ok (.iconst 1, 1) := by decide +kernel
theorem dX12_takeAway_73 : decode cX12_takeAway 73 = .ok (.iadd, 1) := by decide +kernel
theorem dX12_takeAway_74 : decode cX12_takeAway 74 = .ok (.iaload, 1) := by decide +kernel
theorem dX12_takeAway_75 : decode cX12_takeAway 75 = .ok (.iastore, 1) := by decide +kernel
theorem dX12_takeAway_76 : decode cX12_takeAway 76 = .ok (.iinc 2 1, 3) := by decide +kernel
theorem dX12_takeAway_79 : decode cX12_takeAway 79 = .ok (.goto (-67), 3) := by decide +kernel
theorem dX12_takeAway_82 : decode cX12_takeAway 82 = .ok (.return_, 1) := by decide +kernel
theorem dX12_doDraw_0 : decode cX12_doDraw 0 = .ok (.aload_n 0, 1) := by decide +kernel
theorem dX12_doDraw_1 : decode cX12_doDraw 1 = .ok (.invokevirtual 449, 3) := by decide +kernel
theorem dX12_doDraw_4 : decode cX12_doDraw 4 = .ok (.iload_n 1, 1) := by decide +kernel
theorem dX12_doDraw_5 : decode cX12_doDraw 5 = .ok (.if_icmp .ge 10, 3) := by decide +kernel
theorem dX12_doDraw_8 : decode cX12_doDraw 8 = .ok (.aload_n 0, 1) := by decide +kernel
theorem dX12_doDraw_9 : decode cX12_doDraw 9 = .ok (.getfield 431, 3) := by decide +kernel
theorem dX12_doDraw_12 : decode cX12_doDraw 12 = .ok (.ifCond .ne 4, 3) := by decide +kernel
theorem dX12_doDraw_15 : decode cX12_doDraw 15 = .ok (.return_, 1) := by decide +kernel
theorem dX12_doDraw_16 : decode cX12_doDraw 16 = .ok (.aload_n 0, 1) := by decide +kernel
theorem dX12_doDraw_17 : decode cX12_doDraw 17 = .ok (.getfield 63, 3) := by decide +kernel
theorem dX12_doDraw_20 : decode cX12_doDraw 20 = .ok (.aload_n 0, 1) := by decide +kernel
theorem dX12_doDraw_21 : decode cX12_doDraw 21 = .ok (.getfield 431, 3) := by decide +kernel
theorem dX12_doDraw_24 : decode cX12_doDraw 24 = .ok (.iconst 1, 1) := by decide +kernel
theorem dX12_doDraw_25 : decode cX12_doDraw 25 = .ok (.isub, 1) := by decide +kernel
theorem dX12_doDraw_26 : decode cX12_doDraw 26 = .ok (.iaload, 1) := by decide +kernel
theorem dX12_doDraw_27 : decode cX12_doDraw 27 = .ok (.istore_n 2, 1) := by decide +kernel
theorem dX12_doDraw_28 : decode cX12_doDraw 28 = .ok (.aload_n 0, 1) := by decide +kernel
theorem dX12_doDraw_29 : decode cX12_doDraw 29 = .ok (.getfield 431, 3) := by decide +kernel
theorem dX12_doDraw_32 : decode cX12_doDraw 32 = .ok (.ifCond .le 41, 3) := by decide +kernel
theorem dX12_doDraw_35 : decode cX12_doDraw 35 = .ok (.aload_n 0, 1) := by decide +kernel
theorem dX12_doDraw_36 : decode cX12_doDraw 36 = .ok (.getfield 63, 3) := by decide +kernel
theorem dX12_doDraw_39 : decode cX12_doDraw 39 = .ok (.aload_n 0, 1) := by decide +kernel
theorem dX12_doDraw_40 : decode cX12_doDraw 40 = .ok (.getfield 431, 3) := by decide +kernel
theorem dX12_doDraw_43 : decode cX12_doDraw 43 = .ok (.iconst 1, 1) := by decide +kernel
theorem dX12_doDraw_44 : decode cX12_doDraw 44 = .ok (.isub, 1) := by decide +kernel
theorem dX12_doDraw_45 : decode cX12_doDraw 45 = .ok (.iaload, 1) := by decide +kernel
theorem dX12_doDraw_46 : decode cX12_doDraw 46 = .ok (.iload_n 2, 1) := by decide +kernel
theorem dX12_doDraw_47 : decode cX12_doDraw 47 = .ok (.if_icmp .ne 26, 3) := by decide +kernel
theorem dX12_doDraw_50 : decode cX12_doDraw 50 = .ok (.aload_n 0, 1) := by decide +kernel
theorem dX12_doDraw_51 : decode cX12_doDraw 51 = .ok (.dup, 1) := by decide +kernel
theorem dX12_doDraw_52 : decode cX12_doDraw 52 = .ok (.getfield 431, 3) := by decide +kernel
theorem dX12_doDraw_55 : decode cX12_doDraw 55 = .ok (.iconst 1, 1) := by decide +kernel
theorem dX12_doDraw_56 : decode cX12_doDraw 56 = .ok (.isub, 1) := by decide +kernel
theorem dX12_doDraw_57 : decode cX12_doDraw 57 = .ok (.putfield 431, 3) := by decide +kernel
theorem dX12_doDraw_60 : decode cX12_doDraw 60 = .ok (.aload_n 0, 1) := by decide +kernel
theorem dX12_doDraw_61 : decode cX12_doDraw 61 = .ok (.dup, 1) := by decide +kernel
theorem dX12_doDraw_62 : decode cX12_doDraw 62 = .ok (.getfield 452, 3) := by decide +kernel
theorem dX12_doDraw_65 : decode cX12_doDraw 65 = .ok (.iconst 1, 1) := by decide +kernel
theorem dX12_doDraw_66 : decode cX12_doDraw 66 = .ok (.iadd, 1) := by decide +kernel
theorem dX12_doDraw_67 : decode cX12_doDraw 67 = .ok (.putfield 452, 3) := by decide +kernel
theorem dX12_doDraw_70 : decode cX12_doDraw 70 = .ok (.goto (-42), 3) := by decide +kernel
theorem dX12_doDraw_73 : decode cX12_doDraw 73 = .ok (.return_, 1) := by decide +kernel
theorem dX12_doWait_0 : decode cX12_doWait 0 = .ok (.iconst 0, 1) := by decide +kernel
theorem dX12_doWait_1 : decode cX12_doWait 1 = .ok (.istore_n 2, 1) := by decide +kernel
theorem dX12_doWait_2 : decode cX12_doWait 2 = .ok (.iload_n 2, 1) := by decide +kernel
theorem dX12_doWait_3 : decode cX12_doWait 3 = .ok (.iload_n 1, 1) := by decide +kernel
theorem dX12_doWait_4 : decode cX12_doWait 4 = .ok (.if_icmp .ge 72, 3) := by decide +kernel
theorem dX12_doWait_7 : decode cX12_doWait 7 = .ok (.aload_n 0, 1) := by decide +kernel
theorem dX12_doWait_8 : decode cX12_doWait 8 = .ok (.dup, 1) := by decide +kernel
theorem dX12_doWait_9 : decode cX12_doWait 9 = .ok (.getfield 443, 3) := by decide +kernel
theorem dX12_doWait_12 : decode cX12_doWait 12 = .ok (.iconst 1, 1) := by decide +kernel
theorem dX12_doWait_13 : decode cX12_doWait 13 = .ok (.iadd, 1) := by decide +kernel
theorem dX12_doWait_14 : decode cX12_doWait 14 = .ok (.putfield 443, 3) := by decide +kernel
theorem dX12_doWait_17 : decode cX12_doWait 17 = .ok (.iconst 0, 1) := by decide +kernel
theorem dX12_doWait_18 : decode cX12_doWait 18 = .ok (.istore_n 3, 1) := by decide +kernel
theorem dX12_doWait_19 : decode cX12_doWait 19 = .ok (.iload_n 3, 1) := by decide +kernel
theorem dX12_doWait_20 : decode cX12_doWait 20 = .ok (.aload_n 0, 1) := by decide +kernel
theorem dX12_doWait_21 : decode cX12_doWait 21 = .ok (.getfield 431, 3) := by decide +kernel
theorem dX12_doWait_24 : decode cX12_doWait 24 = .ok (.if_icmp .ge 46, 3) := by decide +kernel
theorem dX12_doWait_27 : decode cX12_doWait 27 = .ok (.aload_n 0, 1) := by decide +kernel
theorem dX12_doWait_28 : decode cX12_doWait 28 = .ok (.getfield 60, 3) := by decide +kernel
theorem dX12_doWait_31 : decode cX12_doWait 31 = .ok (.iload_n 3, 1) := by decide +kernel
theorem dX12_doWait_32 : decode cX12_doWait 32 = .ok (.iaload, 1) := by decide +kernel
theorem dX12_doWait_33 : decode cX12_doWait 33 = .ok (.aload_n 0, 1) := by decide +kernel
theorem dX12_doWait_34 : decode cX12_doWait 34 = .ok (.getfield 443, 3) := by decide +kernel
theorem dX12_doWait_37 : decode cX12_doWait 37 = .ok (.if_icmp .le 9, 3) := by decide +kernel
theorem dX12_doWait_40 : decode cX12_doWait 40 = .ok (.iinc 3 1, 3) := by decide +kernel
theorem dX12_doWait_43 : decode cX12_doWait 43 = .ok (.goto (-24), 3) := by decide +kernel
theorem dX12_doWait_46 : decode cX12_doWait 46 = .ok (.aload_n 0, 1) := by decide +kernel
theorem dX12_doWait_47 : decode cX12_doWait 47 = .ok (.aload_n 0, 1) := by decide +kernel
theorem dX12_doWait_48 : decode cX12_doWait 48 = .ok (.getfield 54, 3) := by decide +kernel
theorem dX12_doWait_51 : decode cX12_doWait 51 = .ok (.iload_n 3, 1) := by decide +kernel
theorem dX12_doWait_52 : decode cX12_doWait 52 = .ok (.iaload, 1) := by decide +kernel
theorem dX12_doWait_53 : decode cX12_doWait 53 = .ok (.aload_n 0, 1) := by decide +kernel
theorem dX12_doWait_54 : decode cX12_doWait 54 = .ok (.getfield 57, 3) := by decide +kernel
theorem dX12_doWait_57 : decode cX12_doWait 57 = .ok (.iload_n 3, 1) := by decide +kernel
theorem dX12_doWait_58 : decode cX12_doWait 58 = .ok (.iaload, 1) := by decide +kernel
theorem dX12_doWait_59 : decode cX12_doWait 59 = .ok (.invokevirtual 440, 3) := by decide +kernel
theorem dX12_doWait_62 : decode cX12_doWait 62 = .ok (.aload_n 0, 1) := by decide +kernel
theorem dX12_doWait_63 : decode cX12_doWait 63 = .ok (.iload_n 3, 1) := by decide +kernel
theorem dX12_doWait_64 : decode cX12_doWait 64 = .ok (.invokevirtual 455, 3) := by decide +kernel
theorem dX12_doWait_67 : decode cX12_doWait 67 = .ok (.goto (-48), 3) := by decide +kernel
theorem dX12_doWait_70 : decode cX12_doWait 70 = .ok (.iinc 2 1, 3) := by decide +kernel
theorem dX12_doWait_73 : decode cX12_doWait 73 = .ok (.goto (-71), 3) := by decide +kernel
theorem dX12_doWait_76 : decode cX12_doWait 76 = .ok (.return_, 1) := by decide +kernel
theorem dX12_doAt_0 : decode cX12_doAt 0 = .ok (.aload_n 0, 1) := by decide +kernel
theorem dX12_doAt_1 : decode cX12_doAt 1 = .ok (.iload_n 2, 1) := by decide +kernel
theorem dX12_doAt_2 : decode cX12_doAt 2 = .ok (.invokevirtual 311, 3) := by decide +kernel
theorem dX12_doAt_5 : decode cX12_doAt 5 = .ok (.ifCond .eq 11, 3) := by decide +kernel
theorem dX12_doAt_8 : decode cX12_doAt 8 = .ok (.aload_n 0, 1) := by decide +kernel
theorem dX12_doAt_9 : decode cX12_doAt 9 = .ok (.iload_n 3, 1) := by decide +kernel
theorem dX12_doAt_10 : decode cX12_doAt 10 = .ok (.invokevirtual 403, 3) := by decide +kernel
theorem dX12_doAt_13 : decode cX12_doAt 13 = .ok (.ifCond .ne 14, 3) := by decide +kernel
theorem dX12_doAt_16 : decode cX12_doAt 16 = .ok (.aload_n 0, 1) := by decide +kernel
theorem dX12_doAt_17 : decode cX12_doAt 17 = .ok (.dup, 1) := by decide +kernel
theorem dX12_doAt_18 : decode cX12_doAt 18 = .ok (.getfield 434, 3) := by decide +kernel
theorem dX12_doAt_21 : decode cX12_doAt 21 = .ok (.iconst 1, 1) := by decide +kernel
theorem dX12_doAt_22 : decode cX12_doAt 22 = .ok (.iadd, 1) := by decide +kernel
theorem dX12_doAt_23 : decode cX12_doAt 23 = .ok (.putfield 434, 3) := by decide +kernel
theorem dX12_doAt_26 : decode cX12_doAt 26 = .ok (.return_, 1) := by decide +kernel
theorem dX12_doAt_27 : decode cX12_doAt 27 = .ok (.iload_n 1, 1) := by decide +kernel
theorem dX12_doAt_28 : decode cX12_doAt 28 = .ok (.iconst 2, 1) := by decide +kernel
theorem dX12_doAt_29 : decode cX12_doAt 29 = .ok (.if_icmp .ne 45, 3) := by decide +kernel
theorem dX12_doAt_32 : decode cX12_doAt 32 = .ok (.aload_n 0, 1) := by decide +kernel
theorem dX12_doAt_33 : decode cX12_doAt 33 = .ok (.getfield 35, 3) := by decide +kernel
theorem dX12_doAt_36 : decode cX12_doAt 36 = .ok (.bipush 114, 2) := by decide +kernel
theorem dX12_doAt_38 : decode cX12_doAt 38 = .ok (.iload_n 3, 1) := by decide +kernel
theorem dX12_doAt_39 : decode cX12_doAt 39 = .ok (.iadd, 1) := by decide +kernel
theorem dX12_doAt_40 : decode cX12_doAt 40 = .ok (.iaload, 1) := by decide +kernel
theorem dX12_doAt_41 : decode cX12_doAt 41 = .ok (.iload_n 2, 1) := by decide +kernel
theorem dX12_doAt_42 : decode cX12_doAt 42 = .ok (.invokestatic 302, 3) := by decide +kernel
theorem dX12_doAt_45 : decode cX12_doAt 45 = .ok (.ifCond .eq 28, 3) := by decide +kernel
theorem dX12_doAt_48 : decode cX12_doAt 48 = .ok (.aload_n 0, 1) := by decide +kernel
theorem dX12_doAt_49 : decode cX12_doAt 49 = .ok (.getfield 35, 3) := by decide +kernel
theorem dX12_doAt_52 : decode cX12_doAt 52 = .ok (.bipush 114, 2) := by decide +kernel
theorem dX12_doAt_54 : decode cX12_doAt 54 = .ok (.iload_n 3, 1) := by decide +kernel
theorem dX12_doAt_55 : decode cX12_doAt 55 = .ok (.iadd, 1) := by decide +kernel
theorem dX12_doAt_56 : decode cX12_doAt 56 = .ok (.dup2, 1) := by decide +kernel
theorem dX12_doAt_57 : decode cX12_doAt 57 = .ok (.iaload, 1) := by decide +kernel
theorem dX12_doAt_58 : decode cX12_doAt 58 = .ok (.iconst 1, 1) := by decide +kernel
theorem dX12_doAt_59 : decode cX12_doAt 59 = .ok (.iload_n 2, 1) := by decide +kernel
theorem dX12_doAt_60 : decode cX12_doAt 60 = .ok (.ishl, 1) := by decide +kernel
theorem dX12_doAt_61 : decode cX12_doAt 61 = .ok (.iconst (-1), 1) := by decide +kernel
theorem dX12_doAt_62 : decode cX12_doAt 62 = .ok (.ixor, 1) := by decide +kernel
theorem dX12_doAt_63 : decode cX12_doAt 63 = .ok (.aload_n 0, 1) := by decide +kernel
theorem dX12_doAt_64 : decode cX12_doAt 64 = .ok (.iload_n 2, 1) := by decide +kernel
theorem dX12_doAt_65 : decode cX12_doAt 65 = .ok (.invokevirtual 316, 3) := by decide +kernel
theorem dX12_doAt_68 : decode cX12_doAt 68 = .ok (.iconst (-1), 1) := by decide +kernel
theorem dX12_doAt_69 : decode cX12_doAt 69 = .ok (.ixor, 1) := by decide +kernel
theorem dX12_doAt_70 : decode cX12_doAt 70 = .ok (.iand, 1) := by decide +kernel
theorem dX12_doAt_71 : decode cX12_doAt 71 = .ok (.iand, 1) := by decide +kernel
theorem dX12_doAt_72 : decode cX12_doAt 72 = .ok (.iastore, 1) := by decide +kernel
theorem dX12_doAt_73 : decode cX12_doAt 73 = .ok (.return_, 1) := by decide +kernel
theorem dX12_doAt_74 : decode cX12_doAt 74 = .ok (.iload_n 1, 1) := by decide +kernel
theorem dX12_doAt_75 : decode cX12_doAt 75 = .ok (.ifCond .ne 28, 3) := by decide +kernel
theorem dX12_doAt_78 : decode cX12_doAt 78 = .ok (.aload_n 0, 1) := by decide +kernel
theorem dX12_doAt_79 : decode cX12_doAt 79 = .ok (.iconst 0, 1) := by decide +kernel
theorem dX12_doAt_80 : decode cX12_doAt 80 = .ok (.iload_n 2, 1) := by decide +kernel
theorem dX12_doAt_81 : decode cX12_doAt 81 = .ok (.invokevirtual 249, 3) := by decide +kernel
theorem dX12_doAt_84 : decode cX12_doAt 84 = .ok (.aload_n 0, 1) := by decide +kernel
theorem dX12_doAt_85 : decode cX12_doAt 85 = .ok (.getfield 35, 3) := by decide +kernel
theorem dX12_doAt_88 : decode cX12_doAt 88 = .ok (.bipush 114, 2) := by decide +kernel
theorem dX12_doAt_90 : decode cX12_doAt 90 = .ok (.iload_n 3, 1) := by decide +kernel
theorem dX12_doAt_91 : decode cX12_doAt 91 = .ok (.iadd, 1) := by decide +kernel
theorem dX12_doAt_92 : decode cX12_doAt 92 = .ok (.iaload, 1) := by decide +kernel
theorem dX12_doAt_93 : decode cX12_doAt 93 = .ok (.iconst (-1), 1) := by decide +kernel
theorem dX12_doAt_94 : decode cX12_doAt 94 = .ok (.ixor, 1) := by decide +kernel
theorem dX12_doAt_95 : decode cX12_doAt 95 = .ok (.iand, 1) := by decide +kernel
theorem dX12_doAt_96 : decode cX12_doAt 96 = .ok (.ifCond .ne 7, 3) := by decide +kernel
theorem dX12_doAt_99 : decode cX12_doAt 99 = .ok (.iconst 1, 1) := by decide +kernel
theorem dX12_doAt_100 : decode cX12_doAt 100 = .ok (.goto 4, 3) := by decide +kernel
theorem dX12_doAt_103 : decode cX12_doAt 103 = .ok (.iconst 0, 1) := by decide +kernel
theorem dX12_doAt_104 : decode cX12_doAt 104 = .ok (.istore 4, 2) := by decide +kernel
theorem dX12_doAt_106 : decode cX12_doAt 106 = .ok (.iconst 0, 1) := by decide +kernel
theorem dX12_doAt_107 : decode cX12_doAt 107 = .ok (.istore 5, 2) := by decide +kernel
theorem dX12_doAt_109 : decode cX12_doAt 109 = .ok (.iload 5, 2) := by decide +kernel
theorem dX12_doAt_111 : decode cX12_doAt 111 = .ok (.aload_n 0, 1) := by decide +kernel
theorem dX12_doAt_112 : decode cX12_doAt 112 = .ok (.getfield 35, 3) := by decide +kernel
theorem dX12_doAt_115 : decode cX12_doAt 115 = .ok (.iconst 1, 1) := by decide +kernel
theorem dX12_doAt_116 : decode cX12_doAt 116 = .ok (.iaload, 1) := by decide +kernel
theorem dX12_doAt_117 : decode cX12_doAt 117 = .ok (.if_icmp .ge 43, 3) := by decide +kernel
theorem dX12_doAt_120 : decode cX12_doAt 120 = .ok (.iload 4, 2) := by decide +kernel
theorem dX12_doAt_122 : decode cX12_doAt 122 = .ok (.ifCond .ne 25, 3) := by decide +kernel
theorem dX12_doAt_125 : decode cX12_doAt 125 = .ok (.iload_n 1, 1) := by decide +kernel
theorem dX12_doAt_126 : decode cX12_doAt 126 = .ok (.iconst 3, 1) := by decide +kernel
theorem dX12_doAt_127 : decode cX12_doAt 127 = .ok (.if_icmp .ne 24, 3) := by decide +kernel
theorem dX12_doAt_130 : decode cX12_doAt 130 = .ok (.aload_n 0, 1) := by decide +kernel
theorem dX12_doAt_131 : decode cX12_doAt 131 = .ok (.getfield 35, 3) := by decide +kernel
theorem dX12_doAt_134 : decode cX12_doAt 134 = .ok (.bipush 114, 2) := by decide +kernel
theorem dX12_doAt_136 : decode cX12_doAt 136 = .ok (.iload 5, 2) := by decide +kernel
theorem dX12_doAt_138 : decode cX12_doAt 138 = .ok (.iadd, 1) := by decide +kernel
theorem dX12_doAt_139 : decode cX12_doAt 139 = .ok (.iaload, 1) := by decide +kernel
theorem dX12_doAt_140 : decode cX12_doAt 140 = .ok (.iload_n 2, 1) := by decide +kernel
theorem dX12_doAt_141 : decode cX12_doAt 141 = .ok (.invokestatic 302, 3) := by decide +kernel
theorem dX12_doAt_144 : decode cX12_doAt 144 = .ok (.ifCond .eq 7, 3) := by decide +kernel
theorem dX12_doAt_147 : decode cX12_doAt 147 = .ok (.iconst 1, 1) := by decide +kernel
theorem dX12_doAt_148 : decode cX12_doAt 148 = .ok (.goto 4, 3) := by decide +kernel
theorem dX12_doAt_151 : decode cX12_doAt 151 = .ok (.iconst 0, 1) := by decide +kernel
theorem dX12_doAt_152 : decode cX12_doAt 152 = .ok (.istore 4, 2) := by decide +kernel
theorem dX12_doAt_154 : decode cX12_doAt 154 = .ok (.iinc 5 1, 3) := by decide +kernel
theorem dX12_doAt_157 : decode cX12_doAt 157 = .ok (.goto (-48), 3) := by decide +kernel
theorem dX12_doAt_160 : decode cX12_doAt 160 = .ok (.iload 4, 2) := by decide +kernel
theorem dX12_doAt_162 : decode cX12_doAt 162 = .ok (.ifCond .eq 28, 3) := by decide +kernel
theorem dX12_doAt_165 : decode cX12_doAt 165 = .ok (.aload_n 0, 1) := by decide +kernel
theorem dX12_doAt_166 : decode cX12_doAt 166 = .ok (.getfield 35, 3) := by decide +kernel
theorem dX12_doAt_169 : decode cX12_doAt 169 = .ok (.bipush 114, 2) := by decide +kernel
theorem dX12_doAt_171 : decode cX12_doAt 171 = .ok (.iload_n 3, 1) := by decide +kernel
theorem dX12_doAt_172 : decode cX12_doAt 172 = .ok (.iadd, 1) := by decide +kernel
theorem dX12_doAt_173 : decode cX12_doAt 173 = .ok (.dup2, 1) := by decide +kernel
theorem dX12_doAt_174 : decode cX12_doAt 174 = .ok (.iaload, 1) := by decide +kernel
theorem dX12_doAt_175 : decode cX12_doAt 175 = .ok (.iconst 1, 1) := by decide +kernel
theorem dX12_doAt_176 : decode cX12_doAt 176 = .ok (.iload_n 2, 1) := by decide +kernel
theorem dX12_doAt_177 : decode cX12_doAt 177 = .ok (.ishl, 1) := by decide +kernel
theorem dX12_doAt_178 : decode cX12_doAt 178 = .ok (.aload_n 0, 1) := by decide +kernel
theorem dX12_doAt_179 : decode cX12_doAt 179 = .ok (.iconst 0, 1) := by decide +kernel
theorem dX12_doAt_180 : decode cX12_doAt 180 = .ok (.iload_n 2, 1) := by decide +kernel
theorem dX12_doAt_181 : decode cX12_doAt 181 = .ok (.invokevirtual 249, 3) := by decide +kernel
theorem dX12_doAt_184 : decode cX12_doAt 184 = .ok (.ior, 1) := by decide +kernel
theorem dX12_doAt_185 : decode cX12_doAt 185 = .ok (.ior, 1) := by decide +kernel
theorem dX12_doAt_186 : decode cX12_doAt 186 = .ok (.iastore, 1) := by decide +kernel
theorem dX12_doAt_187 : decode cX12_doAt 187 = .ok (.goto 13, 3) := by decide +kernel
theorem dX12_doAt_190 : decode cX12_doAt 190 = .ok (.aload_n 0, 1) := by decide +kernel
theorem dX12_doAt_191 : decode cX12_doAt 191 = .ok (.dup, 1) := by decide +kernel
theorem dX12_doAt_192 : decode cX12_doAt 192 = .ok (.getfield 434, 3) := by decide +kernel
theorem dX12_doAt_195 : decode cX12_doAt 195 = .ok (.iconst 1, 1) := by decide +kernel
theorem dX12_doAt_196 : decode cX12_doAt 196 = .ok (.iadd, 1) := by decide +kernel
theorem dX12_doAt_197 : decode cX12_doAt 197 = .ok (.putfield 434, 3) := by decide +kernel
theorem dX12_doAt_200 : decode cX12_doAt 200 = .ok (.return_, 1) := by decide +kernel
theorem dX12_isSo_0 : decode cX12_isSo 0 = .ok (.aload_n 0, 1) := by decide +kernel
theorem dX12_isSo_1 : decode cX12_isSo 1 = .ok (.getfield 35, 3) := by decide +kernel
theorem dX12_isSo_4 : decode cX12_isSo 4 = .ok (.iload_n 1, 1) := by decide +kernel
theorem dX12_isSo_5 : decode cX12_isSo 5 = .ok (.iconst 5, 1) := by decide +kernel
theorem dX12_isSo_6 : decode cX12_isSo 6 = .ok (.iadd, 1) := by decide +kernel
theorem dX12_isSo_7 : decode cX12_isSo 7 = .ok (.iaload, 1) := by decide +kernel
theorem dX12_isSo_8 : decode cX12_isSo 8 = .ok (.istore_n 2, 1) := by decide +kernel
theorem dX12_isSo_9 : decode cX12_isSo 9 = .ok (.iload_n 2, 1) := by decide +kernel
theorem dX12_isSo_10 : decode cX12_isSo 10 = .ok (.iconst 2, 1) := by decide +kernel
theorem dX12_isSo_11 : decode cX12_isSo 11 = .ok (.if_icmp .ne 24, 3) := by decide +kernel
theorem dX12_isSo_14 : decode cX12_isSo 14 = .ok (.aload_n 0, 1) := by decide +kernel
theorem dX12_isSo_15 : decode cX12_isSo 15 = .ok (.getfield 443, 3) := by decide +kernel
theorem dX12_isSo_18 : decode cX12_isSo 18 = .ok (.aload_n 0, 1) := by decide +kernel
theorem dX12_isSo_19 : decode cX12_isSo 19 = .ok (.getfield 35, 3) := by decide +kernel
theorem dX12_isSo_22 : decode cX12_isSo 22 = .ok (.iload_n 1, 1) := by decide +kernel
theorem dX12_isSo_23 : decode cX12_isSo 23 = .ok (.iconst 1, 1) := by decide +kernel
theorem dX12_isSo_24 : decode cX12_isSo 24 = .ok (.iadd, 1) := by decide +kernel
theorem dX12_isSo_25 : decode cX12_isSo 25 = .ok (.iaload, 1) := by decide +kernel
theorem dX12_isSo_26 : decode cX12_isSo 26 = .ok (.if_icmp .lt 7, 3) := by decide +kernel
theorem dX12_isSo_29 : decode cX12_isSo 29 = .ok (.iconst 1, 1) := by decide +kernel
theorem dX12_isSo_30 : decode cX12_isSo 30 = .ok (.goto 4, 3) := by decide +kernel
theorem dX12_isSo_33 : decode cX12_isSo 33 = .ok (.iconst 0, 1) := by decide +kernel
theorem dX12_isSo_34 : decode cX12_isSo 34 = .ok (.ireturn, 1) := by decide +kernel
theorem dX12_isSo_35 : decode cX12_isSo 35 = .ok (.aload_n 0, 1) := by decide +kernel
theorem dX12_isSo_36 : decode cX12_isSo 36 = .ok (.aload_n 0, 1) := by decide +kernel
theorem dX12_isSo_37 : decode cX12_isSo 37 = .ok (.getfield 35, 3) := by decide +kernel
theorem dX12_isSo_40 : decode cX12_isSo 40 = .ok (.iload_n 1, 1) := by decide +kernel
theorem dX12_isSo_41 : decode cX12_isSo 41 = .ok (.iconst 1, 1) := by decide +kernel
theorem dX12_isSo_42 : decode cX12_isSo 42 = .ok (.iadd, 1) := by decide +kernel
theorem dX12_isSo_43 : decode cX12_isSo 43 = .ok (.iaload, 1) := by decide +kernel
theorem dX12_isSo_44 : decode cX12_isSo 44 = .ok (.invokevirtual 403, 3) := by decide +kernel
theorem dX12_isSo_47 : decode cX12_isSo 47 = .ok (.ifCond .ne 5, 3) := by decide +kernel
theorem dX12_isSo_50 : decode cX12_isSo 50 = .ok (.iconst 0, 1) := by decide +kernel
theorem dX12_isSo_51 : decode cX12_isSo 51 = .ok (.ireturn, 1) := by decide +kernel
theorem dX12_isSo_52 : decode cX12_isSo 52 = .ok (.iload_n 2, 1) := by decide +kernel
theorem dX12_isSo_53 : decode cX12_isSo 53 = .ok (.iconst 1, 1) := by decide +kernel
theorem dX12_isSo_54 : decode cX12_isSo 54 = .ok (.if_icmp .ne 24, 3) := by decide +kernel
theorem dX12_isSo_57 : decode cX12_isSo 57 = .ok (.aload_n 0, 1) := by decide +kernel
theorem dX12_isSo_58 : decode cX12_isSo 58 = .ok (.aload_n 0, 1) := by decide +kernel
theorem dX12_isSo_59 : decode cX12_isSo 59 = .ok (.getfield 35, 3) := by decide +kernel
theorem dX12_isSo_62 : decode cX12_isSo 62 = .ok (.bipush 114, 2) := by decide +kernel
theorem dX12_isSo_64 : decode cX12_isSo 64 = .ok (.aload_n 0, 1) := by decide +kernel
theorem dX12_isSo_65 : decode cX12_isSo 65 = .ok (.getfield 35, 3) := by decide +kernel
theorem dX12_isSo_68 : decode cX12_isSo 68 = .ok (.iload_n 1, 1) := by decide +kernel
theorem dX12_isSo_69 : decode cX12_isSo 69 = .ok (.iconst 1, 1) := by decide +kernel
theorem dX12_isSo_70 : decode cX12_isSo 70 = .ok (.iadd, 1) := by decide +kernel
theorem dX12_isSo_71 : decode cX12_isSo 71 = .ok (.iaload, 1) := by decide +kernel
theorem dX12_isSo_72 : decode cX12_isSo 72 = .ok (.iadd, 1) := by decide +kernel
theorem dX12_isSo_73 : decode cX12_isSo 73 = .ok (.iaload, 1) := by decide +kernel
theorem dX12_isSo_74 : decode cX12_isSo 74 = .ok (.invokevirtual 374, 3) := by decide +kernel
theorem dX12_isSo_77 : decode cX12_isSo 77 = .ok (.ireturn, 1) := by decide +kernel
theorem dX12_isSo_78 : decode cX12_isSo 78 = .ok (.aload_n 0, 1) := by decide +kernel
theorem dX12_isSo_79 : decode cX12_isSo 79 = .ok (.aload_n 0, 1) := by decide +kernel
theorem dX12_isSo_80 : decode cX12_isSo 80 = .ok (.getfield 35, 3) := by decide +kernel
theorem dX12_isSo_83 : decode cX12_isSo 83 = .ok (.iload_n 1, 1) := by decide +kernel
theorem dX12_isSo_84 : decode cX12_isSo 84 = .ok (.iconst 2, 1) := by decide +kernel
theorem dX12_isSo_85 : decode cX12_isSo 85 = .ok (.iadd, 1) := by decide +kernel
theorem dX12_isSo_86 : decode cX12_isSo 86 = .ok (.iaload, 1) := by decide +kernel
theorem dX12_isSo_87 : decode cX12_isSo 87 = .ok (.invokevirtual 311, 3) := by decide +kernel
theorem dX12_isSo_90 : decode cX12_isSo 90 = .ok (.ifCond .eq 37, 3) := by decide +kernel
theorem dX12_isSo_93 : decode cX12_isSo 93 = .ok (.aload_n 0, 1) := by decide +kernel
theorem dX12_isSo_94 : decode cX12_isSo 94 = .ok (.getfield 35, 3) := by decide +kernel
theorem dX12_isSo_97 : decode cX12_isSo 97 = .ok (.bipush 114, 2) := by decide +kernel
theorem dX12_isSo_99 : decode cX12_isSo 99 = .ok (.aload_n 0, 1) := by decide +kernel
theorem dX12_isSo_100 : decode cX12_isSo 100 = .ok (.getfield 35, 3) := by decide +kernel
theorem dX12_isSo_103 : decode cX12_isSo 103 = .ok (.iload_n 1, 1) := by decide +kernel
theorem dX12_isSo_104 : decode cX12_isSo 104 = .ok (.iconst 1, 1) := by decide +kernel
theorem dX12_isSo_105 : decode cX12_isSo 105 = .ok (.iadd, 1) := by decide +kernel
theorem dX12_isSo_106 : decode cX12_isSo 106 = .ok (.iaload, 1) := by decide +kernel
theorem dX12_isSo_107 : decode cX12_isSo 107 = .ok (.iadd, 1) := by decide +kernel
theorem dX12_isSo_108 : decode cX12_isSo 108 = .ok (.iaload, 1) := by decide +kernel
theorem dX12_isSo_109 : decode cX12_isSo 109 = .ok (.aload_n 0, 1) := by decide +kernel
theorem dX12_isSo_110 : decode cX12_isSo 110 = .ok (.getfield 35, 3) := by decide +kernel
theorem dX12_isSo_113 : decode cX12_isSo 113 = .ok (.iload_n 1, 1) := by decide +kernel
theorem dX12_isSo_114 : decode cX12_isSo 114 = .ok (.iconst 2, 1) := by decide +kernel
theorem dX12_isSo_115 : decode cX12_isSo 115 = .ok (.iadd, 1) := by decide +kernel
theorem dX12_isSo_116 : decode cX12_isSo 116 = .ok (.iaload, 1) := by decide +kernel
theorem dX12_isSo_117 : decode cX12_isSo 117 = .ok (.invokestatic 302, 3) := by decide +kernel
theorem dX12_isSo_120 : decode cX12_isSo 120 = .ok (.ifCond .eq 7, 3) := by decide +kernel
theorem dX12_isSo_123 : decode cX12_isSo 123 = .ok (.iconst 1, 1) := by decide +kernel
theorem dX12_isSo_124 : decode cX12_isSo 124 = .ok (.goto 4, 3) := by decide +kernel
theorem dX12_isSo_127 : decode cX12_isSo 127 = .ok (.iconst 0, 1) := by decide +kernel
