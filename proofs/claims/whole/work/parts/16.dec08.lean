theorem dX12_isSo_128 : decode cX12_isSo 128 = .ok (.ireturn, 1) := by decide +kernel
theorem dX12_doOne_0 : decode cX12_doOne 0 = .ok (.aload_n 0, 1) := by decide +kernel
theorem dX12_doOne_1 : decode cX12_doOne 1 = .ok (.getfield 458, 3) := by decide +kernel
theorem dX12_doOne_4 : decode cX12_doOne 4 = .ok (.sipush 300, 3) := by decide +kernel
theorem dX12_doOne_7 : decode cX12_doOne 7 = .ok (.if_icmp .ne 9, 3) := by decide +kernel
theorem dX12_doOne_10 : decode cX12_doOne 10 = .ok (.aload_n 0, 1) := by decide +kernel
theorem dX12_doOne_11 : decode cX12_doOne 11 = .ok (.iconst 1, 1) := by decide +kernel
theorem dX12_doOne_12 : decode cX12_doOne 12 = .ok (.putfield 461, 3) := by decide +kernel
theorem dX12_doOne_15 : decode cX12_doOne 15 = .ok (.return_, 1) := by decide +kernel
theorem dX12_doOne_16 : decode cX12_doOne 16 = .ok (.aload_n 0, 1) := by decide +kernel
theorem dX12_doOne_17 : decode cX12_doOne 17 = .ok (.dup, 1) := by decide +kernel
theorem dX12_doOne_18 : decode cX12_doOne 18 = .ok (.getfield 458, 3) := by decide +kernel
theorem dX12_doOne_21 : decode cX12_doOne 21 = .ok (.iconst 1, 1) := by decide +kernel
theorem dX12_doOne_22 : decode cX12_doOne 22 = .ok (.iadd, 1) := by decide +kernel
theorem dX12_doOne_23 : decode cX12_doOne 23 = .ok (.putfield 458, 3) := by decide +kernel
theorem dX12_doOne_26 : decode cX12_doOne 26 = .ok (.sipush 137, 3) := by decide +kernel
theorem dX12_doOne_29 : decode cX12_doOne 29 = .ok (.bipush 7, 2) := by decide +kernel
theorem dX12_doOne_31 : decode cX12_doOne 31 = .ok (.iload_n 1, 1) := by decide +kernel
theorem dX12_doOne_32 : decode cX12_doOne 32 = .ok (.imul, 1) := by decide +kernel
theorem dX12_doOne_33 : decode cX12_doOne 33 = .ok (.iadd, 1) := by decide +kernel
theorem dX12_doOne_34 : decode cX12_doOne 34 = .ok (.istore_n 2, 1) := by decide +kernel
theorem dX12_doOne_35 : decode cX12_doOne 35 = .ok (.aload_n 0, 1) := by decide +kernel
theorem dX12_doOne_36 : decode cX12_doOne 36 = .ok (.getfield 35, 3) := by decide +kernel
theorem dX12_doOne_39 : decode cX12_doOne 39 = .ok (.iload_n 2, 1) := by decide +kernel
theorem dX12_doOne_40 : decode cX12_doOne 40 = .ok (.iaload, 1) := by decide +kernel
theorem dX12_doOne_41 : decode cX12_doOne 41 = .ok (.istore_n 3, 1) := by decide +kernel
theorem dX12_doOne_42 : decode cX12_doOne 42 = .ok (.iload_n 3, 1) := by decide +kernel
theorem dX12_doOne_43 : decode cX12_doOne 43 = .ok (.ifCond .eq 13, 3) := by decide +kernel
theorem dX12_doOne_46 : decode cX12_doOne 46 = .ok (.iload_n 3, 1) := by decide +kernel
theorem dX12_doOne_47 : decode cX12_doOne 47 = .ok (.iconst 2, 1) := by decide +kernel
theorem dX12_doOne_48 : decode cX12_doOne 48 = .ok (.if_icmp .eq 8, 3) := by decide +kernel
theorem dX12_doOne_51 : decode cX12_doOne 51 = .ok (.iload_n 3, 1) := by decide +kernel
theorem dX12_doOne_52 : decode cX12_doOne 52 = .ok (.iconst 3, 1) := by decide +kernel
theorem dX12_doOne_53 : decode cX12_doOne 53 = .ok (.if_icmp .ne 27, 3) := by decide +kernel
theorem dX12_doOne_56 : decode cX12_doOne 56 = .ok (.aload_n 0, 1) := by decide +kernel
theorem dX12_doOne_57 : decode cX12_doOne 57 = .ok (.iload_n 3, 1) := by decide +kernel
theorem dX12_doOne_58 : decode cX12_doOne 58 = .ok (.aload_n 0, 1) := by decide +kernel
theorem dX12_doOne_59 : decode cX12_doOne 59 = .ok (.getfield 35, 3) := by decide +kernel
theorem dX12_doOne_62 : decode cX12_doOne 62 = .ok (.iload_n 2, 1) := by decide +kernel
theorem dX12_doOne_63 : decode cX12_doOne 63 = .ok (.iconst 1, 1) := by decide +kernel
theorem dX12_doOne_64 : decode cX12_doOne 64 = .ok (.iadd, 1) := by decide +kernel
theorem dX12_doOne_65 : decode cX12_doOne 65 = .ok (.iaload, 1) := by decide +kernel
theorem dX12_doOne_66 : decode cX12_doOne 66 = .ok (.aload_n 0, 1) := by decide +kernel
theorem dX12_doOne_67 : decode cX12_doOne 67 = .ok (.getfield 35, 3) := by decide +kernel
theorem dX12_doOne_70 : decode cX12_doOne 70 = .ok (.iload_n 2, 1) := by decide +kernel
theorem dX12_doOne_71 : decode cX12_doOne 71 = .ok (.iconst 2, 1) := by decide +kernel
theorem dX12_doOne_72 : decode cX12_doOne 72 = .ok (.iadd, 1) := by decide +kernel
theorem dX12_doOne_73 : decode cX12_doOne 73 = .ok (.iaload, 1) := by decide +kernel
theorem dX12_doOne_74 : decode cX12_doOne 74 = .ok (.invokevirtual 465, 3) := by decide +kernel
theorem dX12_doOne_77 : decode cX12_doOne 77 = .ok (.goto 154, 3) := by decide +kernel
theorem dX12_doOne_80 : decode cX12_doOne 80 = .ok (.iload_n 3, 1) := by decide +kernel
theorem dX12_doOne_81 : decode cX12_doOne 81 = .ok (.iconst 1, 1) := by decide +kernel
theorem dX12_doOne_82 : decode cX12_doOne 82 = .ok (.if_icmp .ne 11, 3) := by decide +kernel
theorem dX12_doOne_85 : decode cX12_doOne 85 = .ok (.aload_n 0, 1) := by decide +kernel
theorem dX12_doOne_86 : decode cX12_doOne 86 = .ok (.iload_n 2, 1) := by decide +kernel
theorem dX12_doOne_87 : decode cX12_doOne 87 = .ok (.invokevirtual 468, 3) := by decide +kernel
theorem dX12_doOne_90 : decode cX12_doOne 90 = .ok (.goto 141, 3) := by decide +kernel
theorem dX12_doOne_93 : decode cX12_doOne 93 = .ok (.iload_n 3, 1) := by decide +kernel
theorem dX12_doOne_94 : decode cX12_doOne 94 = .ok (.iconst 4, 1) := by decide +kernel
theorem dX12_doOne_95 : decode cX12_doOne 95 = .ok (.if_icmp .ne 18, 3) := by decide +kernel
theorem dX12_doOne_98 : decode cX12_doOne 98 = .ok (.aload_n 0, 1) := by decide +kernel
theorem dX12_doOne_99 : decode cX12_doOne 99 = .ok (.aload_n 0, 1) := by decide +kernel
theorem dX12_doOne_100 : decode cX12_doOne 100 = .ok (.getfield 35, 3) := by decide +kernel
theorem dX12_doOne_103 : decode cX12_doOne 103 = .ok (.iload_n 2, 1) := by decide +kernel
theorem dX12_doOne_104 : decode cX12_doOne 104 = .ok (.iconst 1, 1) := by decide +kernel
theorem dX12_doOne_105 : decode cX12_doOne 105 = .ok (.iadd, 1) := by decide +kernel
theorem dX12_doOne_106 : decode cX12_doOne 106 = .ok (.iaload, 1) := by decide +kernel
theorem dX12_doOne_107 : decode cX12_doOne 107 = .ok (.invokevirtual 471, 3) := by decide +kernel
theorem dX12_doOne_110 : decode cX12_doOne 110 = .ok (.goto 121, 3) := by decide +kernel
theorem dX12_doOne_113 : decode cX12_doOne 113 = .ok (.iload_n 3, 1) := by decide +kernel
theorem dX12_doOne_114 : decode cX12_doOne 114 = .ok (.iconst 5, 1) := by decide +kernel
theorem dX12_doOne_115 : decode cX12_doOne 115 = .ok (.if_icmp .ne 18, 3) := by decide +kernel
theorem dX12_doOne_118 : decode cX12_doOne 118 = .ok (.aload_n 0, 1) := by decide +kernel
theorem dX12_doOne_119 : decode cX12_doOne 119 = .ok (.aload_n 0, 1) := by decide +kernel
theorem dX12_doOne_120 : decode cX12_doOne 120 = .ok (.getfield 35, 3) := by decide +kernel
theorem dX12_doOne_123 : decode cX12_doOne 123 = .ok (.iload_n 2, 1) := by decide +kernel
theorem dX12_doOne_124 : decode cX12_doOne 124 = .ok (.iconst 1, 1) := by decide +kernel
theorem dX12_doOne_125 : decode cX12_doOne 125 = .ok (.iadd, 1) := by decide +kernel
theorem dX12_doOne_126 : decode cX12_doOne 126 = .ok (.iaload, 1) := by decide +kernel
theorem dX12_doOne_127 : decode cX12_doOne 127 = .ok (.invokevirtual 474, 3) := by decide +kernel
theorem dX12_doOne_130 : decode cX12_doOne 130 = .ok (.goto 101, 3) := by decide +kernel
theorem dX12_doOne_133 : decode cX12_doOne 133 = .ok (.iload_n 3, 1) := by decide +kernel
theorem dX12_doOne_134 : decode cX12_doOne 134 = .ok (.bipush 6, 2) := by decide +kernel
theorem dX12_doOne_136 : decode cX12_doOne 136 = .ok (.if_icmp .ne 30, 3) := by decide +kernel
theorem dX12_doOne_139 : decode cX12_doOne 139 = .ok (.aload_n 0, 1) := by decide +kernel
theorem dX12_doOne_140 : decode cX12_doOne 140 = .ok (.iload_n 2, 1) := by decide +kernel
theorem dX12_doOne_141 : decode cX12_doOne 141 = .ok (.invokevirtual 477, 3) := by decide +kernel
theorem dX12_doOne_144 : decode cX12_doOne 144 = .ok (.ifCond .eq 22, 3) := by decide +kernel
theorem dX12_doOne_147 : decode cX12_doOne 147 = .ok (.aload_n 0, 1) := by decide +kernel
theorem dX12_doOne_148 : decode cX12_doOne 148 = .ok (.iload_n 1, 1) := by decide +kernel
theorem dX12_doOne_149 : decode cX12_doOne 149 = .ok (.iconst 1, 1) := by decide +kernel
theorem dX12_doOne_150 : decode cX12_doOne 150 = .ok (.iadd, 1) := by decide +kernel
theorem dX12_doOne_151 : decode cX12_doOne 151 = .ok (.aload_n 0, 1) := by decide +kernel
theorem dX12_doOne_152 : decode cX12_doOne 152 = .ok (.getfield 35, 3) := by decide +kernel
theorem dX12_doOne_155 : decode cX12_doOne 155 = .ok (.iload_n 2, 1) := by decide +kernel
theorem dX12_doOne_156 : decode cX12_doOne 156 = .ok (.bipush 6, 2) := by decide +kernel
theorem dX12_doOne_158 : decode cX12_doOne 158 = .ok (.iadd, 1) := by decide +kernel
theorem dX12_doOne_159 : decode cX12_doOne 159 = .ok (.iaload, 1) := by decide +kernel
theorem dX12_doOne_160 : decode cX12_doOne 160 = .ok (.invokevirtual 480, 3) := by decide +kernel
theorem dX12_doOne_163 : decode cX12_doOne 163 = .ok (.goto 68, 3) := by decide +kernel
theorem dX12_doOne_166 : decode cX12_doOne 166 = .ok (.iload_n 3, 1) := by decide +kernel
theorem dX12_doOne_167 : decode cX12_doOne 167 = .ok (.bipush 7, 2) := by decide +kernel
theorem dX12_doOne_169 : decode cX12_doOne 169 = .ok (.if_icmp .ne 51, 3) := by decide +kernel
theorem dX12_doOne_172 : decode cX12_doOne 172 = .ok (.iconst 0, 1) := by decide +kernel
theorem dX12_doOne_173 : decode cX12_doOne 173 = .ok (.istore 4, 2) := by decide +kernel
theorem dX12_doOne_175 : decode cX12_doOne 175 = .ok (.iload 4, 2) := by decide +kernel
theorem dX12_doOne_177 : decode cX12_doOne 177 = .ok (.aload_n 0, 1) := by decide +kernel
theorem dX12_doOne_178 : decode cX12_doOne 178 = .ok (.getfield 35, 3) := by decide +kernel
theorem dX12_doOne_181 : decode cX12_doOne 181 = .ok (.iload_n 2, 1) := by decide +kernel
theorem dX12_doOne_182 : decode cX12_doOne 182 = .ok (.iconst 1, 1) := by decide +kernel
theorem dX12_doOne_183 : decode cX12_doOne 183 = .ok (.iadd, 1) := by decide +kernel
theorem dX12_doOne_184 : decode cX12_doOne 184 = .ok (.iaload, 1) := by decide +kernel
theorem dX12_doOne_185 : decode cX12_doOne 185 = .ok (.if_icmp .ge 32, 3) := by decide +kernel
theorem dX12_doOne_188 : decode cX12_doOne 188 = .ok (.aload_n 0, 1) := by decide +kernel
theorem dX12_doOne_189 : decode cX12_doOne 189 = .ok (.getfield 461, 3) := by decide +kernel
theorem dX12_doOne_192 : decode cX12_doOne 192 = .ok (.ifCond .ne 25, 3) := by decide +kernel
theorem dX12_doOne_195 : decode cX12_doOne 195 = .ok (.aload_n 0, 1) := by decide +kernel
theorem dX12_doOne_196 : decode cX12_doOne 196 = .ok (.iload_n 1, 1) := by decide +kernel
theorem dX12_doOne_197 : decode cX12_doOne 197 = .ok (.iconst 1, 1) := by decide +kernel
theorem dX12_doOne_198 : decode cX12_doOne 198 = .ok (.iadd, 1) := by decide +kernel
theorem dX12_doOne_199 : decode cX12_doOne 199 = .ok (.aload_n 0, 1) := by decide +kernel
theorem dX12_doOne_200 : decode cX12_doOne 200 = .ok (.getfield 35, 3) := by decide +kernel
theorem dX12_doOne_203 : decode cX12_doOne 203 = .ok (.iload_n 2, 1) := by decide +kernel
theorem dX12_doOne_204 : decode cX12_doOne 204 = .ok (.bipush 6, 2) := by decide +kernel
theorem dX12_doOne_206 : decode cX12_doOne 206 = .ok (.iadd, 1) := by decide +kernel
theorem dX12_doOne_207 : decode cX12_doOne 207 = .ok (.iaload, 1) := by decide +kernel
theorem dX12_doOne_208 : decode cX12_doOne 208 = .ok (.invokevirtual 480, 3) := by decide +kernel
theorem dX12_doOne_211 : decode cX12_doOne 211 = .ok (.iinc 4 1, 3) := by decide +kernel
theorem dX12_doOne_214 : decode cX12_doOne 214 = .ok (.goto (-39), 3) := by decide +kernel
theorem dX12_doOne_217 : decode cX12_doOne 217 = .ok (.goto 14, 3) := by decide +kernel
theorem dX12_doOne_220 : decode cX12_doOne 220 = .ok (.iload_n 3, 1) := by decide +kernel
theorem dX12_doOne_221 : decode cX12_doOne 221 = .ok (.bipush 7, 2) := by decide +kernel
theorem dX12_doOne_223 : decode cX12_doOne 223 = .ok (.if_icmp .le 8, 3) := by decide +kernel
theorem dX12_doOne_226 : decode cX12_doOne 226 = .ok (.aload_n 0, 1) := by decide +kernel
theorem dX12_doOne_227 : decode cX12_doOne 227 = .ok (.iconst 1, 1) := by decide +kernel
theorem dX12_doOne_228 : decode cX12_doOne 228 = .ok (.putfield 461, 3) := by decide +kernel
theorem dX12_doOne_231 : decode cX12_doOne 231 = .ok (.return_, 1) := by decide +kernel
theorem dX12_doAll_0 : decode cX12_doAll 0 = .ok (.iload_n 1, 1) := by decide +kernel
theorem dX12_doAll_1 : decode cX12_doAll 1 = .ok (.istore_n 3, 1) := by decide +kernel
theorem dX12_doAll_2 : decode cX12_doAll 2 = .ok (.iload_n 3, 1) := by decide +kernel
theorem dX12_doAll_3 : decode cX12_doAll 3 = .ok (.iload_n 2, 1) := by decide +kernel
theorem dX12_doAll_4 : decode cX12_doAll 4 = .ok (.if_icmp .ge 35, 3) := by decide +kernel
theorem dX12_doAll_7 : decode cX12_doAll 7 = .ok (.aload_n 0, 1) := by decide +kernel
theorem dX12_doAll_8 : decode cX12_doAll 8 = .ok (.getfield 461, 3) := by decide +kernel
theorem dX12_doAll_11 : decode cX12_doAll 11 = .ok (.ifCond .ne 28, 3) := by decide +kernel
theorem dX12_doAll_14 : decode cX12_doAll 14 = .ok (.aload_n 0, 1) := by decide +kernel
theorem dX12_doAll_15 : decode cX12_doAll 15 = .ok (.iload_n 3, 1) := by decide +kernel
theorem dX12_doAll_16 : decode cX12_doAll 16 = .ok (.invokevirtual 483, 3) := by decide +kernel
theorem dX12_doAll_19 : decode cX12_doAll 19 = .ok (.aload_n 0, 1) := by decide +kernel
theorem dX12_doAll_20 : decode cX12_doAll 20 = .ok (.getfield 35, 3) := by decide +kernel
theorem dX12_doAll_23 : decode cX12_doAll 23 = .ok (.sipush 137, 3) := by decide +kernel
theorem dX12_doAll_26 : decode cX12_doAll 26 = .ok (.bipush 7, 2) := by decide +kernel
theorem dX12_doAll_28 : decode cX12_doAll 28 = .ok (.iload_n 3, 1) := by decide +kernel
theorem dX12_doAll_29 : decode cX12_doAll 29 = .ok (.imul, 1) := by decide +kernel
theorem dX12_doAll_30 : decode cX12_doAll 30 = .ok (.iadd, 1) := by decide +kernel
theorem dX12_doAll_31 : decode cX12_doAll 31 = .ok (.bipush 6, 2) := by decide +kernel
theorem dX12_doAll_33 : decode cX12_doAll 33 = .ok (.iadd, 1) := by decide +kernel
theorem dX12_doAll_34 : decode cX12_doAll 34 = .ok (.iaload, 1) := by decide +kernel
theorem dX12_doAll_35 : decode cX12_doAll 35 = .ok (.istore_n 3, 1) := by decide +kernel
theorem dX12_doAll_36 : decode cX12_doAll 36 = .ok (.goto (-34), 3) := by decide +kernel
theorem dX12_doAll_39 : decode cX12_doAll 39 = .ok (.return_, 1) := by decide +kernel
theorem dX12_run_0 : decode cX12_run 0 = .ok (.aload_n 0, 1) := by decide +kernel
theorem dX12_run_1 : decode cX12_run 1 = .ok (.iload_n 1, 1) := by decide +kernel
theorem dX12_run_2 : decode cX12_run 2 = .ok (.putfield 425, 3) := by decide +kernel
theorem dX12_run_5 : decode cX12_run 5 = .ok (.aload_n 0, 1) := by decide +kernel
theorem dX12_run_6 : decode cX12_run 6 = .ok (.iconst 0, 1) := by decide +kernel
theorem dX12_run_7 : decode cX12_run 7 = .ok (.putfield 458, 3) := by decide +kernel
theorem dX12_run_10 : decode cX12_run 10 = .ok (.aload_n 0, 1) := by decide +kernel
theorem dX12_run_11 : decode cX12_run 11 = .ok (.iconst 0, 1) := by decide +kernel
theorem dX12_run_12 : decode cX12_run 12 = .ok (.putfield 443, 3) := by decide +kernel
theorem dX12_run_15 : decode cX12_run 15 = .ok (.aload_n 0, 1) := by decide +kernel
theorem dX12_run_16 : decode cX12_run 16 = .ok (.iconst 0, 1) := by decide +kernel
theorem dX12_run_17 : decode cX12_run 17 = .ok (.putfield 434, 3) := by decide +kernel
theorem dX12_run_20 : decode cX12_run 20 = .ok (.aload_n 0, 1) := by decide +kernel
theorem dX12_run_21 : decode cX12_run 21 = .ok (.iconst 0, 1) := by decide +kernel
theorem dX12_run_22 : decode cX12_run 22 = .ok (.putfield 428, 3) := by decide +kernel
theorem dX12_run_25 : decode cX12_run 25 = .ok (.aload_n 0, 1) := by decide +kernel
theorem dX12_run_26 : decode cX12_run 26 = .ok (.iconst 0, 1) := by decide +kernel
theorem dX12_run_27 : decode cX12_run 27 = .ok (.putfield 452, 3) := by decide +kernel
theorem dX12_run_30 : decode cX12_run 30 = .ok (.aload_n 0, 1) := by decide +kernel
theorem dX12_run_31 : decode cX12_run 31 = .ok (.iconst 0, 1) := by decide +kernel
theorem dX12_run_32 : decode cX12_run 32 = .ok (.putfield 437, 3) := by decide +kernel
theorem dX12_run_35 : decode cX12_run 35 = .ok (.aload_n 0, 1) := by decide +kernel
theorem dX12_run_36 : decode cX12_run 36 = .ok (.iconst 0, 1) := by decide +kernel
theorem dX12_run_37 : decode cX12_run 37 = .ok (.putfield 431, 3) := by decide +kernel
theorem dX12_run_40 : decode cX12_run 40 = .ok (.aload_n 0, 1) := by decide +kernel
theorem dX12_run_41 : decode cX12_run 41 = .ok (.iconst 0, 1) := by decide +kernel
theorem dX12_run_42 : decode cX12_run 42 = .ok (.putfield 461, 3) := by decide +kernel
theorem dX12_run_45 : decode cX12_run 45 = .ok (.aload_n 0, 1) := by decide +kernel
theorem dX12_run_46 : decode cX12_run 46 = .ok (.iconst 0, 1) := by decide +kernel
theorem dX12_run_47 : decode cX12_run 47 = .ok (.aload_n 0, 1) := by decide +kernel
theorem dX12_run_48 : decode cX12_run 48 = .ok (.getfield 35, 3) := by decide +kernel
theorem dX12_run_51 : decode cX12_run 51 = .ok (.sipush 136, 3) := by decide +kernel
theorem dX12_run_54 : decode cX12_run 54 = .ok (.iaload, 1) := by decide +kernel
theorem dX12_run_55 : decode cX12_run 55 = .ok (.invokevirtual 480, 3) := by decide +kernel
theorem dX12_run_58 : decode cX12_run 58 = .ok (.return_, 1) := by decide +kernel
theorem dX12_sail_0 : decode cX12_sail 0 = .ok (.aload_n 0, 1) := by decide +kernel
theorem dX12_sail_1 : decode cX12_sail 1 = .ok (.iconst 0, 1) := by decide +kernel
theorem dX12_sail_2 : decode cX12_sail 2 = .ok (.putfield 75, 3) := by decide +kernel
theorem dX12_sail_5 : decode cX12_sail 5 = .ok (.aload_n 0, 1) := by decide +kernel
theorem dX12_sail_6 : decode cX12_sail 6 = .ok (.iconst 0, 1) := by decide +kernel
theorem dX12_sail_7 : decode cX12_sail 7 = .ok (.putfield 78, 3) := by decide +kernel
theorem dX12_sail_10 : decode cX12_sail 10 = .ok (.iload_n 1, 1) := by decide +kernel
theorem dX12_sail_11 : decode cX12_sail 11 = .ok (.i2l, 1) := by decide +kernel
theorem dX12_sail_12 : decode cX12_sail 12 = .ok (.lconst 0, 1) := by decide +kernel
theorem dX12_sail_13 : decode cX12_sail 13 = .ok (.ldc2_w 486, 3) := by decide +kernel
theorem dX12_sail_16 : decode cX12_sail 16 = .ok (.invokestatic 110, 3) := by decide +kernel
theorem dX12_sail_19 : decode cX12_sail 19 = .ok (.ifCond .ne 9, 3) := by decide +kernel
theorem dX12_sail_22 : decode cX12_sail 22 = .ok (.aload_n 0, 1) := by decide +kernel
theorem dX12_sail_23 : decode cX12_sail 23 = .ok (.iconst 5, 1) := by decide +kernel
theorem dX12_sail_24 : decode cX12_sail 24 = .ok (.invokevirtual 299, 3) := by decide +kernel
theorem dX12_sail_27 : decode cX12_sail 27 = .ok (.ireturn, 1) := by decide +kernel
theorem dX12_sail_28 : decode cX12_sail 28 = .ok (.aload_n 0, 1) := by decide +kernel
theorem dX12_sail_29 : decode cX12_sail 29 = .ok (.getfield 35, 3) := by decide +kernel
theorem dX12_sail_32 : decode cX12_sail 32 = .ok (.sipush 135, 3) := by decide +kernel
theorem dX12_sail_35 : decode cX12_sail 35 = .ok (.iaload, 1) := by decide +kernel
theorem dX12_sail_36 : decode cX12_sail 36 = .ok (.ifCond .ne 10, 3) := by decide +kernel
theorem dX12_sail_39 : decode cX12_sail 39 = .ok (.aload_n 0, 1) := by decide +kernel
theorem dX12_sail_40 : decode cX12_sail 40 = .ok (.bipush 8, 2) := by decide +kernel
theorem dX12_sail_42 : decode cX12_sail 42 = .ok (.invokevirtual 299, 3) := by decide +kernel
theorem dX12_sail_45 : decode cX12_sail 45 = .ok (.ireturn, 1) := by decide +kernel
theorem dX12_sail_46 : decode cX12_sail 46 = .ok (.aload_n 0, 1) := by decide +kernel
theorem dX12_sail_47 : decode cX12_sail 47 = .ok (.iload_n 1, 1) := by decide +kernel
theorem dX12_sail_48 : decode cX12_sail 48 = .ok (.invokevirtual 488, 3) := by decide +kernel
theorem dX12_sail_51 : decode cX12_sail 51 = .ok (.aload_n 0, 1) := by decide +kernel
theorem dX12_sail_52 : decode cX12_sail 52 = .ok (.getfield 66, 3) := by decide +kernel
theorem dX12_sail_55 : decode cX12_sail 55 = .ok (.iconst 0, 1) := by decide +kernel
theorem dX12_sail_56 : decode cX12_sail 56 = .ok (.aload_n 0, 1) := by decide +kernel
theorem dX12_sail_57 : decode cX12_sail 57 = .ok (.getfield 443, 3) := by decide +kernel
theorem dX12_sail_60 : decode cX12_sail 60 = .ok (.iastore, 1) := by decide +kernel
theorem dX12_sail_61 : decode cX12_sail 61 = .ok (.aload_n 0, 1) := by decide +kernel
theorem dX12_sail_62 : decode cX12_sail 62 = .ok (.getfield 66, 3) := by decide +kernel
theorem dX12_sail_65 : decode cX12_sail 65 = .ok (.iconst 1, 1) := by decide +kernel
theorem dX12_sail_66 : decode cX12_sail 66 = .ok (.aload_n 0, 1) := by decide +kernel
theorem dX12_sail_67 : decode cX12_sail 67 = .ok (.getfield 434, 3) := by decide +kernel
theorem dX12_sail_70 : decode cX12_sail 70 = .ok (.iastore, 1) := by decide +kernel
theorem dX12_sail_71 : decode cX12_sail 71 = .ok (.aload_n 0, 1) := by decide +kernel
theorem dX12_sail_72 : decode cX12_sail 72 = .ok (.getfield 66, 3) := by decide +kernel
theorem dX12_sail_75 : decode cX12_sail 75 = .ok (.iconst 2, 1) := by decide +kernel
theorem dX12_sail_76 : decode cX12_sail 76 = .ok (.aload_n 0, 1) := by decide +kernel
theorem dX12_sail_77 : decode cX12_sail 77 = .ok (.getfield 428, 3) := by decide +kernel
theorem dX12_sail_80 : decode cX12_sail 80 = .ok (.iastore, 1) := by decide +kernel
theorem dX12_sail_81 : decode cX12_sail 81 = .ok (.aload_n 0, 1) := by decide +kernel
theorem dX12_sail_82 : decode cX12_sail 82 = .ok (.getfield 66, 3) := by decide +kernel
theorem dX12_sail_85 : decode cX12_sail 85 = .ok (.iconst 3, 1) := by decide +kernel
theorem dX12_sail_86 : decode cX12_sail 86 = .ok (.aload_n 0, 1) := by decide +kernel
theorem dX12_sail_87 : decode cX12_sail 87 = .ok (.getfield 452, 3) := by decide +kernel
theorem dX12_sail_90 : decode cX12_sail 90 = .ok (.iastore, 1) := by decide +kernel
theorem dX12_sail_91 : decode cX12_sail 91 = .ok (.aload_n 0, 1) := by decide +kernel
theorem dX12_sail_92 : decode cX12_sail 92 = .ok (.getfield 66, 3) := by decide +kernel
theorem dX12_sail_95 : decode cX12_sail 95 = .ok (.iconst 4, 1) := by decide +kernel
theorem dX12_sail_96 : decode cX12_sail 96 = .ok (.aload_n 0, 1) := by decide +kernel
theorem dX12_sail_97 : decode cX12_sail 97 = .ok (.getfield 431, 3) := by decide +kernel
theorem dX12_sail_100 : decode cX12_sail 100 = .ok (.iastore, 1) := by decide +kernel
theorem dX12_sail_101 : decode cX12_sail 101 = .ok (.aload_n 0, 1) := by decide +kernel
theorem dX12_sail_102 : decode cX12_sail 102 = .ok (.iconst 1, 1) := by decide +kernel
theorem dX12_sail_103 : decode cX12_sail 103 = .ok (.putfield 491, 3) := by decide +kernel
theorem dX12_sail_106 : decode cX12_sail 106 = .ok (.aload_n 0, 1) := by decide +kernel
theorem dX12_sail_107 : decode cX12_sail 107 = .ok (.getfield 458, 3) := by decide +kernel
theorem dX12_sail_110 : decode cX12_sail 110 = .ok (.ireturn, 1) := by decide +kernel
theorem dX12_sailed_0 : decode cX12_sailed 0 = .ok (.aload_n 0, 1) := by decide +kernel
theorem dX12_sailed_1 : decode cX12_sailed 1 = .ok (.iconst 0, 1) := by decide +kernel
theorem dX12_sailed_2 : decode cX12_sailed 2 = .ok (.putfield 75, 3) := by decide +kernel
theorem dX12_sailed_5 : decode cX12_sailed 5 = .ok (.aload_n 0, 1) := by decide +kernel
theorem dX12_sailed_6 : decode cX12_sailed 6 = .ok (.iconst 0, 1) := by decide +kernel
theorem dX12_sailed_7 : decode cX12_sailed 7 = .ok (.putfield 78, 3) := by decide +kernel
theorem dX12_sailed_10 : decode cX12_sailed 10 = .ok (.iload_n 1, 1) := by decide +kernel
theorem dX12_sailed_11 : decode cX12_sailed 11 = .ok (.i2l, 1) := by decide +kernel
theorem dX12_sailed_12 : decode cX12_sailed 12 = .ok (.lconst 0, 1) := by decide +kernel
theorem dX12_sailed_13 : decode cX12_sailed 13 = .ok (.ldc2_w 494, 3) := by decide +kernel
theorem dX12_sailed_16 : decode cX12_sailed 16 = .ok (.invokestatic 110, 3) := by decide +kernel
theorem dX12_sailed_19 : decode cX12_sailed 19 = .ok (.ifCond .ne 9, 3) := by decide +kernel
theorem dX12_sailed_22 : decode cX12_sailed 22 = .ok (.aload_n 0, 1) := by decide +kernel
theorem dX12_sailed_23 : decode cX12_sailed 23 = .ok (.iconst 5, 1) := by decide +kernel
theorem dX12_sailed_24 : decode cX12_sailed 24 = .ok (.invokevirtual 299, 3) := by decide +kernel
theorem dX12_sailed_27 : decode cX12_sailed 27 = .ok (.ireturn, 1) := by decide +kernel
theorem dX12_sailed_28 : decode cX12_sailed 28 = .ok (.aload_n 0, 1) := by decide +kernel
theorem dX12_sailed_29 : decode cX12_sailed 29 = .ok (.getfield 491, 3) := by decide +kernel
theorem dX12_sailed_32 : decode cX12_sailed 32 = .ok (.ifCond .eq 12, 3) := by decide +kernel
theorem dX12_sailed_35 : decode cX12_sailed 35 = .ok (.aload_n 0, 1) := by decide +kernel
theorem dX12_sailed_36 : decode cX12_sailed 36 = .ok (.getfield 66, 3) := by decide +kernel
theorem dX12_sailed_39 : decode cX12_sailed 39 = .ok (.iload_n 1, 1) := by decide +kernel
theorem dX12_sailed_40 : decode cX12_sailed 40 = .ok (.iaload, 1) := by decide +kernel
theorem dX12_sailed_41 : decode cX12_sailed 41 = .ok (.goto 9, 3) := by decide +kernel
theorem dX12_sailed_44 : decode cX12_sailed 44 = .ok (.aload_n 0, 1) := by decide +kernel
theorem dX12_sailed_45 : decode cX12_sailed 45 = .ok (.bipush 8, 2) := by decide +kernel
theorem dX12_sailed_47 : decode cX12_sailed 47 = .ok (.invokevirtual 299, 3) := by decide +kernel
theorem dX12_sailed_50 : decode cX12_sailed 50 = .ok (.ireturn, 1) := by decide +kernel
theorem dX12_agreed_0 : decode cX12_agreed 0 = .ok (.aload_n 0, 1) := by decide +kernel
theorem dX12_agreed_1 : decode cX12_agreed 1 = .ok (.iconst 0, 1) := by decide +kernel
theorem dX12_agreed_2 : decode cX12_agreed 2 = .ok (.putfield 75, 3) := by decide +kernel
theorem dX12_agreed_5 : decode cX12_agreed 5 = .ok (.aload_n 0, 1) := by decide +kernel
theorem dX12_agreed_6 : decode cX12_agreed 6 = .ok (.iconst 0, 1) := by decide +kernel
theorem dX12_agreed_7 : decode cX12_agreed 7 = .ok (.putfield 78, 3) := by decide +kernel
theorem dX12_agreed_10 : decode cX12_agreed 10 = .ok (.iload_n 2, 1) := by decide +kernel
theorem dX12_agreed_11 : decode cX12_agreed 11 = .ok (.i2l, 1) := by decide +kernel
theorem dX12_agreed_12 : decode cX12_agreed 12 = .ok (.lconst 1, 1) := by decide +kernel
theorem dX12_agreed_13 : decode cX12_agreed 13 = .ok (.ldc2_w 496, 3) := by decide +kernel
theorem dX12_agreed_16 : decode cX12_agreed 16 = .ok (.invokestatic 110, 3) := by decide +kernel
theorem dX12_agreed_19 : decode cX12_agreed 19 = .ok (.ifCond .eq 18, 3) := by decide +kernel
theorem dX12_agreed_22 : decode cX12_agreed 22 = .ok (.iload_n 1, 1) := by decide +kernel
theorem dX12_agreed_23 : decode cX12_agreed 23 = .ok (.i2l, 1) := by decide +kernel
theorem dX12_agreed_24 : decode cX12_agreed 24 = .ok (.lconst 0, 1) := by decide +kernel
theorem dX12_agreed_25 : decode cX12_agreed 25 = .ok (.sipush 10000, 3) := by decide +kernel
theorem dX12_agreed_28 : decode cX12_agreed 28 = .ok (.iload_n 2, 1) := by decide +kernel
theorem dX12_agreed_29 : decode cX12_agreed 29 = .ok (.isub, 1) := by decide +kernel
theorem dX12_agreed_30 : decode cX12_agreed 30 = .ok (.i2l, 1) := by decide +kernel
theorem dX12_agreed_31 : decode cX12_agreed 31 = .ok (.invokestatic 110, 3) := by decide +kernel
theorem dX12_agreed_34 : decode cX12_agreed 34 = .ok (.ifCond .ne 9, 3) := by decide +kernel
theorem dX12_agreed_37 : decode cX12_agreed 37 = .ok (.aload_n 0, 1) := by decide +kernel
theorem dX12_agreed_38 : decode cX12_agreed 38 = .ok (.iconst 5, 1) := by decide +kernel
theorem dX12_agreed_39 : decode cX12_agreed 39 = .ok (.invokevirtual 299, 3) := by decide +kernel
theorem dX12_agreed_42 : decode cX12_agreed 42 = .ok (.ireturn, 1) := by decide +kernel
theorem dX12_agreed_43 : decode cX12_agreed 43 = .ok (.aload_n 0, 1) := by decide +kernel
theorem dX12_agreed_44 : decode cX12_agreed 44 = .ok (.getfield 35, 3) := by decide +kernel
theorem dX12_agreed_47 : decode cX12_agreed 47 = .ok (.sipush 135, 3) := by decide +kernel
theorem dX12_agreed_50 : decode cX12_agreed 50 = .ok (.iaload, 1) := by decide +kernel
theorem dX12_agreed_51 : decode cX12_agreed 51 = .ok (.ifCond .ne 10, 3) := by decide +kernel
theorem dX12_agreed_54 : decode cX12_agreed 54 = .ok (.aload_n 0, 1) := by decide +kernel
theorem dX12_agreed_55 : decode cX12_agreed 55 = .ok (.bipush 8, 2) := by decide +kernel
theorem dX12_agreed_57 : decode cX12_agreed 57 = .ok (.invokevirtual 299, 3) := by decide +kernel
theorem dX12_agreed_60 : decode cX12_agreed 60 = .ok (.ireturn, 1) := by decide +kernel
theorem dX12_agreed_61 : decode cX12_agreed 61 = .ok (.iconst 0, 1) := by decide +kernel
theorem dX12_agreed_62 : decode cX12_agreed 62 = .ok (.istore_n 3, 1) := by decide +kernel
theorem dX12_agreed_63 : decode cX12_agreed 63 = .ok (.iload_n 3, 1) := by decide +kernel
theorem dX12_agreed_64 : decode cX12_agreed 64 = .ok (.iconst 4, 1) := by decide +kernel
theorem dX12_agreed_65 : decode cX12_agreed 65 = .ok (.if_icmp .ge 24, 3) := by decide +kernel
theorem dX12_agreed_68 : decode cX12_agreed 68 = .ok (.aload_n 0, 1) := by decide +kernel
theorem dX12_agreed_69 : decode cX12_agreed 69 = .ok (.getfield 69, 3) := by decide +kernel
theorem dX12_agreed_72 : decode cX12_agreed 72 = .ok (.iload_n 3, 1) := by decide +kernel
theorem dX12_agreed_73 : decode cX12_agreed 73 = .ok (.aload_n 0, 1) := by decide +kernel
theorem dX12_agreed_74 : decode cX12_agreed 74 = .ok (.getfield 35, 3) := by decide +kernel
theorem dX12_agreed_77 : decode cX12_agreed 77 = .ok (.bipush 114, 2) := by decide +kernel
theorem dX12_agreed_79 : decode cX12_agreed 79 = .ok (.iload_n 3, 1) := by decide +kernel
theorem dX12_agreed_80 : decode cX12_agreed 80 = .ok (.iadd, 1) := by decide +kernel
theorem dX12_agreed_81 : decode cX12_agreed 81 = .ok (.iaload, 1) := by decide +kernel
theorem dX12_agreed_82 : decode cX12_agreed 82 = .ok (.iastore, 1) := by decide +kernel
theorem dX12_agreed_83 : decode cX12_agreed 83 = .ok (.iinc 3 1, 3) := by decide +kernel
theorem dX12_agreed_86 : decode cX12_agreed 86 = .ok (.goto (-23), 3) := by decide +kernel
theorem dX12_agreed_89 : decode cX12_agreed 89 = .ok (.iconst 0, 1) := by decide +kernel
theorem dX12_agreed_90 : decode cX12_agreed 90 = .ok (.istore_n 3, 1) := by decide +kernel
theorem dX12_agreed_91 : decode cX12_agreed 91 = .ok (.iconst 0, 1) := by decide +kernel
theorem dX12_agreed_92 : decode cX12_agreed 92 = .ok (.istore 4, 2) := by decide +kernel
theorem dX12_agreed_94 : decode cX12_agreed 94 = .ok (.iload 4, 2) := by decide +kernel
theorem dX12_agreed_96 : decode cX12_agreed 96 = .ok (.iload_n 2, 1) := by decide +kernel
theorem dX12_agreed_97 : decode cX12_agreed 97 = .ok (.if_icmp .ge 117, 3) := by decide +kernel
theorem dX12_agreed_100 : decode cX12_agreed 100 = .ok (.aload_n 0, 1) := by decide +kernel
theorem dX12_agreed_101 : decode cX12_agreed 101 = .ok (.iload_n 1, 1) := by decide +kernel
theorem dX12_agreed_102 : decode cX12_agreed 102 = .ok (.iload 4, 2) := by decide +kernel
theorem dX12_agreed_104 : decode cX12_agreed 104 = .ok (.iadd, 1) := by decide +kernel
theorem dX12_agreed_105 : decode cX12_agreed 105 = .ok (.invokevirtual 488, 3) := by decide +kernel
theorem dX12_agreed_108 : decode cX12_agreed 108 = .ok (.iconst 1, 1) := by decide +kernel
theorem dX12_agreed_109 : decode cX12_agreed 109 = .ok (.istore 5, 2) := by decide +kernel
theorem dX12_agreed_111 : decode cX12_agreed 111 = .ok (.iconst 1, 1) := by decide +kernel
theorem dX12_agreed_112 : decode cX12_agreed 112 = .ok (.istore 6, 2) := by decide +kernel
theorem dX12_agreed_114 : decode cX12_agreed 114 = .ok (.iload 6, 2) := by decide +kernel
theorem dX12_agreed_116 : decode cX12_agreed 116 = .ok (.aload_n 0, 1) := by decide +kernel
theorem dX12_agreed_117 : decode cX12_agreed 117 = .ok (.getfield 35, 3) := by decide +kernel
theorem dX12_agreed_120 : decode cX12_agreed 120 = .ok (.iconst 1, 1) := by decide +kernel
theorem dX12_agreed_121 : decode cX12_agreed 121 = .ok (.iaload, 1) := by decide +kernel
theorem dX12_agreed_122 : decode cX12_agreed 122 = .ok (.if_icmp .ge 41, 3) := by decide +kernel
theorem dX12_agreed_125 : decode cX12_agreed 125 = .ok (.iload 5, 2) := by decide +kernel
theorem dX12_agreed_127 : decode cX12_agreed 127 = .ok (.ifCond .eq 27, 3) := by decide +kernel
theorem dX12_agreed_130 : decode cX12_agreed 130 = .ok (.aload_n 0, 1) := by decide +kernel
theorem dX12_agreed_131 : decode cX12_agreed 131 = .ok (.getfield 35, 3) := by decide +kernel
theorem dX12_agreed_134 : decode cX12_agreed 134 = .ok (.bipush 114, 2) := by decide +kernel
theorem dX12_agreed_136 : decode cX12_agreed 136 = .ok (.iload 6, 2) := by decide +kernel
theorem dX12_agreed_138 : decode cX12_agreed 138 = .ok (.iadd, 1) := by decide +kernel
theorem dX12_agreed_139 : decode cX12_agreed 139 = .ok (.iaload, 1) := by decide +kernel
theorem dX12_agreed_140 : decode cX12_agreed 140 = .ok (.aload_n 0, 1) := by decide +kernel
theorem dX12_agreed_141 : decode cX12_agreed 141 = .ok (.getfield 35, 3) := by decide +kernel
theorem dX12_agreed_144 : decode cX12_agreed 144 = .ok (.bipush 114, 2) := by decide +kernel
theorem dX12_agreed_146 : decode cX12_agreed 146 = .ok (.iaload, 1) := by decide +kernel
theorem dX12_agreed_147 : decode cX12_agreed 147 = .ok (.if_icmp .ne 7, 3) := by decide +kernel
theorem dX12_agreed_150 : decode cX12_agreed 150 = .ok (.iconst 1, 1) := by decide +kernel
theorem dX12_agreed_151 : decode cX12_agreed 151 = .ok (.goto 4, 3) := by decide +kernel
theorem dX12_agreed_154 : decode cX12_agreed 154 = .ok (.iconst 0, 1) := by decide +kernel
theorem dX12_agreed_155 : decode cX12_agreed 155 = .ok (.istore 5, 2) := by decide +kernel
theorem dX12_agreed_157 : decode cX12_agreed 157 = .ok (.iinc 6 1, 3) := by decide +kernel
theorem dX12_agreed_160 : decode cX12_agreed 160 = .ok (.goto (-46), 3) := by decide +kernel
theorem dX12_agreed_163 : decode cX12_agreed 163 = .ok (.iload_n 3, 1) := by decide +kernel
theorem dX12_agreed_164 : decode cX12_agreed 164 = .ok (.iload 5, 2) := by decide +kernel
theorem dX12_agreed_166 : decode cX12_agreed 166 = .ok (.ifCond .eq 7, 3) := by decide +kernel
theorem dX12_agreed_169 : decode cX12_agreed 169 = .ok (.iconst 1, 1) := by decide +kernel
theorem dX12_agreed_170 : decode cX12_agreed 170 = .ok (.goto 4, 3) := by decide +kernel
theorem dX12_agreed_173 : decode cX12_agreed 173 = .ok (.iconst 0, 1) := by decide +kernel
theorem dX12_agreed_174 : decode cX12_agreed 174 = .ok (.iadd, 1) := by decide +kernel
theorem dX12_agreed_175 : decode cX12_agreed 175 = .ok (.istore_n 3, 1) := by decide +kernel
theorem dX12_agreed_176 : decode cX12_agreed 176 = .ok (.iconst 0, 1) := by decide +kernel
theorem dX12_agreed_177 : decode cX12_agreed 177 = .ok (.istore 6, 2) := by decide +kernel
theorem dX12_agreed_179 : decode cX12_agreed 179 = .ok (.iload 6, 2) := by decide +kernel
theorem dX12_agreed_181 : decode cX12_agreed 181 = .ok (.iconst 4, 1) := by decide +kernel
theorem dX12_agreed_182 : decode cX12_agreed 182 = .ok (.if_icmp .ge 26, 3) := by decide +kernel
theorem dX12_agreed_185 : decode cX12_agreed 185 = .ok (.aload_n 0, 1) := by decide +kernel
theorem dX12_agreed_186 : decode cX12_agreed 186 = .ok (.getfield 35, 3) := by decide +kernel
theorem dX12_agreed_189 : decode cX12_agreed 189 = .ok (.bipush 114, 2) := by decide +kernel
theorem dX12_agreed_191 : decode cX12_agreed 191 = .ok (.iload 6, 2) := by decide +kernel
theorem dX12_agreed_193 : decode cX12_agreed 193 = .ok (.iadd, 1) := by decide +kernel
theorem dX12_agreed_194 : decode cX12_agreed 194 = .ok (.aload_n 0, 1) := by decide +kernel
theorem dX12_agreed_195 : decode cX12_agreed 195 = .ok (.getfield 69, 3) := by decide +kernel
theorem dX12_agreed_198 : decode cX12_agreed 198 = .ok (.iload 6, 2) := by decide +kernel
theorem dX12_agreed_200 : decode cX12_agreed 200 = .ok (.iaload, 1) := by decide +kernel
theorem dX12_agreed_201 : decode cX12_agreed 201 = .ok (.iastore, 1) := by decide +kernel
theorem dX12_agreed_202 : decode cX12_agreed 202 = .ok (.iinc 6 1, 3) := by decide +kernel
theorem dX12_agreed_205 : decode cX12_agreed 205 = .ok (.goto (-26), 3) := by decide +kernel
theorem dX12_agreed_208 : decode cX12_agreed 208 = .ok (.iinc 4 1, 3) := by decide +kernel
theorem dX12_agreed_211 : decode cX12_agreed 211 = .ok (.goto (-117), 3) := by decide +kernel
theorem dX12_agreed_214 : decode cX12_agreed 214 = .ok (.iload_n 3, 1) := by decide +kernel
theorem dX12_agreed_215 : decode cX12_agreed 215 = .ok (.ireturn, 1) := by decide +kernel
theorem dX12_seal_0 : decode cX12_seal 0 = .ok (.aload_n 0, 1) := by decide +kernel
theorem dX12_seal_1 : decode cX12_seal 1 = .ok (.iconst 0, 1) := by decide +kernel
theorem dX12_seal_2 : decode cX12_seal 2 = .ok (.putfield 75, 3) := by decide +kernel
theorem dX12_seal_5 : decode cX12_seal 5 = .ok (.aload_n 0, 1) := by decide +kernel
theorem dX12_seal_6 : decode cX12_seal 6 = .ok (.iconst 0, 1) := by decide +kernel
theorem dX12_seal_7 : decode cX12_seal 7 = .ok (.putfield 78, 3) := by decide +kernel
theorem dX12_seal_10 : decode cX12_seal 10 = .ok (.aload_n 0, 1) := by decide +kernel
theorem dX12_seal_11 : decode cX12_seal 11 = .ok (.iload_n 1, 1) := by decide +kernel
theorem dX12_seal_12 : decode cX12_seal 12 = .ok (.invokevirtual 388, 3) := by decide +kernel
theorem dX12_seal_15 : decode cX12_seal 15 = .ok (.ifCond .ne 9, 3) := by decide +kernel
theorem dX12_seal_18 : decode cX12_seal 18 = .ok (.aload_n 0, 1) := by decide +kernel
theorem dX12_seal_19 : decode cX12_seal 19 = .ok (.iconst 1, 1) := by decide +kernel
theorem dX12_seal_20 : decode cX12_seal 20 = .ok (.invokevirtual 299, 3) := by decide +kernel
theorem dX12_seal_23 : decode cX12_seal 23 = .ok (.ireturn, 1) := by decide +kernel
theorem dX12_seal_24 : decode cX12_seal 24 = .ok (.aload_n 0, 1) := by decide +kernel
theorem dX12_seal_25 : decode cX12_seal 25 = .ok (.iload_n 2, 1) := by decide +kernel
theorem dX12_seal_26 : decode cX12_seal 26 = .ok (.invokevirtual 319, 3) := by decide +kernel
theorem dX12_seal_29 : decode cX12_seal 29 = .ok (.ifCond .ne 9, 3) := by decide +kernel
theorem dX12_seal_32 : decode cX12_seal 32 = .ok (.aload_n 0, 1) := by decide +kernel
theorem dX12_seal_33 : decode cX12_seal 33 = .ok (.iconst 2, 1) := by decide +kernel
theorem dX12_seal_34 : decode cX12_seal 34 = .ok (.invokevirtual 299, 3) := by decide +kernel
theorem dX12_seal_37 : decode cX12_seal 37 = .ok (.ireturn, 1) := by decide +kernel
theorem dX12_seal_38 : decode cX12_seal 38 = .ok (.aload_n 0, 1) := by decide +kernel
theorem dX12_seal_39 : decode cX12_seal 39 = .ok (.getfield 17, 3) := by decide +kernel
theorem dX12_seal_42 : decode cX12_seal 42 = .ok (.iload_n 1, 1) := by decide +kernel
theorem dX12_seal_43 : decode cX12_seal 43 = .ok (.iaload, 1) := by decide +kernel
theorem dX12_seal_44 : decode cX12_seal 44 = .ok (.ifCond .ge 9, 3) := by decide +kernel
theorem dX12_seal_47 : decode cX12_seal 47 = .ok (.aload_n 0, 1) := by decide +kernel
theorem dX12_seal_48 : decode cX12_seal 48 = .ok (.iconst 3, 1) := by decide +kernel
theorem dX12_seal_49 : decode cX12_seal 49 = .ok (.invokevirtual 299, 3) := by decide +kernel
theorem dX12_seal_52 : decode cX12_seal 52 = .ok (.ireturn, 1) := by decide +kernel
theorem dX12_seal_53 : decode cX12_seal 53 = .ok (.iload_n 2, 1) := by decide +kernel
theorem dX12_seal_54 : decode cX12_seal 54 = .ok (.invokestatic 325, 3) := by decide +kernel
theorem dX12_seal_57 : decode cX12_seal 57 = .ok (.istore_n 3, 1) := by decide +kernel
theorem dX12_seal_58 : decode cX12_seal 58 = .ok (.aload_n 0, 1) := by decide +kernel
theorem dX12_seal_59 : decode cX12_seal 59 = .ok (.getfield 17, 3) := by decide +kernel
theorem dX12_seal_62 : decode cX12_seal 62 = .ok (.iload_n 1, 1) := by decide +kernel
theorem dX12_seal_63 : decode cX12_seal 63 = .ok (.iaload, 1) := by decide +kernel
theorem dX12_seal_64 : decode cX12_seal 64 = .ok (.iload_n 3, 1) := by decide +kernel
theorem dX12_seal_65 : decode cX12_seal 65 = .ok (.iconst 3, 1) := by decide +kernel
theorem dX12_seal_66 : decode cX12_seal 66 = .ok (.iadd, 1) := by decide +kernel
theorem dX12_seal_67 : decode cX12_seal 67 = .ok (.if_icmp .ge 9, 3) := by decide +kernel
theorem dX12_seal_70 : decode cX12_seal 70 = .ok (.aload_n 0, 1) := by decide +kernel
theorem dX12_seal_71 : decode cX12_seal 71 = .ok (.iconst 4, 1) := by decide +kernel
theorem dX12_seal_72 : decode cX12_seal 72 = .ok (.invokevirtual 299, 3) := by decide +kernel
theorem dX12_seal_75 : decode cX12_seal 75 = .ok (.ireturn, 1) := by decide +kernel
theorem dX12_seal_76 : decode cX12_seal 76 = .ok (.aload_n 0, 1) := by decide +kernel
theorem dX12_seal_77 : decode cX12_seal 77 = .ok (.getfield 13, 3) := by decide +kernel
theorem dX12_seal_80 : decode cX12_seal 80 = .ok (.iload_n 1, 1) := by decide +kernel
theorem dX12_seal_81 : decode cX12_seal 81 = .ok (.iaload, 1) := by decide +kernel
theorem dX12_seal_82 : decode cX12_seal 82 = .ok (.ifCond .ne 9, 3) := by decide +kernel
theorem dX12_seal_85 : decode cX12_seal 85 = .ok (.aload_n 0, 1) := by decide +kernel
theorem dX12_seal_86 : decode cX12_seal 86 = .ok (.iconst 5, 1) := by decide +kernel
theorem dX12_seal_87 : decode cX12_seal 87 = .ok (.invokevirtual 299, 3) := by decide +kernel
theorem dX12_seal_90 : decode cX12_seal 90 = .ok (.ireturn, 1) := by decide +kernel
theorem dX12_seal_91 : decode cX12_seal 91 = .ok (.aload_n 0, 1) := by decide +kernel
theorem dX12_seal_92 : decode cX12_seal 92 = .ok (.iload_n 2, 1) := by decide +kernel
theorem dX12_seal_93 : decode cX12_seal 93 = .ok (.invokevirtual 322, 3) := by decide +kernel
theorem dX12_seal_96 : decode cX12_seal 96 = .ok (.ifCond .eq 10, 3) := by decide +kernel
theorem dX12_seal_99 : decode cX12_seal 99 = .ok (.aload_n 0, 1) := by decide +kernel
theorem dX12_seal_100 : decode cX12_seal 100 = .ok (.bipush 9, 2) := by decide +kernel
theorem dX12_seal_102 : decode cX12_seal 102 = .ok (.invokevirtual 299, 3) := by decide +kernel
theorem dX12_seal_105 : decode cX12_seal 105 = .ok (.ireturn, 1) := by decide +kernel
theorem dX12_seal_106 : decode cX12_seal 106 = .ok (.aload_n 0, 1) := by decide +kernel
theorem dX12_seal_107 : decode cX12_seal 107 = .ok (.getfield 20, 3) := by decide +kernel
theorem dX12_seal_110 : decode cX12_seal 110 = .ok (.bipush 60, 2) := by decide +kernel
theorem dX12_seal_112 : decode cX12_seal 112 = .ok (.iload_n 1, 1) := by decide +kernel
theorem dX12_seal_113 : decode cX12_seal 113 = .ok (.imul, 1) := by decide +kernel
theorem dX12_seal_114 : decode cX12_seal 114 = .ok (.lconst 1, 1) := by decide +kernel
theorem dX12_seal_115 : decode cX12_seal 115 = .ok (.lastore, 1) := by decide +kernel
theorem dX12_seal_116 : decode cX12_seal 116 = .ok (.aload_n 0, 1) := by decide +kernel
theorem dX12_seal_117 : decode cX12_seal 117 = .ok (.getfield 20, 3) := by decide +kernel
theorem dX12_seal_120 : decode cX12_seal 120 = .ok (.bipush 60, 2) := by decide +kernel
theorem dX12_seal_122 : decode cX12_seal 122 = .ok (.iload_n 1, 1) := by decide +kernel
theorem dX12_seal_123 : decode cX12_seal 123 = .ok (.imul, 1) := by decide +kernel
theorem dX12_seal_124 : decode cX12_seal 124 = .ok (.iconst 1, 1) := by decide +kernel
theorem dX12_seal_125 : decode cX12_seal 125 = .ok (.iadd, 1) := by decide +kernel
theorem dX12_seal_126 : decode cX12_seal 126 = .ok (.iload_n 3, 1) := by decide +kernel
theorem dX12_seal_127 : decode cX12_seal 127 = .ok (.i2l, 1) := by decide +kernel
theorem dX12_seal_128 : decode cX12_seal 128 = .ok (.lastore, 1) := by decide +kernel
theorem dX12_seal_129 : decode cX12_seal 129 = .ok (.lconst 1, 1) := by decide +kernel
theorem dX12_seal_130 : decode cX12_seal 130 = .ok (.iload_n 3, 1) := by decide +kernel
theorem dX12_seal_131 : decode cX12_seal 131 = .ok (.i2l, 1) := by decide +kernel
theorem dX12_seal_132 : decode cX12_seal 132 = .ok (.ladd, 1) := by decide +kernel
theorem dX12_seal_133 : decode cX12_seal 133 = .ok (.lstore 4, 2) := by decide +kernel
theorem dX12_seal_135 : decode cX12_seal 135 = .ok (.iconst 2, 1) := by decide +kernel
theorem dX12_seal_136 : decode cX12_seal 136 = .ok (.istore 6, 2) := by decide +kernel
theorem dX12_seal_138 : decode cX12_seal 138 = .ok (.iconst 0, 1) := by decide +kernel
theorem dX12_seal_139 : decode cX12_seal 139 = .ok (.istore 7, 2) := by decide +kernel
theorem dX12_seal_141 : decode cX12_seal 141 = .ok (.iload 7, 2) := by decide +kernel
theorem dX12_seal_143 : decode cX12_seal 143 = .ok (.aload_n 0, 1) := by decide +kernel
theorem dX12_seal_144 : decode cX12_seal 144 = .ok (.getfield 35, 3) := by decide +kernel
theorem dX12_seal_147 : decode cX12_seal 147 = .ok (.iconst 0, 1) := by decide +kernel
theorem dX12_seal_148 : decode cX12_seal 148 = .ok (.iaload, 1) := by decide +kernel
theorem dX12_seal_149 : decode cX12_seal 149 = .ok (.if_icmp .ge 73, 3) := by decide +kernel
theorem dX12_seal_152 : decode cX12_seal 152 = .ok (.iload_n 2, 1) := by decide +kernel
theorem dX12_seal_153 : decode cX12_seal 153 = .ok (.iload 7, 2) := by decide +kernel
theorem dX12_seal_155 : decode cX12_seal 155 = .ok (.invokestatic 302, 3) := by decide +kernel
theorem dX12_seal_158 : decode cX12_seal 158 = .ok (.ifCond .ne 6, 3) := by decide +kernel
theorem dX12_seal_161 : decode cX12_seal 161 = .ok (.goto 55, 3) := by decide +kernel
theorem dX12_seal_164 : decode cX12_seal 164 = .ok (.aload_n 0, 1) := by decide +kernel
theorem dX12_seal_165 : decode cX12_seal 165 = .ok (.getfield 20, 3) := by decide +kernel
theorem dX12_seal_168 : decode cX12_seal 168 = .ok (.bipush 60, 2) := by decide +kernel
theorem dX12_seal_170 : decode cX12_seal 170 = .ok (.iload_n 1, 1) := by decide +kernel
theorem dX12_seal_171 : decode cX12_seal 171 = .ok (.imul, 1) := by decide +kernel
theorem dX12_seal_172 : decode cX12_seal 172 = .ok (.iload 6, 2) := by decide +kernel
theorem dX12_seal_174 : decode cX12_seal 174 = .ok (.iadd, 1) := by decide +kernel
theorem dX12_seal_175 : decode cX12_seal 175 = .ok (.aload_n 0, 1) := by decide +kernel
theorem dX12_seal_176 : decode cX12_seal 176 = .ok (.iconst 0, 1) := by decide +kernel
theorem dX12_seal_177 : decode cX12_seal 177 = .ok (.iload 7, 2) := by decide +kernel
theorem dX12_seal_179 : decode cX12_seal 179 = .ok (.invokevirtual 239, 3) := by decide +kernel
theorem dX12_seal_182 : decode cX12_seal 182 = .ok (.i2l, 1) := by decide +kernel
theorem dX12_seal_183 : decode cX12_seal 183 = .ok (.ldc2_w 498, 3) := by decide +kernel
theorem dX12_seal_186 : decode cX12_seal 186 = .ok (.iload 7, 2) := by decide +kernel
theorem dX12_seal_188 : decode cX12_seal 188 = .ok (.i2l, 1) := by decide +kernel
theorem dX12_seal_189 : decode cX12_seal 189 = .ok (.lmul, 1) := by decide +kernel
theorem dX12_seal_190 : decode cX12_seal 190 = .ok (.ladd, 1) := by decide +kernel
theorem dX12_seal_191 : decode cX12_seal 191 = .ok (.lastore, 1) := by decide +kernel
theorem dX12_seal_192 : decode cX12_seal 192 = .ok (.lload 4, 2) := by decide +kernel
theorem dX12_seal_194 : decode cX12_seal 194 = .ok (.aload_n 0, 1) := by decide +kernel
theorem dX12_seal_195 : decode cX12_seal 195 = .ok (.iconst 0, 1) := by decide +kernel
theorem dX12_seal_196 : decode cX12_seal 196 = .ok (.iload 7, 2) := by decide +kernel
theorem dX12_seal_198 : decode cX12_seal 198 = .ok (.invokevirtual 239, 3) := by decide +kernel
theorem dX12_seal_201 : decode cX12_seal 201 = .ok (.i2l, 1) := by decide +kernel
theorem dX12_seal_202 : decode cX12_seal 202 = .ok (.ldc2_w 498, 3) := by decide +kernel
theorem dX12_seal_205 : decode cX12_seal 205 = .ok (.iload 7, 2) := by decide +kernel
theorem dX12_seal_207 : decode cX12_seal 207 = .ok (.i2l, 1) := by decide +kernel
theorem dX12_seal_208 : decode cX12_seal 208 = .ok (.lmul, 1) := by decide +kernel
theorem dX12_seal_209 : decode cX12_seal 209 = .ok (.ladd, 1) := by decide +kernel
theorem dX12_seal_210 : decode cX12_seal 210 = .ok (.ladd, 1) := by decide +kernel
theorem dX12_seal_211 : decode cX12_seal 211 = .ok (.lstore 4, 2) := by decide +kernel
theorem dX12_seal_213 : decode cX12_seal 213 = .ok (.iinc 6 1, 3) := by decide +kernel
theorem dX12_seal_216 : decode cX12_seal 216 = .ok (.iinc 7 1, 3) := by decide +kernel
theorem dX12_seal_219 : decode cX12_seal 219 = .ok (.goto (-78), 3) := by decide +kernel
theorem dX12_seal_222 : decode cX12_seal 222 = .ok (.aload_n 0, 1) := by decide +kernel
theorem dX12_seal_223 : decode cX12_seal 223 = .ok (.getfield 20, 3) := by decide +kernel
theorem dX12_seal_226 : decode cX12_seal 226 = .ok (.bipush 60, 2) := by decide +kernel
theorem dX12_seal_228 : decode cX12_seal 228 = .ok (.iload_n 1, 1) := by decide +kernel
theorem dX12_seal_229 : decode cX12_seal 229 = .ok (.imul, 1) := by decide +kernel
theorem dX12_seal_230 : decode cX12_seal 230 = .ok (.iload 6, 2) := by decide +kernel
theorem dX12_seal_232 : decode cX12_seal 232 = .ok (.iadd, 1) := by decide +kernel
theorem dX12_seal_233 : decode cX12_seal 233 = .ok (.lload 4, 2) := by decide +kernel
theorem dX12_seal_235 : decode cX12_seal 235 = .ok (.ldc2_w 500, 3) := by decide +kernel
theorem dX12_seal_238 : decode cX12_seal 238 = .ok (.lrem, 1) := by decide +kernel
theorem dX12_seal_239 : decode cX12_seal 239 = .ok (.lastore, 1) := by decide +kernel
theorem dX12_seal_240 : decode cX12_seal 240 = .ok (.iload 6, 2) := by decide +kernel
theorem dX12_seal_242 : decode cX12_seal 242 = .ok (.iconst 1, 1) := by decide +kernel
theorem dX12_seal_243 : decode cX12_seal 243 = .ok (.iadd, 1) := by decide +kernel
theorem dX12_seal_244 : decode cX12_seal 244 = .ok (.ireturn, 1) := by decide +kernel
theorem dX12_open_0 : decode cX12_open 0 = .ok (.aload_n 0, 1) := by decide +kernel
theorem dX12_open_1 : decode cX12_open 1 = .ok (.iconst 0, 1) := by decide +kernel
theorem dX12_open_2 : decode cX12_open 2 = .ok (.putfield 75, 3) := by decide +kernel
theorem dX12_open_5 : decode cX12_open 5 = .ok (.aload_n 0, 1) := by decide +kernel
theorem dX12_open_6 : decode cX12_open 6 = .ok (.iconst 0, 1) := by decide +kernel
theorem dX12_open_7 : decode cX12_open 7 = .ok (.putfield 78, 3) := by decide +kernel
theorem dX12_open_10 : decode cX12_open 10 = .ok (.aload_n 0, 1) := by decide +kernel
theorem dX12_open_11 : decode cX12_open 11 = .ok (.iload_n 1, 1) := by decide +kernel
theorem dX12_open_12 : decode cX12_open 12 = .ok (.invokevirtual 388, 3) := by decide +kernel
theorem dX12_open_15 : decode cX12_open 15 = .ok (.ifCond .ne 9, 3) := by decide +kernel
theorem dX12_open_18 : decode cX12_open 18 = .ok (.aload_n 0, 1) := by decide +kernel
theorem dX12_open_19 : decode cX12_open 19 = .ok (.iconst 1, 1) := by decide +kernel
theorem dX12_open_20 : decode cX12_open 20 = .ok (.invokevirtual 299, 3) := by decide +kernel
theorem dX12_open_23 : decode cX12_open 23 = .ok (.ireturn, 1) := by decide +kernel
theorem dX12_open_24 : decode cX12_open 24 = .ok (.aload_n 0, 1) := by decide +kernel
theorem dX12_open_25 : decode cX12_open 25 = .ok (.getfield 17, 3) := by decide +kernel
theorem dX12_open_28 : decode cX12_open 28 = .ok (.iload_n 1, 1) := by decide +kernel
theorem dX12_open_29 : decode cX12_open 29 = .ok (.iaload, 1) := by decide +kernel
theorem dX12_open_30 : decode cX12_open 30 = .ok (.ifCond .ge 9, 3) := by decide +kernel
theorem dX12_open_33 : decode cX12_open 33 = .ok (.aload_n 0, 1) := by decide +kernel
theorem dX12_open_34 : decode cX12_open 34 = .ok (.iconst 3, 1) := by decide +kernel
theorem dX12_open_35 : decode cX12_open 35 = .ok (.invokevirtual 299, 3) := by decide +kernel
theorem dX12_open_38 : decode cX12_open 38 = .ok (.ireturn, 1) := by decide +kernel
theorem dX12_open_39 : decode cX12_open 39 = .ok (.aload_n 0, 1) := by decide +kernel
theorem dX12_open_40 : decode cX12_open 40 = .ok (.getfield 17, 3) := by decide +kernel
theorem dX12_open_43 : decode cX12_open 43 = .ok (.iload_n 1, 1) := by decide +kernel
theorem dX12_open_44 : decode cX12_open 44 = .ok (.iaload, 1) := by decide +kernel
theorem dX12_open_45 : decode cX12_open 45 = .ok (.iconst 3, 1) := by decide +kernel
theorem dX12_open_46 : decode cX12_open 46 = .ok (.if_icmp .ge 9, 3) := by decide +kernel
theorem dX12_open_49 : decode cX12_open 49 = .ok (.aload_n 0, 1) := by decide +kernel
theorem dX12_open_50 : decode cX12_open 50 = .ok (.iconst 4, 1) := by decide +kernel
theorem dX12_open_51 : decode cX12_open 51 = .ok (.invokevirtual 299, 3) := by decide +kernel
theorem dX12_open_54 : decode cX12_open 54 = .ok (.ireturn, 1) := by decide +kernel
theorem dX12_open_55 : decode cX12_open 55 = .ok (.aload_n 0, 1) := by decide +kernel
theorem dX12_open_56 : decode cX12_open 56 = .ok (.iload_n 1, 1) := by decide +kernel
theorem dX12_open_57 : decode cX12_open 57 = .ok (.iconst 1, 1) := by decide +kernel
theorem dX12_open_58 : decode cX12_open 58 = .ok (.invokevirtual 393, 3) := by decide +kernel
theorem dX12_open_61 : decode cX12_open 61 = .ok (.lstore_n 2, 1) := by decide +kernel
theorem dX12_open_62 : decode cX12_open 62 = .ok (.aload_n 0, 1) := by decide +kernel
theorem dX12_open_63 : decode cX12_open 63 = .ok (.iload_n 1, 1) := by decide +kernel
theorem dX12_open_64 : decode cX12_open 64 = .ok (.iconst 0, 1) := by decide +kernel
theorem dX12_open_65 : decode cX12_open 65 = .ok (.invokevirtual 393, 3) := by decide +kernel
theorem dX12_open_68 : decode cX12_open 68 = .ok (.lconst 1, 1) := by decide +kernel
theorem dX12_open_69 : decode cX12_open 69 = .ok (.lcmp, 1) := by decide +kernel
theorem dX12_open_70 : decode cX12_open 70 = .ok (.ifCond .ne 14, 3) := by decide +kernel
theorem dX12_open_73 : decode cX12_open 73 = .ok (.lload_n 2, 1) := by decide +kernel
theorem dX12_open_74 : decode cX12_open 74 = .ok (.lconst 0, 1) := by decide +kernel
theorem dX12_open_75 : decode cX12_open 75 = .ok (.ldc2_w 391, 3) := by decide +kernel
theorem dX12_open_78 : decode cX12_open 78 = .ok (.invokestatic 110, 3) := by decide +kernel
theorem dX12_open_81 : decode cX12_open 81 = .ok (.ifCond .ne 10, 3) := by decide +kernel
theorem dX12_open_84 : decode cX12_open 84 = .ok (.aload_n 0, 1) := by decide +kernel
theorem dX12_open_85 : decode cX12_open 85 = .ok (.bipush 9, 2) := by decide +kernel
theorem dX12_open_87 : decode cX12_open 87 = .ok (.invokevirtual 299, 3) := by decide +kernel
theorem dX12_open_90 : decode cX12_open 90 = .ok (.ireturn, 1) := by decide +kernel
theorem dX12_open_91 : decode cX12_open 91 = .ok (.lload_n 2, 1) := by decide +kernel
theorem dX12_open_92 : decode cX12_open 92 = .ok (.l2i, 1) := by decide +kernel
theorem dX12_open_93 : decode cX12_open 93 = .ok (.istore 4, 2) := by decide +kernel
theorem dX12_open_95 : decode cX12_open 95 = .ok (.aload_n 0, 1) := by decide +kernel
theorem dX12_open_96 : decode cX12_open 96 = .ok (.getfield 17, 3) := by decide +kernel
theorem dX12_open_99 : decode cX12_open 99 = .ok (.iload_n 1, 1) := by decide +kernel
theorem dX12_open_100 : decode cX12_open 100 = .ok (.iaload, 1) := by decide +kernel
theorem dX12_open_101 : decode cX12_open 101 = .ok (.iload 4, 2) := by decide +kernel
theorem dX12_open_103 : decode cX12_open 103 = .ok (.iconst 3, 1) := by decide +kernel
theorem dX12_open_104 : decode cX12_open 104 = .ok (.iadd, 1) := by decide +kernel
theorem dX12_open_105 : decode cX12_open 105 = .ok (.if_icmp .ge 9, 3) := by decide +kernel
theorem dX12_open_108 : decode cX12_open 108 = .ok (.aload_n 0, 1) := by decide +kernel
theorem dX12_open_109 : decode cX12_open 109 = .ok (.iconst 4, 1) := by decide +kernel
theorem dX12_open_110 : decode cX12_open 110 = .ok (.invokevirtual 299, 3) := by decide +kernel
theorem dX12_open_113 : decode cX12_open 113 = .ok (.ireturn, 1) := by decide +kernel
theorem dX12_open_114 : decode cX12_open 114 = .ok (.iconst 0, 1) := by decide +kernel
theorem dX12_open_115 : decode cX12_open 115 = .ok (.istore 5, 2) := by decide +kernel
theorem dX12_open_117 : decode cX12_open 117 = .ok (.iconst (-1), 1) := by decide +kernel
theorem dX12_open_118 : decode cX12_open 118 = .ok (.istore 6, 2) := by decide +kernel
theorem dX12_open_120 : decode cX12_open 120 = .ok (.lconst 1, 1) := by decide +kernel
theorem dX12_open_121 : decode cX12_open 121 = .ok (.iload 4, 2) := by decide +kernel
theorem dX12_open_123 : decode cX12_open 123 = .ok (.i2l, 1) := by decide +kernel
theorem dX12_open_124 : decode cX12_open 124 = .ok (.ladd, 1) := by decide +kernel
theorem dX12_open_125 : decode cX12_open 125 = .ok (.lstore 7, 2) := by decide +kernel
theorem dX12_open_127 : decode cX12_open 127 = .ok (.iconst 0, 1) := by decide +kernel
theorem dX12_open_128 : decode cX12_open 128 = .ok (.istore 9, 2) := by decide +kernel
theorem dX12_open_130 : decode cX12_open 130 = .ok (.iload 9, 2) := by decide +kernel
theorem dX12_open_132 : decode cX12_open 132 = .ok (.iload 4, 2) := by decide +kernel
theorem dX12_open_134 : decode cX12_open 134 = .ok (.if_icmp .ge 107, 3) := by decide +kernel
theorem dX12_open_137 : decode cX12_open 137 = .ok (.aload_n 0, 1) := by decide +kernel
theorem dX12_open_138 : decode cX12_open 138 = .ok (.iload_n 1, 1) := by decide +kernel
theorem dX12_open_139 : decode cX12_open 139 = .ok (.iconst 2, 1) := by decide +kernel
theorem dX12_open_140 : decode cX12_open 140 = .ok (.iload 9, 2) := by decide +kernel
theorem dX12_open_142 : decode cX12_open 142 = .ok (.iadd, 1) := by decide +kernel
theorem dX12_open_143 : decode cX12_open 143 = .ok (.invokevirtual 393, 3) := by decide +kernel
theorem dX12_open_146 : decode cX12_open 146 = .ok (.lstore 10, 2) := by decide +kernel
theorem dX12_open_148 : decode cX12_open 148 = .ok (.lload 10, 2) := by decide +kernel
theorem dX12_open_150 : decode cX12_open 150 = .ok (.lconst 0, 1) := by decide +kernel
theorem dX12_open_151 : decode cX12_open 151 = .ok (.ldc2_w 502, 3) := by decide +kernel
theorem dX12_open_154 : decode cX12_open 154 = .ok (.invokestatic 110, 3) := by decide +kernel
theorem dX12_open_157 : decode cX12_open 157 = .ok (.ifCond .ne 10, 3) := by decide +kernel
theorem dX12_open_160 : decode cX12_open 160 = .ok (.aload_n 0, 1) := by decide +kernel
theorem dX12_open_161 : decode cX12_open 161 = .ok (.bipush 9, 2) := by decide +kernel
theorem dX12_open_163 : decode cX12_open 163 = .ok (.invokevirtual 299, 3) := by decide +kernel
theorem dX12_open_166 : decode cX12_open 166 = .ok (.ireturn, 1) := by decide +kernel
theorem dX12_open_167 : decode cX12_open 167 = .ok (.lload 10, 2) := by decide +kernel
theorem dX12_open_169 : decode cX12_open 169 = .ok (.l2i, 1) := by decide +kernel
theorem dX12_open_170 : decode cX12_open 170 = .ok (.iconst 5, 1) := by decide +kernel
theorem dX12_open_171 : decode cX12_open 171 = .ok (.idiv, 1) := by decide +kernel
theorem dX12_open_172 : decode cX12_open 172 = .ok (.istore 12, 2) := by decide +kernel
theorem dX12_open_174 : decode cX12_open 174 = .ok (.iload 12, 2) := by decide +kernel
theorem dX12_open_176 : decode cX12_open 176 = .ok (.iload 6, 2) := by decide +kernel
theorem dX12_open_178 : decode cX12_open 178 = .ok (.if_icmp .le 30, 3) := by decide +kernel
theorem dX12_open_181 : decode cX12_open 181 = .ok (.aload_n 0, 1) := by decide +kernel
theorem dX12_open_182 : decode cX12_open 182 = .ok (.iload 12, 2) := by decide +kernel
theorem dX12_open_184 : decode cX12_open 184 = .ok (.invokevirtual 311, 3) := by decide +kernel
theorem dX12_open_187 : decode cX12_open 187 = .ok (.ifCond .eq 21, 3) := by decide +kernel
theorem dX12_open_190 : decode cX12_open 190 = .ok (.aload_n 0, 1) := by decide +kernel
theorem dX12_open_191 : decode cX12_open 191 = .ok (.iconst 0, 1) := by decide +kernel
theorem dX12_open_192 : decode cX12_open 192 = .ok (.iload 12, 2) := by decide +kernel
theorem dX12_open_194 : decode cX12_open 194 = .ok (.invokevirtual 239, 3) := by decide +kernel
theorem dX12_open_197 : decode cX12_open 197 = .ok (.i2l, 1) := by decide +kernel
theorem dX12_open_198 : decode cX12_open 198 = .ok (.lload 10, 2) := by decide +kernel
theorem dX12_open_200 : decode cX12_open 200 = .ok (.ldc2_w 498, 3) := by decide +kernel
theorem dX12_open_203 : decode cX12_open 203 = .ok (.lrem, 1) := by decide +kernel
theorem dX12_open_204 : decode cX12_open 204 = .ok (.lcmp, 1) := by decide +kernel
theorem dX12_open_205 : decode cX12_open 205 = .ok (.ifCond .eq 10, 3) := by decide +kernel
theorem dX12_open_208 : decode cX12_open 208 = .ok (.aload_n 0, 1) := by decide +kernel
theorem dX12_open_209 : decode cX12_open 209 = .ok (.bipush 9, 2) := by decide +kernel
theorem dX12_open_211 : decode cX12_open 211 = .ok (.invokevirtual 299, 3) := by decide +kernel
theorem dX12_open_214 : decode cX12_open 214 = .ok (.ireturn, 1) := by decide +kernel
theorem dX12_open_215 : decode cX12_open 215 = .ok (.iload 12, 2) := by decide +kernel
theorem dX12_open_217 : decode cX12_open 217 = .ok (.istore 6, 2) := by decide +kernel
theorem dX12_open_219 : decode cX12_open 219 = .ok (.iload 5, 2) := by decide +kernel
theorem dX12_open_221 : decode cX12_open 221 = .ok (.iconst 1, 1) := by decide +kernel
theorem dX12_open_222 : decode cX12_open 222 = .ok (.iload 12, 2) := by decide +kernel
theorem dX12_open_224 : decode cX12_open 224 = .ok (.ishl, 1) := by decide +kernel
theorem dX12_open_225 : decode cX12_open 225 = .ok (.ior, 1) := by decide +kernel
theorem dX12_open_226 : decode cX12_open 226 = .ok (.istore 5, 2) := by decide +kernel
theorem dX12_open_228 : decode cX12_open 228 = .ok (.lload 7, 2) := by decide +kernel
theorem dX12_open_230 : decode cX12_open 230 = .ok (.lload 10, 2) := by decide +kernel
theorem dX12_open_232 : decode cX12_open 232 = .ok (.ladd, 1) := by decide +kernel
theorem dX12_open_233 : decode cX12_open 233 = .ok (.lstore 7, 2) := by decide +kernel
theorem dX12_open_235 : decode cX12_open 235 = .ok (.iinc 9 1, 3) := by decide +kernel
theorem dX12_open_238 : decode cX12_open 238 = .ok (.goto (-108), 3) := by decide +kernel
theorem dX12_open_241 : decode cX12_open 241 = .ok (.aload_n 0, 1) := by decide +kernel
theorem dX12_open_242 : decode cX12_open 242 = .ok (.iload_n 1, 1) := by decide +kernel
theorem dX12_open_243 : decode cX12_open 243 = .ok (.iconst 2, 1) := by decide +kernel
theorem dX12_open_244 : decode cX12_open 244 = .ok (.iload 4, 2) := by decide +kernel
theorem dX12_open_246 : decode cX12_open 246 = .ok (.iadd, 1) := by decide +kernel
theorem dX12_open_247 : decode cX12_open 247 = .ok (.invokevirtual 393, 3) := by decide +kernel
theorem dX12_open_250 : decode cX12_open 250 = .ok (.lload 7, 2) := by decide +kernel
theorem dX12_open_252 : decode cX12_open 252 = .ok (.ldc2_w 500, 3) := by decide +kernel
theorem dX12_open_255 : decode cX12_open 255 = .ok (.lrem, 1) := by decide +kernel
theorem dX12_open_256 : decode cX12_open 256 = .ok (.lcmp, 1) := by decide +kernel
theorem dX12_open_257 : decode cX12_open 257 = .ok (.ifCond .ne 12, 3) := by decide +kernel
theorem dX12_open_260 : decode cX12_open 260 = .ok (.aload_n 0, 1) := by decide +kernel
theorem dX12_open_261 : decode cX12_open 261 = .ok (.iload 5, 2) := by decide +kernel
theorem dX12_open_263 : decode cX12_open 263 = .ok (.invokevirtual 322, 3) := by decide +kernel
theorem dX12_open_266 : decode cX12_open 266 = .ok (.ifCond .eq 10, 3) := by decide +kernel
theorem dX12_open_269 : decode cX12_open 269 = .ok (.aload_n 0, 1) := by decide +kernel
theorem dX12_open_270 : decode cX12_open 270 = .ok (.bipush 9, 2) := by decide +kernel
theorem dX12_open_272 : decode cX12_open 272 = .ok (.invokevirtual 299, 3) := by decide +kernel
theorem dX12_open_275 : decode cX12_open 275 = .ok (.ireturn, 1) := by decide +kernel
theorem dX12_open_276 : decode cX12_open 276 = .ok (.iload 5, 2) := by decide +kernel
theorem dX12_open_278 : decode cX12_open 278 = .ok (.ireturn, 1) := by decide +kernel
theorem dX12_copy_0 : decode cX12_copy 0 = .ok (.iconst 0, 1) := by decide +kernel
theorem dX12_copy_1 : decode cX12_copy 1 = .ok (.istore_n 3, 1) := by decide +kernel
theorem dX12_copy_2 : decode cX12_copy 2 = .ok (.iload_n 3, 1) := by decide +kernel
theorem dX12_copy_3 : decode cX12_copy 3 = .ok (.sipush 360, 3) := by decide +kernel
theorem dX12_copy_6 : decode cX12_copy 6 = .ok (.if_icmp .ge 33, 3) := by decide +kernel
theorem dX12_copy_9 : decode cX12_copy 9 = .ok (.aload_n 0, 1) := by decide +kernel
theorem dX12_copy_10 : decode cX12_copy 10 = .ok (.getfield 35, 3) := by decide +kernel
theorem dX12_copy_13 : decode cX12_copy 13 = .ok (.sipush 360, 3) := by decide +kernel
theorem dX12_copy_16 : decode cX12_copy 16 = .ok (.iload_n 2, 1) := by decide +kernel
theorem dX12_copy_17 : decode cX12_copy 17 = .ok (.imul, 1) := by decide +kernel
theorem dX12_copy_18 : decode cX12_copy 18 = .ok (.iload_n 3, 1) := by decide +kernel
theorem dX12_copy_19 : decode cX12_copy 19 = .ok (.iadd, 1) := by decide +kernel
theorem dX12_copy_20 : decode cX12_copy 20 = .ok (.aload_n 0, 1) := by decide +kernel
theorem dX12_copy_21 : decode cX12_copy 21 = .ok (.getfield 35, 3) := by decide +kernel
theorem dX12_copy_24 : decode cX12_copy 24 = .ok (.sipush 360, 3) := by decide +kernel
theorem dX12_copy_27 : decode cX12_copy 27 = .ok (.iload_n 1, 1) := by decide +kernel
theorem dX12_copy_28 : decode cX12_copy 28 = .ok (.imul, 1) := by decide +kernel
theorem dX12_copy_29 : decode cX12_copy 29 = .ok (.iload_n 3, 1) := by decide +kernel
theorem dX12_copy_30 : decode cX12_copy 30 = .ok (.iadd, 1) := by decide +kernel
theorem dX12_copy_31 : decode cX12_copy 31 = .ok (.iaload, 1) := by decide +kernel
theorem dX12_copy_32 : decode cX12_copy 32 = .ok (.iastore, 1) := by decide +kernel
theorem dX12_copy_33 : decode cX12_copy 33 = .ok (.iinc 3 1, 3) := by decide +kernel
theorem dX12_copy_36 : decode cX12_copy 36 = .ok (.goto (-34), 3) := by decide +kernel
theorem dX12_copy_39 : decode cX12_copy 39 = .ok (.iconst 0, 1) := by decide +kernel
theorem dX12_copy_40 : decode cX12_copy 40 = .ok (.istore_n 3, 1) := by decide +kernel
theorem dX12_copy_41 : decode cX12_copy 41 = .ok (.iload_n 3, 1) := by decide +kernel
theorem dX12_copy_42 : decode cX12_copy 42 = .ok (.bipush 20, 2) := by decide +kernel
theorem dX12_copy_44 : decode cX12_copy 44 = .ok (.if_icmp .ge 31, 3) := by decide +kernel
theorem dX12_copy_47 : decode cX12_copy 47 = .ok (.aload_n 0, 1) := by decide +kernel
theorem dX12_copy_48 : decode cX12_copy 48 = .ok (.getfield 38, 3) := by decide +kernel
theorem dX12_copy_51 : decode cX12_copy 51 = .ok (.bipush 20, 2) := by decide +kernel
theorem dX12_copy_53 : decode cX12_copy 53 = .ok (.iload_n 2, 1) := by decide +kernel
theorem dX12_copy_54 : decode cX12_copy 54 = .ok (.imul, 1) := by decide +kernel
theorem dX12_copy_55 : decode cX12_copy 55 = .ok (.iload_n 3, 1) := by decide +kernel
theorem dX12_copy_56 : decode cX12_copy 56 = .ok (.iadd, 1) := by decide +kernel
theorem dX12_copy_57 : decode cX12_copy 57 = .ok (.aload_n 0, 1) := by decide +kernel
theorem dX12_copy_58 : decode cX12_copy 58 = .ok (.getfield 38, 3) := by decide +kernel
theorem dX12_copy_61 : decode cX12_copy 61 = .ok (.bipush 20, 2) := by decide +kernel
theorem dX12_copy_63 : decode cX12_copy 63 = .ok (.iload_n 1, 1) := by decide +kernel
theorem dX12_copy_64 : decode cX12_copy 64 = .ok (.imul, 1) := by decide +kernel
theorem dX12_copy_65 : decode cX12_copy 65 = .ok (.iload_n 3, 1) := by decide +kernel
theorem dX12_copy_66 : decode cX12_copy 66 = .ok (.iadd, 1) := by decide +kernel
theorem dX12_copy_67 : decode cX12_copy 67 = .ok (.laload, 1) := by decide +kernel
theorem dX12_copy_68 : decode cX12_copy 68 = .ok (.lastore, 1) := by decide +kernel
theorem dX12_copy_69 : decode cX12_copy 69 = .ok (.iinc 3 1, 3) := by decide +kernel
theorem dX12_copy_72 : decode cX12_copy 72 = .ok (.goto (-31), 3) := by decide +kernel
theorem dX12_copy_75 : decode cX12_copy 75 = .ok (.return_, 1) := by decide +kernel
theorem dX12_mark_0 : decode cX12_mark 0 = .ok (.aload_n 0, 1) := by decide +kernel
theorem dX12_mark_1 : decode cX12_mark 1 = .ok (.iconst 0, 1) := by decide +kernel
theorem dX12_mark_2 : decode cX12_mark 2 = .ok (.putfield 75, 3) := by decide +kernel
theorem dX12_mark_5 : decode cX12_mark 5 = .ok (.aload_n 0, 1) := by decide +kernel
theorem dX12_mark_6 : decode cX12_mark 6 = .ok (.iconst 0, 1) := by decide +kernel
theorem dX12_mark_7 : decode cX12_mark 7 = .ok (.putfield 78, 3) := by decide +kernel
theorem dX12_mark_10 : decode cX12_mark 10 = .ok (.aload_n 0, 1) := by decide +kernel
theorem dX12_mark_11 : decode cX12_mark 11 = .ok (.getfield 504, 3) := by decide +kernel
theorem dX12_mark_14 : decode cX12_mark 14 = .ok (.iconst 3, 1) := by decide +kernel
theorem dX12_mark_15 : decode cX12_mark 15 = .ok (.if_icmp .ne 10, 3) := by decide +kernel
theorem dX12_mark_18 : decode cX12_mark 18 = .ok (.aload_n 0, 1) := by decide +kernel
theorem dX12_mark_19 : decode cX12_mark 19 = .ok (.bipush 7, 2) := by decide +kernel
theorem dX12_mark_21 : decode cX12_mark 21 = .ok (.invokevirtual 299, 3) := by decide +kernel
theorem dX12_mark_24 : decode cX12_mark 24 = .ok (.ireturn, 1) := by decide +kernel
theorem dX12_mark_25 : decode cX12_mark 25 = .ok (.aload_n 0, 1) := by decide +kernel
theorem dX12_mark_26 : decode cX12_mark 26 = .ok (.dup, 1) := by decide +kernel
theorem dX12_mark_27 : decode cX12_mark 27 = .ok (.getfield 504, 3) := by decide +kernel
theorem dX12_mark_30 : decode cX12_mark 30 = .ok (.iconst 1, 1) := by decide +kernel
theorem dX12_mark_31 : decode cX12_mark 31 = .ok (.iadd, 1) := by decide +kernel
theorem dX12_mark_32 : decode cX12_mark 32 = .ok (.putfield 504, 3) := by decide +kernel
theorem dX12_mark_35 : decode cX12_mark 35 = .ok (.aload_n 0, 1) := by decide +kernel
theorem dX12_mark_36 : decode cX12_mark 36 = .ok (.iconst 0, 1) := by decide +kernel
theorem dX12_mark_37 : decode cX12_mark 37 = .ok (.aload_n 0, 1) := by decide +kernel
theorem dX12_mark_38 : decode cX12_mark 38 = .ok (.getfield 504, 3) := by decide +kernel
theorem dX12_mark_41 : decode cX12_mark 41 = .ok (.invokevirtual 507, 3) := by decide +kernel
theorem dX12_mark_44 : decode cX12_mark 44 = .ok (.aload_n 0, 1) := by decide +kernel
theorem dX12_mark_45 : decode cX12_mark 45 = .ok (.getfield 504, 3) := by decide +kernel
theorem dX12_mark_48 : decode cX12_mark 48 = .ok (.ireturn, 1) := by decide +kernel
theorem dX12_back_0 : decode cX12_back 0 = .ok (.aload_n 0, 1) := by decide +kernel
theorem dX12_back_1 : decode cX12_back 1 = .ok (.iconst 0, 1) := by decide +kernel
theorem dX12_back_2 : decode cX12_back 2 = .ok (.putfield 75, 3) := by decide +kernel
theorem dX12_back_5 : decode cX12_back 5 = .ok (.aload_n 0, 1) := by decide +kernel
theorem dX12_back_6 : decode cX12_back 6 = .ok (.iconst 0, 1) := by decide +kernel
theorem dX12_back_7 : decode cX12_back 7 = .ok (.putfield 78, 3) := by decide +kernel
theorem dX12_back_10 : decode cX12_back 10 = .ok (.aload_n 0, 1) := by decide +kernel
theorem dX12_back_11 : decode cX12_back 11 = .ok (.getfield 504, 3) := by decide +kernel
theorem dX12_back_14 : decode cX12_back 14 = .ok (.ifCond .ne 10, 3) := by decide +kernel
theorem dX12_back_17 : decode cX12_back 17 = .ok (.aload_n 0, 1) := by decide +kernel
theorem dX12_back_18 : decode cX12_back 18 = .ok (.bipush 8, 2) := by decide +kernel
theorem dX12_back_20 : decode cX12_back 20 = .ok (.invokevirtual 299, 3) := by decide +kernel
theorem dX12_back_23 : decode cX12_back 23 = .ok (.ireturn, 1) := by decide +kernel
theorem dX12_back_24 : decode cX12_back 24 = .ok (.aload_n 0, 1) := by decide +kernel
theorem dX12_back_25 : decode cX12_back 25 = .ok (.aload_n 0, 1) := by decide +kernel
theorem dX12_back_26 : decode cX12_back 26 = .ok (.getfield 504, 3) := by decide +kernel
theorem dX12_back_29 : decode cX12_back 29 = .ok (.iconst 0, 1) := by decide +kernel
theorem dX12_back_30 : decode cX12_back 30 = .ok (.invokevirtual 507, 3) := by decide +kernel
theorem dX12_back_33 : decode cX12_back 33 = .ok (.aload_n 0, 1) := by decide +kernel
theorem dX12_back_34 : decode cX12_back 34 = .ok (.dup, 1) := by decide +kernel
theorem dX12_back_35 : decode cX12_back 35 = .ok (.getfield 504, 3) := by decide +kernel
theorem dX12_back_38 : decode cX12_back 38 = .ok (.iconst 1, 1) := by decide +kernel
theorem dX12_back_39 : decode cX12_back 39 = .ok (.isub, 1) := by decide +kernel
theorem dX12_back_40 : decode cX12_back 40 = .ok (.putfield 504, 3) := by decide +kernel
theorem dX12_back_43 : decode cX12_back 43 = .ok (.aload_n 0, 1) := by decide +kernel
theorem dX12_back_44 : decode cX12_back 44 = .ok (.getfield 504, 3) := by decide +kernel
theorem dX12_back_47 : decode cX12_back 47 = .ok (.ireturn, 1) := by decide +kernel
theorem dJ6_bitCount_0f7a4_0 : decode cJ6_bitCount_0f7a4 0 = .ok (.iload_n 0, 1) := by decide +kernel
theorem dJ6_bitCount_0f7a4_1 : decode cJ6_bitCount_0f7a4 1 = .ok (.iload_n 0, 1) := by decide +kernel
theorem dJ6_bitCount_0f7a4_2 : decode cJ6_bitCount_0f7a4 2 = .ok (.iconst 1, 1) := by decide +kernel
theorem dJ6_bitCount_0f7a4_3 : decode cJ6_bitCount_0f7a4 3 = .ok (.iushr, 1) := by decide +kernel
theorem dJ6_bitCount_0f7a4_4 : decode cJ6_bitCount_0f7a4 4 = .ok (.ldc_w 265, 3) := by decide +kernel
theorem dJ6_bitCount_0f7a4_7 : decode cJ6_bitCount_0f7a4 7 = .ok (.iand, 1) := by decide +kernel
theorem dJ6_bitCount_0f7a4_8 : decode cJ6_bitCount_0f7a4 8 = .ok (.isub, 1) := by decide +kernel
theorem dJ6_bitCount_0f7a4_9 : decode cJ6_bitCount_0f7a4 9 = .ok (.istore_n 0, 1) := by decide +kernel
theorem dJ6_bitCount_0f7a4_10 : decode cJ6_bitCount_0f7a4 10 = .ok (.iload_n 0, 1) := by decide +kernel
theorem dJ6_bitCount_0f7a4_11 : decode cJ6_bitCount_0f7a4 11 = .ok (.ldc_w 266, 3) := by decide +kernel
theorem dJ6_bitCount_0f7a4_14 : decode cJ6_bitCount_0f7a4 14 = .ok (.iand, 1) := by decide +kernel
theorem dJ6_bitCount_0f7a4_15 : decode cJ6_bitCount_0f7a4 15 = .ok (.iload_n 0, 1) := by decide +kernel
theorem dJ6_bitCount_0f7a4_16 : decode cJ6_bitCount_0f7a4 16 = .ok (.iconst 2, 1) := by decide +kernel
theorem dJ6_bitCount_0f7a4_17 : decode cJ6_bitCount_0f7a4 17 = .ok (.iushr, 1) := by decide +kernel
theorem dJ6_bitCount_0f7a4_18 : decode cJ6_bitCount_0f7a4 18 = .ok (.ldc_w 266, 3) := by decide +kernel
theorem dJ6_bitCount_0f7a4_21 : decode cJ6_bitCount_0f7a4 21 = .ok (.iand, 1) := by decide +kernel
theorem dJ6_bitCount_0f7a4_22 : decode cJ6_bitCount_0f7a4 22 = .ok (.iadd, 1) := by decide +kernel
theorem dJ6_bitCount_0f7a4_23 : decode cJ6_bitCount_0f7a4 23 = .ok (.istore_n 0, 1) := by decide +kernel
theorem dJ6_bitCount_0f7a4_24 : decode cJ6_bitCount_0f7a4 24 = .ok (.iload_n 0, 1) := by decide +kernel
theorem dJ6_bitCount_0f7a4_25 : decode cJ6_bitCount_0f7a4 25 = .ok (.iload_n 0, 1) := by decide +kernel
theorem dJ6_bitCount_0f7a4_26 : decode cJ6_bitCount_0f7a4 26 = .ok (.iconst 4, 1) := by decide +kernel
theorem dJ6_bitCount_0f7a4_27 : decode cJ6_bitCount_0f7a4 27 = .ok (.iushr, 1) := by decide +kernel
theorem dJ6_bitCount_0f7a4_28 : decode cJ6_bitCount_0f7a4 28 = .ok (.iadd, 1) := by decide +kernel
theorem dJ6_bitCount_0f7a4_29 : decode cJ6_bitCount_0f7a4 29 = .ok (.ldc_w 267, 3) := by decide +kernel
theorem dJ6_bitCount_0f7a4_32 : decode cJ6_bitCount_0f7a4 32 = .ok (.iand, 1) := by decide +kernel
theorem dJ6_bitCount_0f7a4_33 : decode cJ6_bitCount_0f7a4 33 = .ok (.istore_n 0, 1) := by decide +kernel
theorem dJ6_bitCount_0f7a4_34 : decode cJ6_bitCount_0f7a4 34 = .ok (.iload_n 0, 1) := by decide +kernel
theorem dJ6_bitCount_0f7a4_35 : decode cJ6_bitCount_0f7a4 35 = .ok (.iload_n 0, 1) := by decide +kernel
theorem dJ6_bitCount_0f7a4_36 : decode cJ6_bitCount_0f7a4 36 = .ok (.bipush 8, 2) := by decide +kernel
theorem dJ6_bitCount_0f7a4_38 : decode cJ6_bitCount_0f7a4 38 = .ok (.iushr, 1) := by decide +kernel
theorem dJ6_bitCount_0f7a4_39 : decode cJ6_bitCount_0f7a4 39 = .ok (.iadd, 1) := by decide +kernel
theorem dJ6_bitCount_0f7a4_40 : decode cJ6_bitCount_0f7a4 40 = .ok (.istore_n 0, 1) := by decide +kernel
theorem dJ6_bitCount_0f7a4_41 : decode cJ6_bitCount_0f7a4 41 = .ok (.iload_n 0, 1) := by decide +kernel
theorem dJ6_bitCount_0f7a4_42 : decode cJ6_bitCount_0f7a4 42 = .ok (.iload_n 0, 1) := by decide +kernel
theorem dJ6_bitCount_0f7a4_43 : decode cJ6_bitCount_0f7a4 43 = .ok (.bipush 16, 2) := by decide +kernel
theorem dJ6_bitCount_0f7a4_45 : decode cJ6_bitCount_0f7a4 45 = .ok (.iushr, 1) := by decide +kernel
theorem dJ6_bitCount_0f7a4_46 : decode cJ6_bitCount_0f7a4 46 = .ok (.iadd, 1) := by decide +kernel
theorem dJ6_bitCount_0f7a4_47 : decode cJ6_bitCount_0f7a4 47 = .ok (.istore_n 0, 1) := by decide +kernel
theorem dJ6_bitCount_0f7a4_48 : decode cJ6_bitCount_0f7a4 48 = .ok (.iload_n 0, 1) := by decide +kernel
theorem dJ6_bitCount_0f7a4_49 : decode cJ6_bitCount_0f7a4 49 = .ok (.bipush 63, 2) := by decide +kernel
theorem dJ6_bitCount_0f7a4_51 : decode cJ6_bitCount_0f7a4 51 = .ok (.iand, 1) := by decide +kernel
theorem dJ6_bitCount_0f7a4_52 : decode cJ6_bitCount_0f7a4 52 = .ok (.ireturn, 1) := by decide +kernel
theorem dJ9_abs_067f4_0 : decode cJ9_abs_067f4 0 = .ok (.lload_n 0, 1) := by decide +kernel
theorem dJ9_abs_067f4_1 : decode cJ9_abs_067f4 1 = .ok (.lconst 0, 1) := by decide +kernel
theorem dJ9_abs_067f4_2 : decode cJ9_abs_067f4 2 = .ok (.lcmp, 1) := by decide +kernel
theorem dJ9_abs_067f4_3 : decode cJ9_abs_067f4 3 = .ok (.ifCond .ge 8, 3) := by decide +kernel
theorem dJ9_abs_067f4_6 : decode cJ9_abs_067f4 6 = .ok (.lload_n 0, 1) := by decide +kernel
theorem dJ9_abs_067f4_7 : decode cJ9_abs_067f4 7 = .ok (.lneg, 1) := by decide +kernel
theorem dJ9_abs_067f4_8 : decode cJ9_abs_067f4 8 = .ok (.goto 4, 3) := by decide +kernel
theorem dJ9_abs_067f4_11 : decode cJ9_abs_067f4 11 = .ok (.lload_n 0, 1) := by decide +kernel
theorem dJ9_abs_067f4_12 : decode cJ9_abs_067f4 12 = .ok (.lreturn, 1) := by decide +kernel
theorem dJ9_max_7cf53_0 : decode cJ9_max_7cf53 0 = .ok (.iload_n 0, 1) := by decide +kernel
theorem dJ9_max_7cf53_1 : decode cJ9_max_7cf53 1 = .ok (.iload_n 1, 1) := by decide +kernel
theorem dJ9_max_7cf53_2 : decode cJ9_max_7cf53 2 = .ok (.if_icmp .lt 7, 3) := by decide +kernel
theorem dJ9_max_7cf53_5 : decode cJ9_max_7cf53 5 = .ok (.iload_n 0, 1) := by decide +kernel
theorem dJ9_max_7cf53_6 : decode cJ9_max_7cf53 6 = .ok (.goto 4, 3) := by decide +kernel
theorem dJ9_max_7cf53_9 : decode cJ9_max_7cf53 9 = .ok (.iload_n 1, 1) := by decide +kernel
theorem dJ9_max_7cf53_10 : decode cJ9_max_7cf53 10 = .ok (.ireturn, 1) := by decide +kernel
theorem dJ9_min_7cf53_0 : decode cJ9_min_7cf53 0 = .ok (.iload_n 0, 1) := by decide +kernel
theorem dJ9_min_7cf53_1 : decode cJ9_min_7cf53 1 = .ok (.iload_n 1, 1) := by decide +kernel
theorem dJ9_min_7cf53_2 : decode cJ9_min_7cf53 2 = .ok (.if_icmp .gt 7, 3) := by decide +kernel
theorem dJ9_min_7cf53_5 : decode cJ9_min_7cf53 5 = .ok (.iload_n 0, 1) := by decide +kernel
theorem dJ9_min_7cf53_6 : decode cJ9_min_7cf53 6 = .ok (.goto 4, 3) := by decide +kernel
theorem dJ9_min_7cf53_9 : decode cJ9_min_7cf53 9 = .ok (.iload_n 1, 1) := by decide +kernel
theorem dJ9_min_7cf53_10 : decode cJ9_min_7cf53 10 = .ok (.ireturn, 1) := by decide +kernel
theorem dJ0_length_8abf5_0 : decode cJ0_length_8abf5 0 = .ok (.aload_n 0, 1) := by decide +kernel
theorem dJ0_length_8abf5_1 : decode cJ0_length_8abf5 1 = .ok (.getfield 9, 3) := by decide +kernel
theorem dJ0_length_8abf5_4 : decode cJ0_length_8abf5 4 = .ok (.arraylength, 1) := by decide +kernel
theorem dJ0_length_8abf5_5 : decode cJ0_length_8abf5 5 = .ok (.aload_n 0, 1) := by decide +kernel
theorem dJ0_length_8abf5_6 : decode cJ0_length_8abf5 6 = .ok (.invokevirtual 335, 3) := by decide +kernel
theorem dJ0_length_8abf5_9 : decode cJ0_length_8abf5 9 = .ok (.ishr, 1) := by decide +kernel
theorem dJ0_length_8abf5_10 : decode cJ0_length_8abf5 10 = .ok (.ireturn, 1) := by decide +kernel
theorem dJ0_charAt_5068e_0 : decode cJ0_charAt_5068e 0 = .ok (.aload_n 0, 1) := by decide +kernel
theorem dJ0_charAt_5068e_1 : decode cJ0_charAt_5068e 1 = .ok (.invokevirtual 492, 3) := by decide +kernel
theorem dJ0_charAt_5068e_4 : decode cJ0_charAt_5068e 4 = .ok (.ifCond .eq 12, 3) := by decide +kernel
theorem dJ0_charAt_5068e_7 : decode cJ0_charAt_5068e 7 = .ok (.aload_n 0, 1) := by decide +kernel
theorem dJ0_charAt_5068e_8 : decode cJ0_charAt_5068e 8 = .ok (.getfield 9, 3) := by decide +kernel
theorem dJ0_charAt_5068e_11 : decode cJ0_charAt_5068e 11 = .ok (.iload_n 1, 1) := by decide +kernel
theorem dJ0_charAt_5068e_12 : decode cJ0_charAt_5068e 12 = .ok (.invokestatic 495, 3) := by decide +kernel
theorem dJ0_charAt_5068e_15 : decode cJ0_charAt_5068e 15 = .ok (.ireturn, 1) := by decide +kernel
theorem dJ0_charAt_5068e_16 : decode cJ0_charAt_5068e 16 = .ok (.aload_n 0, 1) := by decide +kernel
theorem dJ0_charAt_5068e_17 : decode cJ0_charAt_5068e 17 = .ok (.getfield 9, 3) := by decide +kernel
theorem dJ0_charAt_5068e_20 : decode cJ0_charAt_5068e 20 = .ok (.iload_n 1, 1) := by decide +kernel
theorem dJ0_charAt_5068e_21 : decode cJ0_charAt_5068e 21 = .ok (.invokestatic 498, 3) := by decide +kernel
theorem dJ0_charAt_5068e_24 : decode cJ0_charAt_5068e 24 = .ok (.ireturn, 1) := by decide +kernel
theorem dJ0_coder_7d493_0 : decode cJ0_coder_7d493 0 = .ok (.getstatic 38, 3) := by decide +kernel
theorem dJ0_coder_7d493_3 : decode cJ0_coder_7d493 3 = .ok (.ifCond .eq 10, 3) := by decide +kernel
theorem dJ0_coder_7d493_6 : decode cJ0_coder_7d493 6 = .ok (.aload_n 0, 1) := by decide +kernel
theorem dJ0_coder_7d493_7 : decode cJ0_coder_7d493 7 = .ok (.getfield 15, 3) := by decide +kernel
theorem dJ0_coder_7d493_10 : decode cJ0_coder_7d493 10 = .ok (.goto 4, 3) := by decide +kernel
theorem dJ0_coder_7d493_13 : decode cJ0_coder_7d493 13 = .ok (.iconst 1, 1) := by decide +kernel
theorem dJ0_coder_7d493_14 : decode cJ0_coder_7d493 14 = .ok (.ireturn, 1) := by decide +kernel
theorem dJ0_isLatin1_aae02_0 : decode cJ0_isLatin1_aae02 0 = .ok (.getstatic 38, 3) := by decide +kernel
theorem dJ0_isLatin1_aae02_3 : decode cJ0_isLatin1_aae02 3 = .ok (.ifCond .eq 14, 3) := by decide +kernel
theorem dJ0_isLatin1_aae02_6 : decode cJ0_isLatin1_aae02 6 = .ok (.aload_n 0, 1) := by decide +kernel
theorem dJ0_isLatin1_aae02_7 : decode cJ0_isLatin1_aae02 7 = .ok (.getfield 15, 3) := by decide +kernel
theorem dJ0_isLatin1_aae02_10 : decode cJ0_isLatin1_aae02 10 = .ok (.ifCond .ne 7, 3) := by decide +kernel
theorem dJ0_isLatin1_aae02_13 : decode cJ0_isLatin1_aae02 13 = .ok (.iconst 1, 1) := by decide +kernel
theorem dJ0_isLatin1_aae02_14 : decode cJ0_isLatin1_aae02 14 = .ok (.goto 4, 3) := by decide +kernel
theorem dJ0_isLatin1_aae02_17 : decode cJ0_isLatin1_aae02 17 = .ok (.iconst 0, 1) := by decide +kernel
theorem dJ0_isLatin1_aae02_18 : decode cJ0_isLatin1_aae02 18 = .ok (.ireturn, 1) := by decide +kernel
theorem dJ0_checkIndex_df160_0 : decode cJ0_checkIndex_df160 0 = .ok (.iload_n 0, 1) := by decide +kernel
theorem dJ0_checkIndex_df160_1 : decode cJ0_checkIndex_df160 1 = .ok (.iload_n 1, 1) := by decide +kernel
theorem dJ0_checkIndex_df160_2 : decode cJ0_checkIndex_df160 2 = .ok (.getstatic 1053, 3) := by decide +kernel
theorem dJ0_checkIndex_df160_5 : decode cJ0_checkIndex_df160 5 = .ok (.invokestatic 1059, 3) := by decide +kernel
theorem dJ0_checkIndex_df160_8 : decode cJ0_checkIndex_df160 8 = .ok (.pop, 1) := by decide +kernel
theorem dJ0_checkIndex_df160_9 : decode cJ0_checkIndex_df160 9 = .ok (.return_, 1) := by decide +kernel
theorem dJ1_charAt_3b067_0 : decode cJ1_charAt_3b067 0 = .ok (.iload_n 1, 1) := by decide +kernel
theorem dJ1_charAt_3b067_1 : decode cJ1_charAt_3b067 1 = .ok (.aload_n 0, 1) := by decide +kernel
theorem dJ1_charAt_3b067_2 : decode cJ1_charAt_3b067 2 = .ok (.arraylength, 1) := by decide +kernel
theorem dJ1_charAt_3b067_3 : decode cJ1_charAt_3b067 3 = .ok (.invokestatic 9, 3) := by decide +kernel
theorem dJ1_charAt_3b067_6 : decode cJ1_charAt_3b067 6 = .ok (.aload_n 0, 1) := by decide +kernel
theorem dJ1_charAt_3b067_7 : decode cJ1_charAt_3b067 7 = .ok (.iload_n 1, 1) := by decide +kernel
theorem dJ1_charAt_3b067_8 : decode cJ1_charAt_3b067 8 = .ok (.baload, 1) := by decide +kernel
theorem dJ1_charAt_3b067_9 : decode cJ1_charAt_3b067 9 = .ok (.sipush 255, 3) := by decide +kernel
theorem dJ1_charAt_3b067_12 : decode cJ1_charAt_3b067 12 = .ok (.iand, 1) := by decide +kernel
theorem dJ1_charAt_3b067_13 : decode cJ1_charAt_3b067 13 = .ok (.i2c, 1) := by decide +kernel
theorem dJ1_charAt_3b067_14 : decode cJ1_charAt_3b067 14 = .ok (.ireturn, 1) := by decide +kernel
theorem dJ2_getChar_3b067_0 : decode cJ2_getChar_3b067 0 = .ok (.getstatic 44, 3) := by decide +kernel
theorem dJ2_getChar_3b067_3 : decode cJ2_getChar_3b067 3 = .ok (.ifCond .ne 25, 3) := by decide +kernel
theorem dJ2_getChar_3b067_6 : decode cJ2_getChar_3b067 6 = .ok (.iload_n 1, 1) := by decide +kernel
theorem dJ2_getChar_3b067_7 : decode cJ2_getChar_3b067 7 = .ok (.ifCond .lt 11, 3) := by decide +kernel
theorem dJ2_getChar_3b067_10 : decode cJ2_getChar_3b067 10 = .ok (.iload_n 1, 1) := by decide +kernel
theorem dJ2_getChar_3b067_11 : decode cJ2_getChar_3b067 11 = .ok (.aload_n 0, 1) := by decide +kernel
theorem dJ2_getChar_3b067_12 : decode cJ2_getChar_3b067 12 = .ok (.invokestatic 48, 3) := by decide +kernel
theorem dJ2_getChar_3b067_15 : decode cJ2_getChar_3b067 15 = .ok (.if_icmp .lt 13, 3) := by decide +kernel
theorem dJ2_getChar_3b067_18 : decode cJ2_getChar_3b067 18 = .ok (.new 52, 3) := by decide +kernel
theorem dJ2_getChar_3b067_21 : decode cJ2_getChar_3b067 21 = .ok (.dup, 1) := by decide +kernel
theorem dJ2_getChar_3b067_22 : decode cJ2_getChar_3b067 22 = .ok (.ldc 54, 2) := by decide +kernel
theorem dJ2_getChar_3b067_24 : decode cJ2_getChar_3b067 24 = .ok (.invokespecial 56, 3) := by decide +kernel
theorem dJ2_getChar_3b067_27 : decode cJ2_getChar_3b067 27 = .ok (.athrow, 1) := by decide +kernel
theorem dJ2_getChar_3b067_28 : decode cJ2_getChar_3b067 28 = .ok (.iload_n 1, 1) := by decide +kernel
theorem dJ2_getChar_3b067_29 : decode cJ2_getChar_3b067 29 = .ok (.iconst 1, 1) := by decide +kernel
theorem dJ2_getChar_3b067_30 : decode cJ2_getChar_3b067 30 = .ok (.ishl, 1) := by decide +kernel
theorem dJ2_getChar_3b067_31 : decode cJ2_getChar_3b067 31 = .ok (.istore_n 1, 1) := by decide +kernel
theorem dJ2_getChar_3b067_32 : decode cJ2_getChar_3b067 32 = .ok (.aload_n 0, 1) := by decide +kernel
theorem dJ2_getChar_3b067_33 : decode cJ2_getChar_3b067 33 = .ok (.iload_n 1, 1) := by decide +kernel
theorem dJ2_getChar_3b067_34 : decode cJ2_getChar_3b067 34 = .ok (.iinc 1 1, 3) := by decide +kernel
theorem dJ2_getChar_3b067_37 : decode cJ2_getChar_3b067 37 = .ok (.baload, 1) := by decide +kernel
theorem dJ2_getChar_3b067_38 : decode cJ2_getChar_3b067 38 = .ok (.sipush 255, 3) := by decide +kernel
theorem dJ2_getChar_3b067_41 : decode cJ2_getChar_3b067 41 = .ok (.iand, 1) := by decide +kernel
theorem dJ2_getChar_3b067_42 : decode cJ2_getChar_3b067 42 = .ok (.getstatic 59, 3) := by decide +kernel
theorem dJ2_getChar_3b067_45 : decode cJ2_getChar_3b067 45 = .ok (.ishl, 1) := by decide +kernel
theorem dJ2_getChar_3b067_46 : decode cJ2_getChar_3b067 46 = .ok (.aload_n 0, 1) := by decide +kernel
theorem dJ2_getChar_3b067_47 : decode cJ2_getChar_3b067 47 = .ok (.iload_n 1, 1) := by decide +kernel
theorem dJ2_getChar_3b067_48 : decode cJ2_getChar_3b067 48 = .ok (.baload, 1) := by decide +kernel
theorem dJ2_getChar_3b067_49 : decode cJ2_getChar_3b067 49 = .ok (.sipush 255, 3) := by decide +kernel
theorem dJ2_getChar_3b067_52 : decode cJ2_getChar_3b067 52 = .ok (.iand, 1) := by decide +kernel
theorem dJ2_getChar_3b067_53 : decode cJ2_getChar_3b067 53 = .ok (.getstatic 63, 3) := by decide +kernel
theorem dJ2_getChar_3b067_56 : decode cJ2_getChar_3b067 56 = .ok (.ishl, 1) := by decide +kernel
theorem dJ2_getChar_3b067_57 : decode cJ2_getChar_3b067 57 = .ok (.ior, 1) := by decide +kernel
theorem dJ2_getChar_3b067_58 : decode cJ2_getChar_3b067 58 = .ok (.i2c, 1) := by decide +kernel
theorem dJ2_getChar_3b067_59 : decode cJ2_getChar_3b067 59 = .ok (.ireturn, 1) := by decide +kernel
theorem dJ2_length_9d52b_0 : decode cJ2_length_9d52b 0 = .ok (.aload_n 0, 1) := by decide +kernel
theorem dJ2_length_9d52b_1 : decode cJ2_length_9d52b 1 = .ok (.arraylength, 1) := by decide +kernel
theorem dJ2_length_9d52b_2 : decode cJ2_length_9d52b 2 = .ok (.iconst 1, 1) := by decide +kernel
theorem dJ2_length_9d52b_3 : decode cJ2_length_9d52b 3 = .ok (.ishr, 1) := by decide +kernel
theorem dJ2_length_9d52b_4 : decode cJ2_length_9d52b 4 = .ok (.ireturn, 1) := by decide +kernel
theorem dJ2_charAt_3b067_0 : decode cJ2_charAt_3b067 0 = .ok (.iload_n 1, 1) := by decide +kernel
theorem dJ2_charAt_3b067_1 : decode cJ2_charAt_3b067 1 = .ok (.aload_n 0, 1) := by decide +kernel
theorem dJ2_charAt_3b067_2 : decode cJ2_charAt_3b067 2 = .ok (.invokestatic 67, 3) := by decide +kernel
theorem dJ2_charAt_3b067_5 : decode cJ2_charAt_3b067 5 = .ok (.aload_n 0, 1) := by decide +kernel
theorem dJ2_charAt_3b067_6 : decode cJ2_charAt_3b067 6 = .ok (.iload_n 1, 1) := by decide +kernel
theorem dJ2_charAt_3b067_7 : decode cJ2_charAt_3b067 7 = .ok (.invokestatic 71, 3) := by decide +kernel
theorem dJ2_charAt_3b067_10 : decode cJ2_charAt_3b067 10 = .ok (.ireturn, 1) := by decide +kernel
theorem dJ2_checkIndex_2214a_0 : decode cJ2_checkIndex_2214a 0 = .ok (.iload_n 0, 1) := by decide +kernel
theorem dJ2_checkIndex_2214a_1 : decode cJ2_checkIndex_2214a 1 = .ok (.aload_n 1, 1) := by decide +kernel
theorem dJ2_checkIndex_2214a_2 : decode cJ2_checkIndex_2214a 2 = .ok (.invokestatic 48, 3) := by decide +kernel
theorem dJ2_checkIndex_2214a_5 : decode cJ2_checkIndex_2214a 5 = .ok (.invokestatic 414, 3) := by decide +kernel
theorem dJ2_checkIndex_2214a_8 : decode cJ2_checkIndex_2214a 8 = .ok (.return_, 1) := by decide +kernel
theorem dJ3_checkIndex_8e157_0 : decode cJ3_checkIndex_8e157 0 = .ok (.iload_n 0, 1) := by decide +kernel
theorem dJ3_checkIndex_8e157_1 : decode cJ3_checkIndex_8e157 1 = .ok (.ifCond .lt 8, 3) := by decide +kernel
theorem dJ3_checkIndex_8e157_4 : decode cJ3_checkIndex_8e157 4 = .ok (.iload_n 0, 1) := by decide +kernel
theorem dJ3_checkIndex_8e157_5 : decode cJ3_checkIndex_8e157 5 = .ok (.iload_n 1, 1) := by decide +kernel
theorem dJ3_checkIndex_8e157_6 : decode cJ3_checkIndex_8e157 6 = .ok (.if_icmp .lt 10, 3) := by decide +kernel
theorem dJ3_checkIndex_8e157_9 : decode cJ3_checkIndex_8e157 9 = .ok (.aload_n 2, 1) := by decide +kernel
theorem dJ3_checkIndex_8e157_10 : decode cJ3_checkIndex_8e157 10 = .ok (.iload_n 0, 1) := by decide +kernel
theorem dJ3_checkIndex_8e157_11 : decode cJ3_checkIndex_8e157 11 = .ok (.iload_n 1, 1) := by decide +kernel
theorem dJ3_checkIndex_8e157_12 : decode cJ3_checkIndex_8e157 12 = .ok (.invokestatic 95, 3) := by decide +kernel
theorem dJ3_checkIndex_8e157_15 : decode cJ3_checkIndex_8e157 15 = .ok (.athrow, 1) := by decide +kernel
theorem dJ3_checkIndex_8e157_16 : decode cJ3_checkIndex_8e157 16 = .ok (.iload_n 0, 1) := by decide +kernel
theorem dJ3_checkIndex_8e157_17 : decode cJ3_checkIndex_8e157 17 = .ok (.ireturn, 1) := by decide +kernel
theorem dL_law_0 : decode cL_law 0 = .ok (.new 7, 3) := by decide +kernel
theorem dL_law_3 : decode cL_law 3 = .ok (.dup, 1) := by decide +kernel
theorem dL_law_4 : decode cL_law 4 = .ok (.invokespecial 9, 3) := by decide +kernel
theorem dL_law_7 : decode cL_law 7 = .ok (.astore_n 1, 1) := by decide +kernel
theorem dL_law_8 : decode cL_law 8 = .ok (.new 10, 3) := by decide +kernel
theorem dL_law_11 : decode cL_law 11 = .ok (.dup, 1) := by decide +kernel
theorem dL_law_12 : decode cL_law 12 = .ok (.invokespecial 12, 3) := by decide +kernel
theorem dL_law_15 : decode cL_law 15 = .ok (.astore_n 2, 1) := by decide +kernel
theorem dL_law_16 : decode cL_law 16 = .ok (.iconst 0, 1) := by decide +kernel
theorem dL_law_17 : decode cL_law 17 = .ok (.istore_n 3, 1) := by decide +kernel
theorem dL_law_18 : decode cL_law 18 = .ok (.iload_n 3, 1) := by decide +kernel
theorem dL_law_19 : decode cL_law 19 = .ok (.aload_n 0, 1) := by decide +kernel
theorem dL_law_20 : decode cL_law 20 = .ok (.arraylength, 1) := by decide +kernel
theorem dL_law_21 : decode cL_law 21 = .ok (.bipush 6, 2) := by decide +kernel
theorem dL_law_23 : decode cL_law 23 = .ok (.isub, 1) := by decide +kernel
theorem dL_law_24 : decode cL_law 24 = .ok (.if_icmp .gt 1655, 3) := by decide +kernel
theorem dL_law_27 : decode cL_law 27 = .ok (.aload_n 0, 1) := by decide +kernel
theorem dL_law_28 : decode cL_law 28 = .ok (.iload_n 3, 1) := by decide +kernel
theorem dL_law_29 : decode cL_law 29 = .ok (.iaload, 1) := by decide +kernel
theorem dL_law_30 : decode cL_law 30 = .ok (.bipush 63, 2) := by decide +kernel
theorem dL_law_32 : decode cL_law 32 = .ok (.iand, 1) := by decide +kernel
theorem dL_law_33 : decode cL_law 33 = .ok (.tableswitch 1640 0 49 #[215, 228, 242, 256, 299, 372, 406, 469, 532, 555, 578, 601, 624, 657, 690, 713, 736, 769, 802, 815, 828, 851, 884, 917, 950, 983, 1016, 1049, 1072, 1105, 1128, 1141, 1165, 1208, 1271, 1304, 1318, 1341, 1364, 1387, 1410, 1423, 1446, 1479, 1502, 1525, 1558, 1591, 1614, 1627], 215) := by decide +kernel
theorem dL_law_248 : decode cL_law 248 = .ok (.aload_n 1, 1) := by decide +kernel
theorem dL_law_249 : decode cL_law 249 = .ok (.invokevirtual 13, 3) := by decide +kernel
theorem dL_law_252 : decode cL_law 252 = .ok (.aload_n 2, 1) := by decide +kernel
theorem dL_law_253 : decode cL_law 253 = .ok (.invokevirtual 17, 3) := by decide +kernel
theorem dL_law_256 : decode cL_law 256 = .ok (.if_icmp .eq 1417, 3) := by decide +kernel
theorem dL_law_259 : decode cL_law 259 = .ok (.iconst 0, 1) := by decide +kernel
theorem dL_law_260 : decode cL_law 260 = .ok (.ireturn, 1) := by decide +kernel
theorem dL_law_261 : decode cL_law 261 = .ok (.aload_n 1, 1) := by decide +kernel
theorem dL_law_262 : decode cL_law 262 = .ok (.invokevirtual 18, 3) := by decide +kernel
theorem dL_law_265 : decode cL_law 265 = .ok (.aload_n 2, 1) := by decide +kernel
theorem dL_law_266 : decode cL_law 266 = .ok (.invokevirtual 22, 3) := by decide +kernel
theorem dL_law_269 : decode cL_law 269 = .ok (.lcmp, 1) := by decide +kernel
theorem dL_law_270 : decode cL_law 270 = .ok (.ifCond .eq 1403, 3) := by decide +kernel
theorem dL_law_273 : decode cL_law 273 = .ok (.iconst 0, 1) := by decide +kernel
theorem dL_law_274 : decode cL_law 274 = .ok (.ireturn, 1) := by decide +kernel
theorem dL_law_275 : decode cL_law 275 = .ok (.aload_n 1, 1) := by decide +kernel
theorem dL_law_276 : decode cL_law 276 = .ok (.invokevirtual 23, 3) := by decide +kernel
theorem dL_law_279 : decode cL_law 279 = .ok (.aload_n 2, 1) := by decide +kernel
theorem dL_law_280 : decode cL_law 280 = .ok (.invokevirtual 26, 3) := by decide +kernel
theorem dL_law_283 : decode cL_law 283 = .ok (.lcmp, 1) := by decide +kernel
theorem dL_law_284 : decode cL_law 284 = .ok (.ifCond .eq 1389, 3) := by decide +kernel
theorem dL_law_287 : decode cL_law 287 = .ok (.iconst 0, 1) := by decide +kernel
theorem dL_law_288 : decode cL_law 288 = .ok (.ireturn, 1) := by decide +kernel
theorem dL_law_289 : decode cL_law 289 = .ok (.aload_n 1, 1) := by decide +kernel
theorem dL_law_290 : decode cL_law 290 = .ok (.aload_n 0, 1) := by decide +kernel
theorem dL_law_291 : decode cL_law 291 = .ok (.iload_n 3, 1) := by decide +kernel
theorem dL_law_292 : decode cL_law 292 = .ok (.iconst 1, 1) := by decide +kernel
theorem dL_law_293 : decode cL_law 293 = .ok (.iadd, 1) := by decide +kernel
theorem dL_law_294 : decode cL_law 294 = .ok (.iaload, 1) := by decide +kernel
theorem dL_law_295 : decode cL_law 295 = .ok (.aload_n 0, 1) := by decide +kernel
theorem dL_law_296 : decode cL_law 296 = .ok (.iload_n 3, 1) := by decide +kernel
theorem dL_law_297 : decode cL_law 297 = .ok (.iconst 2, 1) := by decide +kernel
theorem dL_law_298 : decode cL_law 298 = .ok (.iadd, 1) := by decide +kernel
theorem dL_law_299 : decode cL_law 299 = .ok (.iaload, 1) := by decide +kernel
theorem dL_law_300 : decode cL_law 300 = .ok (.aload_n 0, 1) := by decide +kernel
theorem dL_law_301 : decode cL_law 301 = .ok (.iload_n 3, 1) := by decide +kernel
theorem dL_law_302 : decode cL_law 302 = .ok (.iconst 3, 1) := by decide +kernel
theorem dL_law_303 : decode cL_law 303 = .ok (.iadd, 1) := by decide +kernel
theorem dL_law_304 : decode cL_law 304 = .ok (.iaload, 1) := by decide +kernel
theorem dL_law_305 : decode cL_law 305 = .ok (.invokevirtual 27, 3) := by decide +kernel
theorem dL_law_308 : decode cL_law 308 = .ok (.aload_n 2, 1) := by decide +kernel
theorem dL_law_309 : decode cL_law 309 = .ok (.aload_n 0, 1) := by decide +kernel
theorem dL_law_310 : decode cL_law 310 = .ok (.iload_n 3, 1) := by decide +kernel
theorem dL_law_311 : decode cL_law 311 = .ok (.iconst 1, 1) := by decide +kernel
theorem dL_law_312 : decode cL_law 312 = .ok (.iadd, 1) := by decide +kernel
theorem dL_law_313 : decode cL_law 313 = .ok (.iaload, 1) := by decide +kernel
theorem dL_law_314 : decode cL_law 314 = .ok (.aload_n 0, 1) := by decide +kernel
theorem dL_law_315 : decode cL_law 315 = .ok (.iload_n 3, 1) := by decide +kernel
theorem dL_law_316 : decode cL_law 316 = .ok (.iconst 2, 1) := by decide +kernel
theorem dL_law_317 : decode cL_law 317 = .ok (.iadd, 1) := by decide +kernel
theorem dL_law_318 : decode cL_law 318 = .ok (.iaload, 1) := by decide +kernel
theorem dL_law_319 : decode cL_law 319 = .ok (.aload_n 0, 1) := by decide +kernel
theorem dL_law_320 : decode cL_law 320 = .ok (.iload_n 3, 1) := by decide +kernel
theorem dL_law_321 : decode cL_law 321 = .ok (.iconst 3, 1) := by decide +kernel
theorem dL_law_322 : decode cL_law 322 = .ok (.iadd, 1) := by decide +kernel
theorem dL_law_323 : decode cL_law 323 = .ok (.iaload, 1) := by decide +kernel
theorem dL_law_324 : decode cL_law 324 = .ok (.invokevirtual 31, 3) := by decide +kernel
theorem dL_law_327 : decode cL_law 327 = .ok (.if_icmp .eq 1346, 3) := by decide +kernel
theorem dL_law_330 : decode cL_law 330 = .ok (.iconst 0, 1) := by decide +kernel
theorem dL_law_331 : decode cL_law 331 = .ok (.ireturn, 1) := by decide +kernel
theorem dL_law_332 : decode cL_law 332 = .ok (.aload_n 1, 1) := by decide +kernel
theorem dL_law_333 : decode cL_law 333 = .ok (.aload_n 0, 1) := by decide +kernel
theorem dL_law_334 : decode cL_law 334 = .ok (.iload_n 3, 1) := by decide +kernel
theorem dL_law_335 : decode cL_law 335 = .ok (.iconst 1, 1) := by decide +kernel
theorem dL_law_336 : decode cL_law 336 = .ok (.iadd, 1) := by decide +kernel
theorem dL_law_337 : decode cL_law 337 = .ok (.iaload, 1) := by decide +kernel
theorem dL_law_338 : decode cL_law 338 = .ok (.aload_n 0, 1) := by decide +kernel
theorem dL_law_339 : decode cL_law 339 = .ok (.iload_n 3, 1) := by decide +kernel
theorem dL_law_340 : decode cL_law 340 = .ok (.iconst 2, 1) := by decide +kernel
theorem dL_law_341 : decode cL_law 341 = .ok (.iadd, 1) := by decide +kernel
theorem dL_law_342 : decode cL_law 342 = .ok (.iaload, 1) := by decide +kernel
theorem dL_law_343 : decode cL_law 343 = .ok (.aload_n 0, 1) := by decide +kernel
theorem dL_law_344 : decode cL_law 344 = .ok (.iload_n 3, 1) := by decide +kernel
theorem dL_law_345 : decode cL_law 345 = .ok (.iconst 3, 1) := by decide +kernel
theorem dL_law_346 : decode cL_law 346 = .ok (.iadd, 1) := by decide +kernel
theorem dL_law_347 : decode cL_law 347 = .ok (.iaload, 1) := by decide +kernel
theorem dL_law_348 : decode cL_law 348 = .ok (.i2l, 1) := by decide +kernel
theorem dL_law_349 : decode cL_law 349 = .ok (.bipush 32, 2) := by decide +kernel
theorem dL_law_351 : decode cL_law 351 = .ok (.lshl, 1) := by decide +kernel
theorem dL_law_352 : decode cL_law 352 = .ok (.aload_n 0, 1) := by decide +kernel
theorem dL_law_353 : decode cL_law 353 = .ok (.iload_n 3, 1) := by decide +kernel
theorem dL_law_354 : decode cL_law 354 = .ok (.iconst 4, 1) := by decide +kernel
theorem dL_law_355 : decode cL_law 355 = .ok (.iadd, 1) := by decide +kernel
theorem dL_law_356 : decode cL_law 356 = .ok (.iaload, 1) := by decide +kernel
theorem dL_law_357 : decode cL_law 357 = .ok (.i2l, 1) := by decide +kernel
theorem dL_law_358 : decode cL_law 358 = .ok (.ldc2_w 32, 3) := by decide +kernel
theorem dL_law_361 : decode cL_law 361 = .ok (.land, 1) := by decide +kernel
theorem dL_law_362 : decode cL_law 362 = .ok (.lor, 1) := by decide +kernel
theorem dL_law_363 : decode cL_law 363 = .ok (.invokevirtual 34, 3) := by decide +kernel
theorem dL_law_366 : decode cL_law 366 = .ok (.aload_n 2, 1) := by decide +kernel
theorem dL_law_367 : decode cL_law 367 = .ok (.aload_n 0, 1) := by decide +kernel
theorem dL_law_368 : decode cL_law 368 = .ok (.iload_n 3, 1) := by decide +kernel
theorem dL_law_369 : decode cL_law 369 = .ok (.iconst 1, 1) := by decide +kernel
theorem dL_law_370 : decode cL_law 370 = .ok (.iadd, 1) := by decide +kernel
theorem dL_law_371 : decode cL_law 371 = .ok (.iaload, 1) := by decide +kernel
theorem dL_law_372 : decode cL_law 372 = .ok (.aload_n 0, 1) := by decide +kernel
theorem dL_law_373 : decode cL_law 373 = .ok (.iload_n 3, 1) := by decide +kernel
theorem dL_law_374 : decode cL_law 374 = .ok (.iconst 2, 1) := by decide +kernel
theorem dL_law_375 : decode cL_law 375 = .ok (.iadd, 1) := by decide +kernel
theorem dL_law_376 : decode cL_law 376 = .ok (.iaload, 1) := by decide +kernel
theorem dL_law_377 : decode cL_law 377 = .ok (.aload_n 0, 1) := by decide +kernel
theorem dL_law_378 : decode cL_law 378 = .ok (.iload_n 3, 1) := by decide +kernel
theorem dL_law_379 : decode cL_law 379 = .ok (.iconst 3, 1) := by decide +kernel
theorem dL_law_380 : decode cL_law 380 = .ok (.iadd, 1) := by decide +kernel
theorem dL_law_381 : decode cL_law 381 = .ok (.iaload, 1) := by decide +kernel
theorem dL_law_382 : decode cL_law 382 = .ok (.i2l, 1) := by decide +kernel
theorem dL_law_383 : decode cL_law 383 = .ok (.bipush 32, 2) := by decide +kernel
theorem dL_law_385 : decode cL_law 385 = .ok (.lshl, 1) := by decide +kernel
theorem dL_law_386 : decode cL_law 386 = .ok (.aload_n 0, 1) := by decide +kernel
theorem dL_law_387 : decode cL_law 387 = .ok (.iload_n 3, 1) := by decide +kernel
theorem dL_law_388 : decode cL_law 388 = .ok (.iconst 4, 1) := by decide +kernel
theorem dL_law_389 : decode cL_law 389 = .ok (.iadd, 1) := by decide +kernel
theorem dL_law_390 : decode cL_law 390 = .ok (.iaload, 1) := by decide +kernel
theorem dL_law_391 : decode cL_law 391 = .ok (.i2l, 1) := by decide +kernel
theorem dL_law_392 : decode cL_law 392 = .ok (.ldc2_w 32, 3) := by decide +kernel
theorem dL_law_395 : decode cL_law 395 = .ok (.land, 1) := by decide +kernel
theorem dL_law_396 : decode cL_law 396 = .ok (.lor, 1) := by decide +kernel
theorem dL_law_397 : decode cL_law 397 = .ok (.invokevirtual 38, 3) := by decide +kernel
theorem dL_law_400 : decode cL_law 400 = .ok (.if_icmp .eq 1273, 3) := by decide +kernel
theorem dL_law_403 : decode cL_law 403 = .ok (.iconst 0, 1) := by decide +kernel
theorem dL_law_404 : decode cL_law 404 = .ok (.ireturn, 1) := by decide +kernel
theorem dL_law_405 : decode cL_law 405 = .ok (.aload_n 1, 1) := by decide +kernel
theorem dL_law_406 : decode cL_law 406 = .ok (.aload_n 0, 1) := by decide +kernel
theorem dL_law_407 : decode cL_law 407 = .ok (.iload_n 3, 1) := by decide +kernel
theorem dL_law_408 : decode cL_law 408 = .ok (.iconst 1, 1) := by decide +kernel
theorem dL_law_409 : decode cL_law 409 = .ok (.iadd, 1) := by decide +kernel
theorem dL_law_410 : decode cL_law 410 = .ok (.iaload, 1) := by decide +kernel
theorem dL_law_411 : decode cL_law 411 = .ok (.aload_n 0, 1) := by decide +kernel
theorem dL_law_412 : decode cL_law 412 = .ok (.iload_n 3, 1) := by decide +kernel
theorem dL_law_413 : decode cL_law 413 = .ok (.iconst 2, 1) := by decide +kernel
theorem dL_law_414 : decode cL_law 414 = .ok (.iadd, 1) := by decide +kernel
theorem dL_law_415 : decode cL_law 415 = .ok (.iaload, 1) := by decide +kernel
theorem dL_law_416 : decode cL_law 416 = .ok (.invokevirtual 39, 3) := by decide +kernel
theorem dL_law_419 : decode cL_law 419 = .ok (.aload_n 2, 1) := by decide +kernel
theorem dL_law_420 : decode cL_law 420 = .ok (.aload_n 0, 1) := by decide +kernel
theorem dL_law_421 : decode cL_law 421 = .ok (.iload_n 3, 1) := by decide +kernel
theorem dL_law_422 : decode cL_law 422 = .ok (.iconst 1, 1) := by decide +kernel
theorem dL_law_423 : decode cL_law 423 = .ok (.iadd, 1) := by decide +kernel
theorem dL_law_424 : decode cL_law 424 = .ok (.iaload, 1) := by decide +kernel
theorem dL_law_425 : decode cL_law 425 = .ok (.aload_n 0, 1) := by decide +kernel
theorem dL_law_426 : decode cL_law 426 = .ok (.iload_n 3, 1) := by decide +kernel
theorem dL_law_427 : decode cL_law 427 = .ok (.iconst 2, 1) := by decide +kernel
theorem dL_law_428 : decode cL_law 428 = .ok (.iadd, 1) := by decide +kernel
theorem dL_law_429 : decode cL_law 429 = .ok (.iaload, 1) := by decide +kernel
theorem dL_law_430 : decode cL_law 430 = .ok (.invokevirtual 43, 3) := by decide +kernel
theorem dL_law_433 : decode cL_law 433 = .ok (.lcmp, 1) := by decide +kernel
theorem dL_law_434 : decode cL_law 434 = .ok (.ifCond .eq 1239, 3) := by decide +kernel
theorem dL_law_437 : decode cL_law 437 = .ok (.iconst 0, 1) := by decide +kernel
theorem dL_law_438 : decode cL_law 438 = .ok (.ireturn, 1) := by decide +kernel
theorem dL_law_439 : decode cL_law 439 = .ok (.aload_n 1, 1) := by decide +kernel
theorem dL_law_440 : decode cL_law 440 = .ok (.aload_n 0, 1) := by decide +kernel
theorem dL_law_441 : decode cL_law 441 = .ok (.iload_n 3, 1) := by decide +kernel
theorem dL_law_442 : decode cL_law 442 = .ok (.iconst 1, 1) := by decide +kernel
theorem dL_law_443 : decode cL_law 443 = .ok (.iadd, 1) := by decide +kernel
theorem dL_law_444 : decode cL_law 444 = .ok (.iaload, 1) := by decide +kernel
theorem dL_law_445 : decode cL_law 445 = .ok (.aload_n 0, 1) := by decide +kernel
theorem dL_law_446 : decode cL_law 446 = .ok (.iload_n 3, 1) := by decide +kernel
theorem dL_law_447 : decode cL_law 447 = .ok (.iconst 2, 1) := by decide +kernel
theorem dL_law_448 : decode cL_law 448 = .ok (.iadd, 1) := by decide +kernel
theorem dL_law_449 : decode cL_law 449 = .ok (.iaload, 1) := by decide +kernel
theorem dL_law_450 : decode cL_law 450 = .ok (.aload_n 0, 1) := by decide +kernel
theorem dL_law_451 : decode cL_law 451 = .ok (.iload_n 3, 1) := by decide +kernel
theorem dL_law_452 : decode cL_law 452 = .ok (.iconst 3, 1) := by decide +kernel
theorem dL_law_453 : decode cL_law 453 = .ok (.iadd, 1) := by decide +kernel
theorem dL_law_454 : decode cL_law 454 = .ok (.iaload, 1) := by decide +kernel
theorem dL_law_455 : decode cL_law 455 = .ok (.aload_n 0, 1) := by decide +kernel
theorem dL_law_456 : decode cL_law 456 = .ok (.iload_n 3, 1) := by decide +kernel
theorem dL_law_457 : decode cL_law 457 = .ok (.iconst 4, 1) := by decide +kernel
theorem dL_law_458 : decode cL_law 458 = .ok (.iadd, 1) := by decide +kernel
theorem dL_law_459 : decode cL_law 459 = .ok (.iaload, 1) := by decide +kernel
theorem dL_law_460 : decode cL_law 460 = .ok (.aload_n 0, 1) := by decide +kernel
theorem dL_law_461 : decode cL_law 461 = .ok (.iload_n 3, 1) := by decide +kernel
theorem dL_law_462 : decode cL_law 462 = .ok (.iconst 5, 1) := by decide +kernel
theorem dL_law_463 : decode cL_law 463 = .ok (.iadd, 1) := by decide +kernel
theorem dL_law_464 : decode cL_law 464 = .ok (.iaload, 1) := by decide +kernel
theorem dL_law_465 : decode cL_law 465 = .ok (.invokevirtual 44, 3) := by decide +kernel
theorem dL_law_468 : decode cL_law 468 = .ok (.aload_n 2, 1) := by decide +kernel
theorem dL_law_469 : decode cL_law 469 = .ok (.aload_n 0, 1) := by decide +kernel
theorem dL_law_470 : decode cL_law 470 = .ok (.iload_n 3, 1) := by decide +kernel
theorem dL_law_471 : decode cL_law 471 = .ok (.iconst 1, 1) := by decide +kernel
theorem dL_law_472 : decode cL_law 472 = .ok (.iadd, 1) := by decide +kernel
theorem dL_law_473 : decode cL_law 473 = .ok (.iaload, 1) := by decide +kernel
theorem dL_law_474 : decode cL_law 474 = .ok (.aload_n 0, 1) := by decide +kernel
theorem dL_law_475 : decode cL_law 475 = .ok (.iload_n 3, 1) := by decide +kernel
theorem dL_law_476 : decode cL_law 476 = .ok (.iconst 2, 1) := by decide +kernel
theorem dL_law_477 : decode cL_law 477 = .ok (.iadd, 1) := by decide +kernel
theorem dL_law_478 : decode cL_law 478 = .ok (.iaload, 1) := by decide +kernel
theorem dL_law_479 : decode cL_law 479 = .ok (.aload_n 0, 1) := by decide +kernel
theorem dL_law_480 : decode cL_law 480 = .ok (.iload_n 3, 1) := by decide +kernel
theorem dL_law_481 : decode cL_law 481 = .ok (.iconst 3, 1) := by decide +kernel
theorem dL_law_482 : decode cL_law 482 = .ok (.iadd, 1) := by decide +kernel
theorem dL_law_483 : decode cL_law 483 = .ok (.iaload, 1) := by decide +kernel
theorem dL_law_484 : decode cL_law 484 = .ok (.aload_n 0, 1) := by decide +kernel
theorem dL_law_485 : decode cL_law 485 = .ok (.iload_n 3, 1) := by decide +kernel
theorem dL_law_486 : decode cL_law 486 = .ok (.iconst 4, 1) := by decide +kernel
theorem dL_law_487 : decode cL_law 487 = .ok (.iadd, 1) := by decide +kernel
theorem dL_law_488 : decode cL_law 488 = .ok (.iaload, 1) := by decide +kernel
theorem dL_law_489 : decode cL_law 489 = .ok (.aload_n 0, 1) := by decide +kernel
theorem dL_law_490 : decode cL_law 490 = .ok (.iload_n 3, 1) := by decide +kernel
theorem dL_law_491 : decode cL_law 491 = .ok (.iconst 5, 1) := by decide +kernel
theorem dL_law_492 : decode cL_law 492 = .ok (.iadd, 1) := by decide +kernel
theorem dL_law_493 : decode cL_law 493 = .ok (.iaload, 1) := by decide +kernel
theorem dL_law_494 : decode cL_law 494 = .ok (.invokevirtual 48, 3) := by decide +kernel
theorem dL_law_497 : decode cL_law 497 = .ok (.if_icmp .eq 1176, 3) := by decide +kernel
theorem dL_law_500 : decode cL_law 500 = .ok (.iconst 0, 1) := by decide +kernel
theorem dL_law_501 : decode cL_law 501 = .ok (.ireturn, 1) := by decide +kernel
theorem dL_law_502 : decode cL_law 502 = .ok (.aload_n 1, 1) := by decide +kernel
theorem dL_law_503 : decode cL_law 503 = .ok (.aload_n 0, 1) := by decide +kernel
theorem dL_law_504 : decode cL_law 504 = .ok (.iload_n 3, 1) := by decide +kernel
theorem dL_law_505 : decode cL_law 505 = .ok (.iconst 1, 1) := by decide +kernel
theorem dL_law_506 : decode cL_law 506 = .ok (.iadd, 1) := by decide +kernel
theorem dL_law_507 : decode cL_law 507 = .ok (.iaload, 1) := by decide +kernel
theorem dL_law_508 : decode cL_law 508 = .ok (.aload_n 0, 1) := by decide +kernel
theorem dL_law_509 : decode cL_law 509 = .ok (.iload_n 3, 1) := by decide +kernel
theorem dL_law_510 : decode cL_law 510 = .ok (.iconst 2, 1) := by decide +kernel
theorem dL_law_511 : decode cL_law 511 = .ok (.iadd, 1) := by decide +kernel
theorem dL_law_512 : decode cL_law 512 = .ok (.iaload, 1) := by decide +kernel
theorem dL_law_513 : decode cL_law 513 = .ok (.aload_n 0, 1) := by decide +kernel
theorem dL_law_514 : decode cL_law 514 = .ok (.iload_n 3, 1) := by decide +kernel
theorem dL_law_515 : decode cL_law 515 = .ok (.iconst 3, 1) := by decide +kernel
theorem dL_law_516 : decode cL_law 516 = .ok (.iadd, 1) := by decide +kernel
theorem dL_law_517 : decode cL_law 517 = .ok (.iaload, 1) := by decide +kernel
theorem dL_law_518 : decode cL_law 518 = .ok (.aload_n 0, 1) := by decide +kernel
theorem dL_law_519 : decode cL_law 519 = .ok (.iload_n 3, 1) := by decide +kernel
theorem dL_law_520 : decode cL_law 520 = .ok (.iconst 4, 1) := by decide +kernel
theorem dL_law_521 : decode cL_law 521 = .ok (.iadd, 1) := by decide +kernel
theorem dL_law_522 : decode cL_law 522 = .ok (.iaload, 1) := by decide +kernel
theorem dL_law_523 : decode cL_law 523 = .ok (.aload_n 0, 1) := by decide +kernel
theorem dL_law_524 : decode cL_law 524 = .ok (.iload_n 3, 1) := by decide +kernel
theorem dL_law_525 : decode cL_law 525 = .ok (.iconst 5, 1) := by decide +kernel
theorem dL_law_526 : decode cL_law 526 = .ok (.iadd, 1) := by decide +kernel
theorem dL_law_527 : decode cL_law 527 = .ok (.iaload, 1) := by decide +kernel
theorem dL_law_528 : decode cL_law 528 = .ok (.invokevirtual 49, 3) := by decide +kernel
theorem dL_law_531 : decode cL_law 531 = .ok (.aload_n 2, 1) := by decide +kernel
theorem dL_law_532 : decode cL_law 532 = .ok (.aload_n 0, 1) := by decide +kernel
theorem dL_law_533 : decode cL_law 533 = .ok (.iload_n 3, 1) := by decide +kernel
theorem dL_law_534 : decode cL_law 534 = .ok (.iconst 1, 1) := by decide +kernel
theorem dL_law_535 : decode cL_law 535 = .ok (.iadd, 1) := by decide +kernel
theorem dL_law_536 : decode cL_law 536 = .ok (.iaload, 1) := by decide +kernel
theorem dL_law_537 : decode cL_law 537 = .ok (.aload_n 0, 1) := by decide +kernel
theorem dL_law_538 : decode cL_law 538 = .ok (.iload_n 3, 1) := by decide +kernel
theorem dL_law_539 : decode cL_law 539 = .ok (.iconst 2, 1) := by decide +kernel
theorem dL_law_540 : decode cL_law 540 = .ok (.iadd, 1) := by decide +kernel
theorem dL_law_541 : decode cL_law 541 = .ok (.iaload, 1) := by decide +kernel
theorem dL_law_542 : decode cL_law 542 = .ok (.aload_n 0, 1) := by decide +kernel
theorem dL_law_543 : decode cL_law 543 = .ok (.iload_n 3, 1) := by decide +kernel
theorem dL_law_544 : decode cL_law 544 = .ok (.iconst 3, 1) := by decide +kernel
theorem dL_law_545 : decode cL_law 545 = .ok (.iadd, 1) := by decide +kernel
theorem dL_law_546 : decode cL_law 546 = .ok (.iaload, 1) := by decide +kernel
theorem dL_law_547 : decode cL_law 547 = .ok (.aload_n 0, 1) := by decide +kernel
theorem dL_law_548 : decode cL_law 548 = .ok (.iload_n 3, 1) := by decide +kernel
theorem dL_law_549 : decode cL_law 549 = .ok (.iconst 4, 1) := by decide +kernel
theorem dL_law_550 : decode cL_law 550 = .ok (.iadd, 1) := by decide +kernel
theorem dL_law_551 : decode cL_law 551 = .ok (.iaload, 1) := by decide +kernel
theorem dL_law_552 : decode cL_law 552 = .ok (.aload_n 0, 1) := by decide +kernel
theorem dL_law_553 : decode cL_law 553 = .ok (.iload_n 3, 1) := by decide +kernel
theorem dL_law_554 : decode cL_law 554 = .ok (.iconst 5, 1) := by decide +kernel
theorem dL_law_555 : decode cL_law 555 = .ok (.iadd, 1) := by decide +kernel
theorem dL_law_556 : decode cL_law 556 = .ok (.iaload, 1) := by decide +kernel
theorem dL_law_557 : decode cL_law 557 = .ok (.invokevirtual 53, 3) := by decide +kernel
theorem dL_law_560 : decode cL_law 560 = .ok (.if_icmp .eq 1113, 3) := by decide +kernel
theorem dL_law_563 : decode cL_law 563 = .ok (.iconst 0, 1) := by decide +kernel
theorem dL_law_564 : decode cL_law 564 = .ok (.ireturn, 1) := by decide +kernel
theorem dL_law_565 : decode cL_law 565 = .ok (.aload_n 1, 1) := by decide +kernel
theorem dL_law_566 : decode cL_law 566 = .ok (.aload_n 0, 1) := by decide +kernel
theorem dL_law_567 : decode cL_law 567 = .ok (.iload_n 3, 1) := by decide +kernel
theorem dL_law_568 : decode cL_law 568 = .ok (.iconst 1, 1) := by decide +kernel
theorem dL_law_569 : decode cL_law 569 = .ok (.iadd, 1) := by decide +kernel
theorem dL_law_570 : decode cL_law 570 = .ok (.iaload, 1) := by decide +kernel
theorem dL_law_571 : decode cL_law 571 = .ok (.invokevirtual 54, 3) := by decide +kernel
theorem dL_law_574 : decode cL_law 574 = .ok (.aload_n 2, 1) := by decide +kernel
theorem dL_law_575 : decode cL_law 575 = .ok (.aload_n 0, 1) := by decide +kernel
theorem dL_law_576 : decode cL_law 576 = .ok (.iload_n 3, 1) := by decide +kernel
theorem dL_law_577 : decode cL_law 577 = .ok (.iconst 1, 1) := by decide +kernel
theorem dL_law_578 : decode cL_law 578 = .ok (.iadd, 1) := by decide +kernel
theorem dL_law_579 : decode cL_law 579 = .ok (.iaload, 1) := by decide +kernel
theorem dL_law_580 : decode cL_law 580 = .ok (.invokevirtual 58, 3) := by decide +kernel
theorem dL_law_583 : decode cL_law 583 = .ok (.if_icmp .eq 1090, 3) := by decide +kernel
theorem dL_law_586 : decode cL_law 586 = .ok (.iconst 0, 1) := by decide +kernel
theorem dL_law_587 : decode cL_law 587 = .ok (.ireturn, 1) := by decide +kernel
theorem dL_law_588 : decode cL_law 588 = .ok (.aload_n 1, 1) := by decide +kernel
theorem dL_law_589 : decode cL_law 589 = .ok (.aload_n 0, 1) := by decide +kernel
theorem dL_law_590 : decode cL_law 590 = .ok (.iload_n 3, 1) := by decide +kernel
theorem dL_law_591 : decode cL_law 591 = .ok (.iconst 1, 1) := by decide +kernel
theorem dL_law_592 : decode cL_law 592 = .ok (.iadd, 1) := by decide +kernel
theorem dL_law_593 : decode cL_law 593 = .ok (.iaload, 1) := by decide +kernel
theorem dL_law_594 : decode cL_law 594 = .ok (.invokevirtual 59, 3) := by decide +kernel
theorem dL_law_597 : decode cL_law 597 = .ok (.aload_n 2, 1) := by decide +kernel
theorem dL_law_598 : decode cL_law 598 = .ok (.aload_n 0, 1) := by decide +kernel
theorem dL_law_599 : decode cL_law 599 = .ok (.iload_n 3, 1) := by decide +kernel
theorem dL_law_600 : decode cL_law 600 = .ok (.iconst 1, 1) := by decide +kernel
theorem dL_law_601 : decode cL_law 601 = .ok (.iadd, 1) := by decide +kernel
theorem dL_law_602 : decode cL_law 602 = .ok (.iaload, 1) := by decide +kernel
theorem dL_law_603 : decode cL_law 603 = .ok (.invokevirtual 62, 3) := by decide +kernel
theorem dL_law_606 : decode cL_law 606 = .ok (.if_icmp .eq 1067, 3) := by decide +kernel
theorem dL_law_609 : decode cL_law 609 = .ok (.iconst 0, 1) := by decide +kernel
theorem dL_law_610 : decode cL_law 610 = .ok (.ireturn, 1) := by decide +kernel
theorem dL_law_611 : decode cL_law 611 = .ok (.aload_n 1, 1) := by decide +kernel
theorem dL_law_612 : decode cL_law 612 = .ok (.aload_n 0, 1) := by decide +kernel
theorem dL_law_613 : decode cL_law 613 = .ok (.iload_n 3, 1) := by decide +kernel
theorem dL_law_614 : decode cL_law 614 = .ok (.iconst 1, 1) := by decide +kernel
theorem dL_law_615 : decode cL_law 615 = .ok (.iadd, 1) := by decide +kernel
theorem dL_law_616 : decode cL_law 616 = .ok (.iaload, 1) := by decide +kernel
theorem dL_law_617 : decode cL_law 617 = .ok (.invokevirtual 63, 3) := by decide +kernel
theorem dL_law_620 : decode cL_law 620 = .ok (.aload_n 2, 1) := by decide +kernel
theorem dL_law_621 : decode cL_law 621 = .ok (.aload_n 0, 1) := by decide +kernel
theorem dL_law_622 : decode cL_law 622 = .ok (.iload_n 3, 1) := by decide +kernel
theorem dL_law_623 : decode cL_law 623 = .ok (.iconst 1, 1) := by decide +kernel
theorem dL_law_624 : decode cL_law 624 = .ok (.iadd, 1) := by decide +kernel
theorem dL_law_625 : decode cL_law 625 = .ok (.iaload, 1) := by decide +kernel
theorem dL_law_626 : decode cL_law 626 = .ok (.invokevirtual 66, 3) := by decide +kernel
theorem dL_law_629 : decode cL_law 629 = .ok (.if_icmp .eq 1044, 3) := by decide +kernel
theorem dL_law_632 : decode cL_law 632 = .ok (.iconst 0, 1) := by decide +kernel
theorem dL_law_633 : decode cL_law 633 = .ok (.ireturn, 1) := by decide +kernel
theorem dL_law_634 : decode cL_law 634 = .ok (.aload_n 1, 1) := by decide +kernel
theorem dL_law_635 : decode cL_law 635 = .ok (.aload_n 0, 1) := by decide +kernel
theorem dL_law_636 : decode cL_law 636 = .ok (.iload_n 3, 1) := by decide +kernel
theorem dL_law_637 : decode cL_law 637 = .ok (.iconst 1, 1) := by decide +kernel
theorem dL_law_638 : decode cL_law 638 = .ok (.iadd, 1) := by decide +kernel
theorem dL_law_639 : decode cL_law 639 = .ok (.iaload, 1) := by decide +kernel
theorem dL_law_640 : decode cL_law 640 = .ok (.invokevirtual 67, 3) := by decide +kernel
theorem dL_law_643 : decode cL_law 643 = .ok (.aload_n 2, 1) := by decide +kernel
theorem dL_law_644 : decode cL_law 644 = .ok (.aload_n 0, 1) := by decide +kernel
theorem dL_law_645 : decode cL_law 645 = .ok (.iload_n 3, 1) := by decide +kernel
theorem dL_law_646 : decode cL_law 646 = .ok (.iconst 1, 1) := by decide +kernel
theorem dL_law_647 : decode cL_law 647 = .ok (.iadd, 1) := by decide +kernel
theorem dL_law_648 : decode cL_law 648 = .ok (.iaload, 1) := by decide +kernel
theorem dL_law_649 : decode cL_law 649 = .ok (.invokevirtual 70, 3) := by decide +kernel
theorem dL_law_652 : decode cL_law 652 = .ok (.if_icmp .eq 1021, 3) := by decide +kernel
theorem dL_law_655 : decode cL_law 655 = .ok (.iconst 0, 1) := by decide +kernel
theorem dL_law_656 : decode cL_law 656 = .ok (.ireturn, 1) := by decide +kernel
theorem dL_law_657 : decode cL_law 657 = .ok (.aload_n 1, 1) := by decide +kernel
theorem dL_law_658 : decode cL_law 658 = .ok (.aload_n 0, 1) := by decide +kernel
theorem dL_law_659 : decode cL_law 659 = .ok (.iload_n 3, 1) := by decide +kernel
theorem dL_law_660 : decode cL_law 660 = .ok (.iconst 1, 1) := by decide +kernel
theorem dL_law_661 : decode cL_law 661 = .ok (.iadd, 1) := by decide +kernel
theorem dL_law_662 : decode cL_law 662 = .ok (.iaload, 1) := by decide +kernel
theorem dL_law_663 : decode cL_law 663 = .ok (.aload_n 0, 1) := by decide +kernel
theorem dL_law_664 : decode cL_law 664 = .ok (.iload_n 3, 1) := by decide +kernel
theorem dL_law_665 : decode cL_law 665 = .ok (.iconst 2, 1) := by decide +kernel
theorem dL_law_666 : decode cL_law 666 = .ok (.iadd, 1) := by decide +kernel
theorem dL_law_667 : decode cL_law 667 = .ok (.iaload, 1) := by decide +kernel
theorem dL_law_668 : decode cL_law 668 = .ok (.invokevirtual 71, 3) := by decide +kernel
theorem dL_law_671 : decode cL_law 671 = .ok (.aload_n 2, 1) := by decide +kernel
theorem dL_law_672 : decode cL_law 672 = .ok (.aload_n 0, 1) := by decide +kernel
theorem dL_law_673 : decode cL_law 673 = .ok (.iload_n 3, 1) := by decide +kernel
theorem dL_law_674 : decode cL_law 674 = .ok (.iconst 1, 1) := by decide +kernel
theorem dL_law_675 : decode cL_law 675 = .ok (.iadd, 1) := by decide +kernel
theorem dL_law_676 : decode cL_law 676 = .ok (.iaload, 1) := by decide +kernel
theorem dL_law_677 : decode cL_law 677 = .ok (.aload_n 0, 1) := by decide +kernel
theorem dL_law_678 : decode cL_law 678 = .ok (.iload_n 3, 1) := by decide +kernel
theorem dL_law_679 : decode cL_law 679 = .ok (.iconst 2, 1) := by decide +kernel
theorem dL_law_680 : decode cL_law 680 = .ok (.iadd, 1) := by decide +kernel
theorem dL_law_681 : decode cL_law 681 = .ok (.iaload, 1) := by decide +kernel
theorem dL_law_682 : decode cL_law 682 = .ok (.invokevirtual 75, 3) := by decide +kernel
theorem dL_law_685 : decode cL_law 685 = .ok (.if_icmp .eq 988, 3) := by decide +kernel
theorem dL_law_688 : decode cL_law 688 = .ok (.iconst 0, 1) := by decide +kernel
theorem dL_law_689 : decode cL_law 689 = .ok (.ireturn, 1) := by decide +kernel
theorem dL_law_690 : decode cL_law 690 = .ok (.aload_n 1, 1) := by decide +kernel
theorem dL_law_691 : decode cL_law 691 = .ok (.aload_n 0, 1) := by decide +kernel
theorem dL_law_692 : decode cL_law 692 = .ok (.iload_n 3, 1) := by decide +kernel
theorem dL_law_693 : decode cL_law 693 = .ok (.iconst 1, 1) := by decide +kernel
theorem dL_law_694 : decode cL_law 694 = .ok (.iadd, 1) := by decide +kernel
theorem dL_law_695 : decode cL_law 695 = .ok (.iaload, 1) := by decide +kernel
theorem dL_law_696 : decode cL_law 696 = .ok (.aload_n 0, 1) := by decide +kernel
theorem dL_law_697 : decode cL_law 697 = .ok (.iload_n 3, 1) := by decide +kernel
theorem dL_law_698 : decode cL_law 698 = .ok (.iconst 2, 1) := by decide +kernel
theorem dL_law_699 : decode cL_law 699 = .ok (.iadd, 1) := by decide +kernel
theorem dL_law_700 : decode cL_law 700 = .ok (.iaload, 1) := by decide +kernel
theorem dL_law_701 : decode cL_law 701 = .ok (.invokevirtual 76, 3) := by decide +kernel
theorem dL_law_704 : decode cL_law 704 = .ok (.aload_n 2, 1) := by decide +kernel
theorem dL_law_705 : decode cL_law 705 = .ok (.aload_n 0, 1) := by decide +kernel
theorem dL_law_706 : decode cL_law 706 = .ok (.iload_n 3, 1) := by decide +kernel
theorem dL_law_707 : decode cL_law 707 = .ok (.iconst 1, 1) := by decide +kernel
theorem dL_law_708 : decode cL_law 708 = .ok (.iadd, 1) := by decide +kernel
theorem dL_law_709 : decode cL_law 709 = .ok (.iaload, 1) := by decide +kernel
theorem dL_law_710 : decode cL_law 710 = .ok (.aload_n 0, 1) := by decide +kernel
theorem dL_law_711 : decode cL_law 711 = .ok (.iload_n 3, 1) := by decide +kernel
theorem dL_law_712 : decode cL_law 712 = .ok (.iconst 2, 1) := by decide +kernel
theorem dL_law_713 : decode cL_law 713 = .ok (.iadd, 1) := by decide +kernel
theorem dL_law_714 : decode cL_law 714 = .ok (.iaload, 1) := by decide +kernel
theorem dL_law_715 : decode cL_law 715 = .ok (.invokevirtual 79, 3) := by decide +kernel
theorem dL_law_718 : decode cL_law 718 = .ok (.if_icmp .eq 955, 3) := by decide +kernel
theorem dL_law_721 : decode cL_law 721 = .ok (.iconst 0, 1) := by decide +kernel
theorem dL_law_722 : decode cL_law 722 = .ok (.ireturn, 1) := by decide +kernel
theorem dL_law_723 : decode cL_law 723 = .ok (.aload_n 1, 1) := by decide +kernel
theorem dL_law_724 : decode cL_law 724 = .ok (.aload_n 0, 1) := by decide +kernel
theorem dL_law_725 : decode cL_law 725 = .ok (.iload_n 3, 1) := by decide +kernel
theorem dL_law_726 : decode cL_law 726 = .ok (.iconst 1, 1) := by decide +kernel
theorem dL_law_727 : decode cL_law 727 = .ok (.iadd, 1) := by decide +kernel
theorem dL_law_728 : decode cL_law 728 = .ok (.iaload, 1) := by decide +kernel
theorem dL_law_729 : decode cL_law 729 = .ok (.invokevirtual 80, 3) := by decide +kernel
theorem dL_law_732 : decode cL_law 732 = .ok (.aload_n 2, 1) := by decide +kernel
theorem dL_law_733 : decode cL_law 733 = .ok (.aload_n 0, 1) := by decide +kernel
theorem dL_law_734 : decode cL_law 734 = .ok (.iload_n 3, 1) := by decide +kernel
theorem dL_law_735 : decode cL_law 735 = .ok (.iconst 1, 1) := by decide +kernel
theorem dL_law_736 : decode cL_law 736 = .ok (.iadd, 1) := by decide +kernel
theorem dL_law_737 : decode cL_law 737 = .ok (.iaload, 1) := by decide +kernel
theorem dL_law_738 : decode cL_law 738 = .ok (.invokevirtual 83, 3) := by decide +kernel
theorem dL_law_741 : decode cL_law 741 = .ok (.if_icmp .eq 932, 3) := by decide +kernel
theorem dL_law_744 : decode cL_law 744 = .ok (.iconst 0, 1) := by decide +kernel
theorem dL_law_745 : decode cL_law 745 = .ok (.ireturn, 1) := by decide +kernel
theorem dL_law_746 : decode cL_law 746 = .ok (.aload_n 1, 1) := by decide +kernel
theorem dL_law_747 : decode cL_law 747 = .ok (.aload_n 0, 1) := by decide +kernel
theorem dL_law_748 : decode cL_law 748 = .ok (.iload_n 3, 1) := by decide +kernel
theorem dL_law_749 : decode cL_law 749 = .ok (.iconst 1, 1) := by decide +kernel
theorem dL_law_750 : decode cL_law 750 = .ok (.iadd, 1) := by decide +kernel
theorem dL_law_751 : decode cL_law 751 = .ok (.iaload, 1) := by decide +kernel
theorem dL_law_752 : decode cL_law 752 = .ok (.invokevirtual 84, 3) := by decide +kernel
theorem dL_law_755 : decode cL_law 755 = .ok (.aload_n 2, 1) := by decide +kernel
theorem dL_law_756 : decode cL_law 756 = .ok (.aload_n 0, 1) := by decide +kernel
theorem dL_law_757 : decode cL_law 757 = .ok (.iload_n 3, 1) := by decide +kernel
theorem dL_law_758 : decode cL_law 758 = .ok (.iconst 1, 1) := by decide +kernel
theorem dL_law_759 : decode cL_law 759 = .ok (.iadd, 1) := by decide +kernel
theorem dL_law_760 : decode cL_law 760 = .ok (.iaload, 1) := by decide +kernel
theorem dL_law_761 : decode cL_law 761 = .ok (.invokevirtual 87, 3) := by decide +kernel
theorem dL_law_764 : decode cL_law 764 = .ok (.if_icmp .eq 909, 3) := by decide +kernel
theorem dL_law_767 : decode cL_law 767 = .ok (.iconst 0, 1) := by decide +kernel
theorem dL_law_768 : decode cL_law 768 = .ok (.ireturn, 1) := by decide +kernel
theorem dL_law_769 : decode cL_law 769 = .ok (.aload_n 1, 1) := by decide +kernel
theorem dL_law_770 : decode cL_law 770 = .ok (.aload_n 0, 1) := by decide +kernel
theorem dL_law_771 : decode cL_law 771 = .ok (.iload_n 3, 1) := by decide +kernel
theorem dL_law_772 : decode cL_law 772 = .ok (.iconst 1, 1) := by decide +kernel
theorem dL_law_773 : decode cL_law 773 = .ok (.iadd, 1) := by decide +kernel
theorem dL_law_774 : decode cL_law 774 = .ok (.iaload, 1) := by decide +kernel
theorem dL_law_775 : decode cL_law 775 = .ok (.aload_n 0, 1) := by decide +kernel
theorem dL_law_776 : decode cL_law 776 = .ok (.iload_n 3, 1) := by decide +kernel
theorem dL_law_777 : decode cL_law 777 = .ok (.iconst 2, 1) := by decide +kernel
theorem dL_law_778 : decode cL_law 778 = .ok (.iadd, 1) := by decide +kernel
theorem dL_law_779 : decode cL_law 779 = .ok (.iaload, 1) := by decide +kernel
theorem dL_law_780 : decode cL_law 780 = .ok (.invokevirtual 88, 3) := by decide +kernel
theorem dL_law_783 : decode cL_law 783 = .ok (.aload_n 2, 1) := by decide +kernel
theorem dL_law_784 : decode cL_law 784 = .ok (.aload_n 0, 1) := by decide +kernel
theorem dL_law_785 : decode cL_law 785 = .ok (.iload_n 3, 1) := by decide +kernel
theorem dL_law_786 : decode cL_law 786 = .ok (.iconst 1, 1) := by decide +kernel
theorem dL_law_787 : decode cL_law 787 = .ok (.iadd, 1) := by decide +kernel
theorem dL_law_788 : decode cL_law 788 = .ok (.iaload, 1) := by decide +kernel
theorem dL_law_789 : decode cL_law 789 = .ok (.aload_n 0, 1) := by decide +kernel
theorem dL_law_790 : decode cL_law 790 = .ok (.iload_n 3, 1) := by decide +kernel
theorem dL_law_791 : decode cL_law 791 = .ok (.iconst 2, 1) := by decide +kernel
theorem dL_law_792 : decode cL_law 792 = .ok (.iadd, 1) := by decide +kernel
theorem dL_law_793 : decode cL_law 793 = .ok (.iaload, 1) := by decide +kernel
theorem dL_law_794 : decode cL_law 794 = .ok (.invokevirtual 91, 3) := by decide +kernel
theorem dL_law_797 : decode cL_law 797 = .ok (.if_icmp .eq 876, 3) := by decide +kernel
theorem dL_law_800 : decode cL_law 800 = .ok (.iconst 0, 1) := by decide +kernel
theorem dL_law_801 : decode cL_law 801 = .ok (.ireturn, 1) := by decide +kernel
theorem dL_law_802 : decode cL_law 802 = .ok (.aload_n 1, 1) := by decide +kernel
theorem dL_law_803 : decode cL_law 803 = .ok (.aload_n 0, 1) := by decide +kernel
theorem dL_law_804 : decode cL_law 804 = .ok (.iload_n 3, 1) := by decide +kernel
theorem dL_law_805 : decode cL_law 805 = .ok (.iconst 1, 1) := by decide +kernel
theorem dL_law_806 : decode cL_law 806 = .ok (.iadd, 1) := by decide +kernel
theorem dL_law_807 : decode cL_law 807 = .ok (.iaload, 1) := by decide +kernel
theorem dL_law_808 : decode cL_law 808 = .ok (.aload_n 0, 1) := by decide +kernel
theorem dL_law_809 : decode cL_law 809 = .ok (.iload_n 3, 1) := by decide +kernel
theorem dL_law_810 : decode cL_law 810 = .ok (.iconst 2, 1) := by decide +kernel
theorem dL_law_811 : decode cL_law 811 = .ok (.iadd, 1) := by decide +kernel
theorem dL_law_812 : decode cL_law 812 = .ok (.iaload, 1) := by decide +kernel
theorem dL_law_813 : decode cL_law 813 = .ok (.invokevirtual 92, 3) := by decide +kernel
theorem dL_law_816 : decode cL_law 816 = .ok (.aload_n 2, 1) := by decide +kernel
theorem dL_law_817 : decode cL_law 817 = .ok (.aload_n 0, 1) := by decide +kernel
theorem dL_law_818 : decode cL_law 818 = .ok (.iload_n 3, 1) := by decide +kernel
theorem dL_law_819 : decode cL_law 819 = .ok (.iconst 1, 1) := by decide +kernel
theorem dL_law_820 : decode cL_law 820 = .ok (.iadd, 1) := by decide +kernel
theorem dL_law_821 : decode cL_law 821 = .ok (.iaload, 1) := by decide +kernel
theorem dL_law_822 : decode cL_law 822 = .ok (.aload_n 0, 1) := by decide +kernel
theorem dL_law_823 : decode cL_law 823 = .ok (.iload_n 3, 1) := by decide +kernel
theorem dL_law_824 : decode cL_law 824 = .ok (.iconst 2, 1) := by decide +kernel
theorem dL_law_825 : decode cL_law 825 = .ok (.iadd, 1) := by decide +kernel
theorem dL_law_826 : decode cL_law 826 = .ok (.iaload, 1) := by decide +kernel
theorem dL_law_827 : decode cL_law 827 = .ok (.invokevirtual 95, 3) := by decide +kernel
theorem dL_law_830 : decode cL_law 830 = .ok (.if_icmp .eq 843, 3) := by decide +kernel
theorem dL_law_833 : decode cL_law 833 = .ok (.iconst 0, 1) := by decide +kernel
theorem dL_law_834 : decode cL_law 834 = .ok (.ireturn, 1) := by decide +kernel
theorem dL_law_835 : decode cL_law 835 = .ok (.aload_n 1, 1) := by decide +kernel
theorem dL_law_836 : decode cL_law 836 = .ok (.invokevirtual 96, 3) := by decide +kernel
theorem dL_law_839 : decode cL_law 839 = .ok (.aload_n 2, 1) := by decide +kernel
