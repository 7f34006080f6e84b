theorem dX11_sail_37 : decode cX11_sail 37 = .ok (.getfield 53, 3) := by decide +kernel
theorem dX11_sail_40 : decode cX11_sail 40 = .ok (.aload_n 0, 1) := by decide +kernel
theorem dX11_sail_41 : decode cX11_sail 41 = .ok (.getfield 25, 3) := by decide +kernel
theorem dX11_sail_44 : decode cX11_sail 44 = .ok (.getfield 174, 3) := by decide +kernel
theorem dX11_sail_47 : decode cX11_sail 47 = .ok (.aload_n 2, 1) := by decide +kernel
theorem dX11_sail_48 : decode cX11_sail 48 = .ok (.aload_n 0, 1) := by decide +kernel
theorem dX11_sail_49 : decode cX11_sail 49 = .ok (.getfield 25, 3) := by decide +kernel
theorem dX11_sail_52 : decode cX11_sail 52 = .ok (.getfield 379, 3) := by decide +kernel
theorem dX11_sail_55 : decode cX11_sail 55 = .ok (.iload_n 1, 1) := by decide +kernel
theorem dX11_sail_56 : decode cX11_sail 56 = .ok (.invokevirtual 382, 3) := by decide +kernel
theorem dX11_sail_59 : decode cX11_sail 59 = .ok (.aload_n 0, 1) := by decide +kernel
theorem dX11_sail_60 : decode cX11_sail 60 = .ok (.getfield 53, 3) := by decide +kernel
theorem dX11_sail_63 : decode cX11_sail 63 = .ok (.getfield 386, 3) := by decide +kernel
theorem dX11_sail_66 : decode cX11_sail 66 = .ok (.iconst 0, 1) := by decide +kernel
theorem dX11_sail_67 : decode cX11_sail 67 = .ok (.aload_n 0, 1) := by decide +kernel
theorem dX11_sail_68 : decode cX11_sail 68 = .ok (.getfield 25, 3) := by decide +kernel
theorem dX11_sail_71 : decode cX11_sail 71 = .ok (.getfield 379, 3) := by decide +kernel
theorem dX11_sail_74 : decode cX11_sail 74 = .ok (.iconst 0, 1) := by decide +kernel
theorem dX11_sail_75 : decode cX11_sail 75 = .ok (.iconst 4, 1) := by decide +kernel
theorem dX11_sail_76 : decode cX11_sail 76 = .ok (.invokestatic 132, 3) := by decide +kernel
theorem dX11_sail_79 : decode cX11_sail 79 = .ok (.aload_n 0, 1) := by decide +kernel
theorem dX11_sail_80 : decode cX11_sail 80 = .ok (.getfield 57, 3) := by decide +kernel
theorem dX11_sail_83 : decode cX11_sail 83 = .ok (.iconst 0, 1) := by decide +kernel
theorem dX11_sail_84 : decode cX11_sail 84 = .ok (.aload_n 0, 1) := by decide +kernel
theorem dX11_sail_85 : decode cX11_sail 85 = .ok (.getfield 53, 3) := by decide +kernel
theorem dX11_sail_88 : decode cX11_sail 88 = .ok (.getfield 387, 3) := by decide +kernel
theorem dX11_sail_91 : decode cX11_sail 91 = .ok (.iastore, 1) := by decide +kernel
theorem dX11_sail_92 : decode cX11_sail 92 = .ok (.aload_n 0, 1) := by decide +kernel
theorem dX11_sail_93 : decode cX11_sail 93 = .ok (.getfield 57, 3) := by decide +kernel
theorem dX11_sail_96 : decode cX11_sail 96 = .ok (.iconst 1, 1) := by decide +kernel
theorem dX11_sail_97 : decode cX11_sail 97 = .ok (.aload_n 0, 1) := by decide +kernel
theorem dX11_sail_98 : decode cX11_sail 98 = .ok (.getfield 53, 3) := by decide +kernel
theorem dX11_sail_101 : decode cX11_sail 101 = .ok (.getfield 390, 3) := by decide +kernel
theorem dX11_sail_104 : decode cX11_sail 104 = .ok (.iastore, 1) := by decide +kernel
theorem dX11_sail_105 : decode cX11_sail 105 = .ok (.aload_n 0, 1) := by decide +kernel
theorem dX11_sail_106 : decode cX11_sail 106 = .ok (.getfield 57, 3) := by decide +kernel
theorem dX11_sail_109 : decode cX11_sail 109 = .ok (.iconst 2, 1) := by decide +kernel
theorem dX11_sail_110 : decode cX11_sail 110 = .ok (.aload_n 0, 1) := by decide +kernel
theorem dX11_sail_111 : decode cX11_sail 111 = .ok (.getfield 53, 3) := by decide +kernel
theorem dX11_sail_114 : decode cX11_sail 114 = .ok (.getfield 393, 3) := by decide +kernel
theorem dX11_sail_117 : decode cX11_sail 117 = .ok (.iastore, 1) := by decide +kernel
theorem dX11_sail_118 : decode cX11_sail 118 = .ok (.aload_n 0, 1) := by decide +kernel
theorem dX11_sail_119 : decode cX11_sail 119 = .ok (.getfield 57, 3) := by decide +kernel
theorem dX11_sail_122 : decode cX11_sail 122 = .ok (.iconst 3, 1) := by decide +kernel
theorem dX11_sail_123 : decode cX11_sail 123 = .ok (.aload_n 0, 1) := by decide +kernel
theorem dX11_sail_124 : decode cX11_sail 124 = .ok (.getfield 53, 3) := by decide +kernel
theorem dX11_sail_127 : decode cX11_sail 127 = .ok (.getfield 396, 3) := by decide +kernel
theorem dX11_sail_130 : decode cX11_sail 130 = .ok (.iastore, 1) := by decide +kernel
theorem dX11_sail_131 : decode cX11_sail 131 = .ok (.aload_n 0, 1) := by decide +kernel
theorem dX11_sail_132 : decode cX11_sail 132 = .ok (.getfield 57, 3) := by decide +kernel
theorem dX11_sail_135 : decode cX11_sail 135 = .ok (.iconst 4, 1) := by decide +kernel
theorem dX11_sail_136 : decode cX11_sail 136 = .ok (.aload_n 0, 1) := by decide +kernel
theorem dX11_sail_137 : decode cX11_sail 137 = .ok (.getfield 53, 3) := by decide +kernel
theorem dX11_sail_140 : decode cX11_sail 140 = .ok (.getfield 399, 3) := by decide +kernel
theorem dX11_sail_143 : decode cX11_sail 143 = .ok (.iastore, 1) := by decide +kernel
theorem dX11_sail_144 : decode cX11_sail 144 = .ok (.aload_n 0, 1) := by decide +kernel
theorem dX11_sail_145 : decode cX11_sail 145 = .ok (.iconst 1, 1) := by decide +kernel
theorem dX11_sail_146 : decode cX11_sail 146 = .ok (.putfield 61, 3) := by decide +kernel
theorem dX11_sail_149 : decode cX11_sail 149 = .ok (.aload_n 0, 1) := by decide +kernel
theorem dX11_sail_150 : decode cX11_sail 150 = .ok (.aload_n 0, 1) := by decide +kernel
theorem dX11_sail_151 : decode cX11_sail 151 = .ok (.getfield 53, 3) := by decide +kernel
theorem dX11_sail_154 : decode cX11_sail 154 = .ok (.getfield 402, 3) := by decide +kernel
theorem dX11_sail_157 : decode cX11_sail 157 = .ok (.invokevirtual 169, 3) := by decide +kernel
theorem dX11_sail_160 : decode cX11_sail 160 = .ok (.ireturn, 1) := by decide +kernel
theorem dX11_sailed_0 : decode cX11_sailed 0 = .ok (.iload_n 1, 1) := by decide +kernel
theorem dX11_sailed_1 : decode cX11_sailed 1 = .ok (.ifCond .lt 12, 3) := by decide +kernel
theorem dX11_sailed_4 : decode cX11_sailed 4 = .ok (.iload_n 1, 1) := by decide +kernel
theorem dX11_sailed_5 : decode cX11_sailed 5 = .ok (.aload_n 0, 1) := by decide +kernel
theorem dX11_sailed_6 : decode cX11_sailed 6 = .ok (.getfield 57, 3) := by decide +kernel
theorem dX11_sailed_9 : decode cX11_sailed 9 = .ok (.arraylength, 1) := by decide +kernel
theorem dX11_sailed_10 : decode cX11_sailed 10 = .ok (.if_icmp .lt 9, 3) := by decide +kernel
theorem dX11_sailed_13 : decode cX11_sailed 13 = .ok (.aload_n 0, 1) := by decide +kernel
theorem dX11_sailed_14 : decode cX11_sailed 14 = .ok (.iconst 5, 1) := by decide +kernel
theorem dX11_sailed_15 : decode cX11_sailed 15 = .ok (.invokevirtual 113, 3) := by decide +kernel
theorem dX11_sailed_18 : decode cX11_sailed 18 = .ok (.ireturn, 1) := by decide +kernel
theorem dX11_sailed_19 : decode cX11_sailed 19 = .ok (.aload_n 0, 1) := by decide +kernel
theorem dX11_sailed_20 : decode cX11_sailed 20 = .ok (.getfield 61, 3) := by decide +kernel
theorem dX11_sailed_23 : decode cX11_sailed 23 = .ok (.ifCond .eq 16, 3) := by decide +kernel
theorem dX11_sailed_26 : decode cX11_sailed 26 = .ok (.aload_n 0, 1) := by decide +kernel
theorem dX11_sailed_27 : decode cX11_sailed 27 = .ok (.aload_n 0, 1) := by decide +kernel
theorem dX11_sailed_28 : decode cX11_sailed 28 = .ok (.getfield 57, 3) := by decide +kernel
theorem dX11_sailed_31 : decode cX11_sailed 31 = .ok (.iload_n 1, 1) := by decide +kernel
theorem dX11_sailed_32 : decode cX11_sailed 32 = .ok (.iaload, 1) := by decide +kernel
theorem dX11_sailed_33 : decode cX11_sailed 33 = .ok (.invokevirtual 169, 3) := by decide +kernel
theorem dX11_sailed_36 : decode cX11_sailed 36 = .ok (.goto 9, 3) := by decide +kernel
theorem dX11_sailed_39 : decode cX11_sailed 39 = .ok (.aload_n 0, 1) := by decide +kernel
theorem dX11_sailed_40 : decode cX11_sailed 40 = .ok (.bipush 8, 2) := by decide +kernel
theorem dX11_sailed_42 : decode cX11_sailed 42 = .ok (.invokevirtual 113, 3) := by decide +kernel
theorem dX11_sailed_45 : decode cX11_sailed 45 = .ok (.ireturn, 1) := by decide +kernel
theorem dX11_agreed_0 : decode cX11_agreed 0 = .ok (.iload_n 1, 1) := by decide +kernel
theorem dX11_agreed_1 : decode cX11_agreed 1 = .ok (.ifCond .lt 23, 3) := by decide +kernel
theorem dX11_agreed_4 : decode cX11_agreed 4 = .ok (.iload_n 2, 1) := by decide +kernel
theorem dX11_agreed_5 : decode cX11_agreed 5 = .ok (.iconst 1, 1) := by decide +kernel
theorem dX11_agreed_6 : decode cX11_agreed 6 = .ok (.if_icmp .lt 18, 3) := by decide +kernel
theorem dX11_agreed_9 : decode cX11_agreed 9 = .ok (.iload_n 2, 1) := by decide +kernel
theorem dX11_agreed_10 : decode cX11_agreed 10 = .ok (.bipush 30, 2) := by decide +kernel
theorem dX11_agreed_12 : decode cX11_agreed 12 = .ok (.if_icmp .gt 12, 3) := by decide +kernel
theorem dX11_agreed_15 : decode cX11_agreed 15 = .ok (.iload_n 1, 1) := by decide +kernel
theorem dX11_agreed_16 : decode cX11_agreed 16 = .ok (.sipush 10000, 3) := by decide +kernel
theorem dX11_agreed_19 : decode cX11_agreed 19 = .ok (.iload_n 2, 1) := by decide +kernel
theorem dX11_agreed_20 : decode cX11_agreed 20 = .ok (.isub, 1) := by decide +kernel
theorem dX11_agreed_21 : decode cX11_agreed 21 = .ok (.if_icmp .le 9, 3) := by decide +kernel
theorem dX11_agreed_24 : decode cX11_agreed 24 = .ok (.aload_n 0, 1) := by decide +kernel
theorem dX11_agreed_25 : decode cX11_agreed 25 = .ok (.iconst 5, 1) := by decide +kernel
theorem dX11_agreed_26 : decode cX11_agreed 26 = .ok (.invokevirtual 113, 3) := by decide +kernel
theorem dX11_agreed_29 : decode cX11_agreed 29 = .ok (.ireturn, 1) := by decide +kernel
theorem dX11_agreed_30 : decode cX11_agreed 30 = .ok (.aload_n 0, 1) := by decide +kernel
theorem dX11_agreed_31 : decode cX11_agreed 31 = .ok (.getfield 25, 3) := by decide +kernel
theorem dX11_agreed_34 : decode cX11_agreed 34 = .ok (.getfield 185, 3) := by decide +kernel
theorem dX11_agreed_37 : decode cX11_agreed 37 = .ok (.astore_n 3, 1) := by decide +kernel
theorem dX11_agreed_38 : decode cX11_agreed 38 = .ok (.aload_n 3, 1) := by decide +kernel
theorem dX11_agreed_39 : decode cX11_agreed 39 = .ok (.ifnonnull 10, 3) := by decide +kernel
theorem dX11_agreed_42 : decode cX11_agreed 42 = .ok (.aload_n 0, 1) := by decide +kernel
theorem dX11_agreed_43 : decode cX11_agreed 43 = .ok (.bipush 8, 2) := by decide +kernel
theorem dX11_agreed_45 : decode cX11_agreed 45 = .ok (.invokevirtual 113, 3) := by decide +kernel
theorem dX11_agreed_48 : decode cX11_agreed 48 = .ok (.ireturn, 1) := by decide +kernel
theorem dX11_agreed_49 : decode cX11_agreed 49 = .ok (.iconst 0, 1) := by decide +kernel
theorem dX11_agreed_50 : decode cX11_agreed 50 = .ok (.istore 4, 2) := by decide +kernel
theorem dX11_agreed_52 : decode cX11_agreed 52 = .ok (.iconst 0, 1) := by decide +kernel
theorem dX11_agreed_53 : decode cX11_agreed 53 = .ok (.istore 5, 2) := by decide +kernel
theorem dX11_agreed_55 : decode cX11_agreed 55 = .ok (.iload 5, 2) := by decide +kernel
theorem dX11_agreed_57 : decode cX11_agreed 57 = .ok (.iload_n 2, 1) := by decide +kernel
theorem dX11_agreed_58 : decode cX11_agreed 58 = .ok (.if_icmp .ge 48, 3) := by decide +kernel
theorem dX11_agreed_61 : decode cX11_agreed 61 = .ok (.aload_n 0, 1) := by decide +kernel
theorem dX11_agreed_62 : decode cX11_agreed 62 = .ok (.getfield 53, 3) := by decide +kernel
theorem dX11_agreed_65 : decode cX11_agreed 65 = .ok (.aload_n 0, 1) := by decide +kernel
theorem dX11_agreed_66 : decode cX11_agreed 66 = .ok (.getfield 25, 3) := by decide +kernel
theorem dX11_agreed_69 : decode cX11_agreed 69 = .ok (.getfield 174, 3) := by decide +kernel
theorem dX11_agreed_72 : decode cX11_agreed 72 = .ok (.aload_n 3, 1) := by decide +kernel
theorem dX11_agreed_73 : decode cX11_agreed 73 = .ok (.aload_n 0, 1) := by decide +kernel
theorem dX11_agreed_74 : decode cX11_agreed 74 = .ok (.getfield 25, 3) := by decide +kernel
theorem dX11_agreed_77 : decode cX11_agreed 77 = .ok (.getfield 379, 3) := by decide +kernel
theorem dX11_agreed_80 : decode cX11_agreed 80 = .ok (.iload_n 1, 1) := by decide +kernel
theorem dX11_agreed_81 : decode cX11_agreed 81 = .ok (.iload 5, 2) := by decide +kernel
theorem dX11_agreed_83 : decode cX11_agreed 83 = .ok (.iadd, 1) := by decide +kernel
theorem dX11_agreed_84 : decode cX11_agreed 84 = .ok (.invokevirtual 382, 3) := by decide +kernel
theorem dX11_agreed_87 : decode cX11_agreed 87 = .ok (.aload_n 0, 1) := by decide +kernel
theorem dX11_agreed_88 : decode cX11_agreed 88 = .ok (.getfield 53, 3) := by decide +kernel
theorem dX11_agreed_91 : decode cX11_agreed 91 = .ok (.invokevirtual 403, 3) := by decide +kernel
theorem dX11_agreed_94 : decode cX11_agreed 94 = .ok (.ifCond .eq 6, 3) := by decide +kernel
theorem dX11_agreed_97 : decode cX11_agreed 97 = .ok (.iinc 4 1, 3) := by decide +kernel
theorem dX11_agreed_100 : decode cX11_agreed 100 = .ok (.iinc 5 1, 3) := by decide +kernel
theorem dX11_agreed_103 : decode cX11_agreed 103 = .ok (.goto (-48), 3) := by decide +kernel
theorem dX11_agreed_106 : decode cX11_agreed 106 = .ok (.aload_n 0, 1) := by decide +kernel
theorem dX11_agreed_107 : decode cX11_agreed 107 = .ok (.iload 4, 2) := by decide +kernel
theorem dX11_agreed_109 : decode cX11_agreed 109 = .ok (.invokevirtual 169, 3) := by decide +kernel
theorem dX11_agreed_112 : decode cX11_agreed 112 = .ok (.ireturn, 1) := by decide +kernel
theorem dX11_seal_0 : decode cX11_seal 0 = .ok (.iload_n 1, 1) := by decide +kernel
theorem dX11_seal_1 : decode cX11_seal 1 = .ok (.invokestatic 80, 3) := by decide +kernel
theorem dX11_seal_4 : decode cX11_seal 4 = .ok (.ifCond .ne 9, 3) := by decide +kernel
theorem dX11_seal_7 : decode cX11_seal 7 = .ok (.aload_n 0, 1) := by decide +kernel
theorem dX11_seal_8 : decode cX11_seal 8 = .ok (.iconst 1, 1) := by decide +kernel
theorem dX11_seal_9 : decode cX11_seal 9 = .ok (.invokevirtual 113, 3) := by decide +kernel
theorem dX11_seal_12 : decode cX11_seal 12 = .ok (.ireturn, 1) := by decide +kernel
theorem dX11_seal_13 : decode cX11_seal 13 = .ok (.aload_n 0, 1) := by decide +kernel
theorem dX11_seal_14 : decode cX11_seal 14 = .ok (.getfield 25, 3) := by decide +kernel
theorem dX11_seal_17 : decode cX11_seal 17 = .ok (.getfield 174, 3) := by decide +kernel
theorem dX11_seal_20 : decode cX11_seal 20 = .ok (.iload_n 2, 1) := by decide +kernel
theorem dX11_seal_21 : decode cX11_seal 21 = .ok (.invokevirtual 241, 3) := by decide +kernel
theorem dX11_seal_24 : decode cX11_seal 24 = .ok (.ifCond .ne 9, 3) := by decide +kernel
theorem dX11_seal_27 : decode cX11_seal 27 = .ok (.aload_n 0, 1) := by decide +kernel
theorem dX11_seal_28 : decode cX11_seal 28 = .ok (.iconst 2, 1) := by decide +kernel
theorem dX11_seal_29 : decode cX11_seal 29 = .ok (.invokevirtual 113, 3) := by decide +kernel
theorem dX11_seal_32 : decode cX11_seal 32 = .ok (.ireturn, 1) := by decide +kernel
theorem dX11_seal_33 : decode cX11_seal 33 = .ok (.aload_n 0, 1) := by decide +kernel
theorem dX11_seal_34 : decode cX11_seal 34 = .ok (.getfield 11, 3) := by decide +kernel
theorem dX11_seal_37 : decode cX11_seal 37 = .ok (.iload_n 1, 1) := by decide +kernel
theorem dX11_seal_38 : decode cX11_seal 38 = .ok (.aaload, 1) := by decide +kernel
theorem dX11_seal_39 : decode cX11_seal 39 = .ok (.invokevirtual 84, 3) := by decide +kernel
theorem dX11_seal_42 : decode cX11_seal 42 = .ok (.ifCond .eq 9, 3) := by decide +kernel
theorem dX11_seal_45 : decode cX11_seal 45 = .ok (.aload_n 0, 1) := by decide +kernel
theorem dX11_seal_46 : decode cX11_seal 46 = .ok (.iconst 3, 1) := by decide +kernel
theorem dX11_seal_47 : decode cX11_seal 47 = .ok (.invokevirtual 113, 3) := by decide +kernel
theorem dX11_seal_50 : decode cX11_seal 50 = .ok (.ireturn, 1) := by decide +kernel
theorem dX11_seal_51 : decode cX11_seal 51 = .ok (.iload_n 2, 1) := by decide +kernel
theorem dX11_seal_52 : decode cX11_seal 52 = .ok (.invokestatic 203, 3) := by decide +kernel
theorem dX11_seal_55 : decode cX11_seal 55 = .ok (.istore_n 3, 1) := by decide +kernel
theorem dX11_seal_56 : decode cX11_seal 56 = .ok (.aload_n 0, 1) := by decide +kernel
theorem dX11_seal_57 : decode cX11_seal 57 = .ok (.getfield 11, 3) := by decide +kernel
theorem dX11_seal_60 : decode cX11_seal 60 = .ok (.iload_n 1, 1) := by decide +kernel
theorem dX11_seal_61 : decode cX11_seal 61 = .ok (.aaload, 1) := by decide +kernel
theorem dX11_seal_62 : decode cX11_seal 62 = .ok (.iconst 0, 1) := by decide +kernel
theorem dX11_seal_63 : decode cX11_seal 63 = .ok (.iload_n 3, 1) := by decide +kernel
theorem dX11_seal_64 : decode cX11_seal 64 = .ok (.iconst 3, 1) := by decide +kernel
theorem dX11_seal_65 : decode cX11_seal 65 = .ok (.iadd, 1) := by decide +kernel
theorem dX11_seal_66 : decode cX11_seal 66 = .ok (.invokevirtual 88, 3) := by decide +kernel
theorem dX11_seal_69 : decode cX11_seal 69 = .ok (.ifCond .ne 9, 3) := by decide +kernel
theorem dX11_seal_72 : decode cX11_seal 72 = .ok (.aload_n 0, 1) := by decide +kernel
theorem dX11_seal_73 : decode cX11_seal 73 = .ok (.iconst 4, 1) := by decide +kernel
theorem dX11_seal_74 : decode cX11_seal 74 = .ok (.invokevirtual 113, 3) := by decide +kernel
theorem dX11_seal_77 : decode cX11_seal 77 = .ok (.ireturn, 1) := by decide +kernel
theorem dX11_seal_78 : decode cX11_seal 78 = .ok (.aload_n 0, 1) := by decide +kernel
theorem dX11_seal_79 : decode cX11_seal 79 = .ok (.getfield 11, 3) := by decide +kernel
theorem dX11_seal_82 : decode cX11_seal 82 = .ok (.iload_n 1, 1) := by decide +kernel
theorem dX11_seal_83 : decode cX11_seal 83 = .ok (.aaload, 1) := by decide +kernel
theorem dX11_seal_84 : decode cX11_seal 84 = .ok (.getfield 125, 3) := by decide +kernel
theorem dX11_seal_87 : decode cX11_seal 87 = .ok (.ifCond .ne 9, 3) := by decide +kernel
theorem dX11_seal_90 : decode cX11_seal 90 = .ok (.aload_n 0, 1) := by decide +kernel
theorem dX11_seal_91 : decode cX11_seal 91 = .ok (.iconst 5, 1) := by decide +kernel
theorem dX11_seal_92 : decode cX11_seal 92 = .ok (.invokevirtual 113, 3) := by decide +kernel
theorem dX11_seal_95 : decode cX11_seal 95 = .ok (.ireturn, 1) := by decide +kernel
theorem dX11_seal_96 : decode cX11_seal 96 = .ok (.aload_n 0, 1) := by decide +kernel
theorem dX11_seal_97 : decode cX11_seal 97 = .ok (.getfield 25, 3) := by decide +kernel
theorem dX11_seal_100 : decode cX11_seal 100 = .ok (.getfield 174, 3) := by decide +kernel
theorem dX11_seal_103 : decode cX11_seal 103 = .ok (.iload_n 2, 1) := by decide +kernel
theorem dX11_seal_104 : decode cX11_seal 104 = .ok (.invokevirtual 244, 3) := by decide +kernel
theorem dX11_seal_107 : decode cX11_seal 107 = .ok (.ifCond .ne 10, 3) := by decide +kernel
theorem dX11_seal_110 : decode cX11_seal 110 = .ok (.aload_n 0, 1) := by decide +kernel
theorem dX11_seal_111 : decode cX11_seal 111 = .ok (.bipush 9, 2) := by decide +kernel
theorem dX11_seal_113 : decode cX11_seal 113 = .ok (.invokevirtual 113, 3) := by decide +kernel
theorem dX11_seal_116 : decode cX11_seal 116 = .ok (.ireturn, 1) := by decide +kernel
theorem dX11_seal_117 : decode cX11_seal 117 = .ok (.aload_n 0, 1) := by decide +kernel
theorem dX11_seal_118 : decode cX11_seal 118 = .ok (.aload_n 0, 1) := by decide +kernel
theorem dX11_seal_119 : decode cX11_seal 119 = .ok (.getfield 11, 3) := by decide +kernel
theorem dX11_seal_122 : decode cX11_seal 122 = .ok (.iload_n 1, 1) := by decide +kernel
theorem dX11_seal_123 : decode cX11_seal 123 = .ok (.aaload, 1) := by decide +kernel
theorem dX11_seal_124 : decode cX11_seal 124 = .ok (.iload_n 2, 1) := by decide +kernel
theorem dX11_seal_125 : decode cX11_seal 125 = .ok (.iload_n 3, 1) := by decide +kernel
theorem dX11_seal_126 : decode cX11_seal 126 = .ok (.invokevirtual 406, 3) := by decide +kernel
theorem dX11_seal_129 : decode cX11_seal 129 = .ok (.aload_n 0, 1) := by decide +kernel
theorem dX11_seal_130 : decode cX11_seal 130 = .ok (.iload_n 3, 1) := by decide +kernel
theorem dX11_seal_131 : decode cX11_seal 131 = .ok (.iconst 3, 1) := by decide +kernel
theorem dX11_seal_132 : decode cX11_seal 132 = .ok (.iadd, 1) := by decide +kernel
theorem dX11_seal_133 : decode cX11_seal 133 = .ok (.invokevirtual 169, 3) := by decide +kernel
theorem dX11_seal_136 : decode cX11_seal 136 = .ok (.ireturn, 1) := by decide +kernel
theorem dX11_writeSeal_0 : decode cX11_writeSeal 0 = .ok (.aload_n 1, 1) := by decide +kernel
theorem dX11_writeSeal_1 : decode cX11_writeSeal 1 = .ok (.iconst 0, 1) := by decide +kernel
theorem dX11_writeSeal_2 : decode cX11_writeSeal 2 = .ok (.lconst 1, 1) := by decide +kernel
theorem dX11_writeSeal_3 : decode cX11_writeSeal 3 = .ok (.invokevirtual 109, 3) := by decide +kernel
theorem dX11_writeSeal_6 : decode cX11_writeSeal 6 = .ok (.aload_n 1, 1) := by decide +kernel
theorem dX11_writeSeal_7 : decode cX11_writeSeal 7 = .ok (.iconst 1, 1) := by decide +kernel
theorem dX11_writeSeal_8 : decode cX11_writeSeal 8 = .ok (.iload_n 3, 1) := by decide +kernel
theorem dX11_writeSeal_9 : decode cX11_writeSeal 9 = .ok (.i2l, 1) := by decide +kernel
theorem dX11_writeSeal_10 : decode cX11_writeSeal 10 = .ok (.invokevirtual 109, 3) := by decide +kernel
theorem dX11_writeSeal_13 : decode cX11_writeSeal 13 = .ok (.iconst 2, 1) := by decide +kernel
theorem dX11_writeSeal_14 : decode cX11_writeSeal 14 = .ok (.istore 4, 2) := by decide +kernel
theorem dX11_writeSeal_16 : decode cX11_writeSeal 16 = .ok (.iconst 1, 1) := by decide +kernel
theorem dX11_writeSeal_17 : decode cX11_writeSeal 17 = .ok (.iload_n 3, 1) := by decide +kernel
theorem dX11_writeSeal_18 : decode cX11_writeSeal 18 = .ok (.iadd, 1) := by decide +kernel
theorem dX11_writeSeal_19 : decode cX11_writeSeal 19 = .ok (.istore 5, 2) := by decide +kernel
theorem dX11_writeSeal_21 : decode cX11_writeSeal 21 = .ok (.iconst 0, 1) := by decide +kernel
theorem dX11_writeSeal_22 : decode cX11_writeSeal 22 = .ok (.istore 6, 2) := by decide +kernel
theorem dX11_writeSeal_24 : decode cX11_writeSeal 24 = .ok (.iload 6, 2) := by decide +kernel
theorem dX11_writeSeal_26 : decode cX11_writeSeal 26 = .ok (.aload_n 0, 1) := by decide +kernel
theorem dX11_writeSeal_27 : decode cX11_writeSeal 27 = .ok (.getfield 25, 3) := by decide +kernel
theorem dX11_writeSeal_30 : decode cX11_writeSeal 30 = .ok (.getfield 174, 3) := by decide +kernel
theorem dX11_writeSeal_33 : decode cX11_writeSeal 33 = .ok (.getfield 164, 3) := by decide +kernel
theorem dX11_writeSeal_36 : decode cX11_writeSeal 36 = .ok (.if_icmp .ge 45, 3) := by decide +kernel
theorem dX11_writeSeal_39 : decode cX11_writeSeal 39 = .ok (.iload_n 2, 1) := by decide +kernel
theorem dX11_writeSeal_40 : decode cX11_writeSeal 40 = .ok (.iload 6, 2) := by decide +kernel
theorem dX11_writeSeal_42 : decode cX11_writeSeal 42 = .ok (.invokestatic 305, 3) := by decide +kernel
theorem dX11_writeSeal_45 : decode cX11_writeSeal 45 = .ok (.ifCond .eq 30, 3) := by decide +kernel
theorem dX11_writeSeal_48 : decode cX11_writeSeal 48 = .ok (.aload_n 1, 1) := by decide +kernel
theorem dX11_writeSeal_49 : decode cX11_writeSeal 49 = .ok (.iload 4, 2) := by decide +kernel
theorem dX11_writeSeal_51 : decode cX11_writeSeal 51 = .ok (.aload_n 0, 1) := by decide +kernel
theorem dX11_writeSeal_52 : decode cX11_writeSeal 52 = .ok (.iload 6, 2) := by decide +kernel
theorem dX11_writeSeal_54 : decode cX11_writeSeal 54 = .ok (.invokevirtual 410, 3) := by decide +kernel
theorem dX11_writeSeal_57 : decode cX11_writeSeal 57 = .ok (.i2l, 1) := by decide +kernel
theorem dX11_writeSeal_58 : decode cX11_writeSeal 58 = .ok (.invokevirtual 109, 3) := by decide +kernel
theorem dX11_writeSeal_61 : decode cX11_writeSeal 61 = .ok (.iload 5, 2) := by decide +kernel
theorem dX11_writeSeal_63 : decode cX11_writeSeal 63 = .ok (.aload_n 0, 1) := by decide +kernel
theorem dX11_writeSeal_64 : decode cX11_writeSeal 64 = .ok (.iload 6, 2) := by decide +kernel
theorem dX11_writeSeal_66 : decode cX11_writeSeal 66 = .ok (.invokevirtual 410, 3) := by decide +kernel
theorem dX11_writeSeal_69 : decode cX11_writeSeal 69 = .ok (.iadd, 1) := by decide +kernel
theorem dX11_writeSeal_70 : decode cX11_writeSeal 70 = .ok (.istore 5, 2) := by decide +kernel
theorem dX11_writeSeal_72 : decode cX11_writeSeal 72 = .ok (.iinc 4 1, 3) := by decide +kernel
theorem dX11_writeSeal_75 : decode cX11_writeSeal 75 = .ok (.iinc 6 1, 3) := by decide +kernel
theorem dX11_writeSeal_78 : decode cX11_writeSeal 78 = .ok (.goto (-54), 3) := by decide +kernel
theorem dX11_writeSeal_81 : decode cX11_writeSeal 81 = .ok (.aload_n 1, 1) := by decide +kernel
theorem dX11_writeSeal_82 : decode cX11_writeSeal 82 = .ok (.iload 4, 2) := by decide +kernel
theorem dX11_writeSeal_84 : decode cX11_writeSeal 84 = .ok (.iload 5, 2) := by decide +kernel
theorem dX11_writeSeal_86 : decode cX11_writeSeal 86 = .ok (.sipush 251, 3) := by decide +kernel
theorem dX11_writeSeal_89 : decode cX11_writeSeal 89 = .ok (.irem, 1) := by decide +kernel
theorem dX11_writeSeal_90 : decode cX11_writeSeal 90 = .ok (.i2l, 1) := by decide +kernel
theorem dX11_writeSeal_91 : decode cX11_writeSeal 91 = .ok (.invokevirtual 109, 3) := by decide +kernel
theorem dX11_writeSeal_94 : decode cX11_writeSeal 94 = .ok (.return_, 1) := by decide +kernel
theorem dX11_sealOf_0 : decode cX11_sealOf 0 = .ok (.aload_n 0, 1) := by decide +kernel
theorem dX11_sealOf_1 : decode cX11_sealOf 1 = .ok (.getfield 25, 3) := by decide +kernel
theorem dX11_sealOf_4 : decode cX11_sealOf 4 = .ok (.getfield 174, 3) := by decide +kernel
theorem dX11_sealOf_7 : decode cX11_sealOf 7 = .ok (.getfield 215, 3) := by decide +kernel
theorem dX11_sealOf_10 : decode cX11_sealOf 10 = .ok (.iload_n 1, 1) := by decide +kernel
theorem dX11_sealOf_11 : decode cX11_sealOf 11 = .ok (.iaload, 1) := by decide +kernel
theorem dX11_sealOf_12 : decode cX11_sealOf 12 = .ok (.iconst 5, 1) := by decide +kernel
theorem dX11_sealOf_13 : decode cX11_sealOf 13 = .ok (.iload_n 1, 1) := by decide +kernel
theorem dX11_sealOf_14 : decode cX11_sealOf 14 = .ok (.imul, 1) := by decide +kernel
theorem dX11_sealOf_15 : decode cX11_sealOf 15 = .ok (.iadd, 1) := by decide +kernel
theorem dX11_sealOf_16 : decode cX11_sealOf 16 = .ok (.ireturn, 1) := by decide +kernel
theorem dX11_open_0 : decode cX11_open 0 = .ok (.iload_n 1, 1) := by decide +kernel
theorem dX11_open_1 : decode cX11_open 1 = .ok (.invokestatic 80, 3) := by decide +kernel
theorem dX11_open_4 : decode cX11_open 4 = .ok (.ifCond .ne 9, 3) := by decide +kernel
theorem dX11_open_7 : decode cX11_open 7 = .ok (.aload_n 0, 1) := by decide +kernel
theorem dX11_open_8 : decode cX11_open 8 = .ok (.iconst 1, 1) := by decide +kernel
theorem dX11_open_9 : decode cX11_open 9 = .ok (.invokevirtual 113, 3) := by decide +kernel
theorem dX11_open_12 : decode cX11_open 12 = .ok (.ireturn, 1) := by decide +kernel
theorem dX11_open_13 : decode cX11_open 13 = .ok (.aload_n 0, 1) := by decide +kernel
theorem dX11_open_14 : decode cX11_open 14 = .ok (.getfield 11, 3) := by decide +kernel
theorem dX11_open_17 : decode cX11_open 17 = .ok (.iload_n 1, 1) := by decide +kernel
theorem dX11_open_18 : decode cX11_open 18 = .ok (.aaload, 1) := by decide +kernel
theorem dX11_open_19 : decode cX11_open 19 = .ok (.astore_n 2, 1) := by decide +kernel
theorem dX11_open_20 : decode cX11_open 20 = .ok (.aload_n 2, 1) := by decide +kernel
theorem dX11_open_21 : decode cX11_open 21 = .ok (.invokevirtual 84, 3) := by decide +kernel
theorem dX11_open_24 : decode cX11_open 24 = .ok (.ifCond .eq 9, 3) := by decide +kernel
theorem dX11_open_27 : decode cX11_open 27 = .ok (.aload_n 0, 1) := by decide +kernel
theorem dX11_open_28 : decode cX11_open 28 = .ok (.iconst 3, 1) := by decide +kernel
theorem dX11_open_29 : decode cX11_open 29 = .ok (.invokevirtual 113, 3) := by decide +kernel
theorem dX11_open_32 : decode cX11_open 32 = .ok (.ireturn, 1) := by decide +kernel
theorem dX11_open_33 : decode cX11_open 33 = .ok (.aload_n 2, 1) := by decide +kernel
theorem dX11_open_34 : decode cX11_open 34 = .ok (.iconst 0, 1) := by decide +kernel
theorem dX11_open_35 : decode cX11_open 35 = .ok (.iconst 3, 1) := by decide +kernel
theorem dX11_open_36 : decode cX11_open 36 = .ok (.invokevirtual 88, 3) := by decide +kernel
theorem dX11_open_39 : decode cX11_open 39 = .ok (.ifCond .ne 9, 3) := by decide +kernel
theorem dX11_open_42 : decode cX11_open 42 = .ok (.aload_n 0, 1) := by decide +kernel
theorem dX11_open_43 : decode cX11_open 43 = .ok (.iconst 4, 1) := by decide +kernel
theorem dX11_open_44 : decode cX11_open 44 = .ok (.invokevirtual 113, 3) := by decide +kernel
theorem dX11_open_47 : decode cX11_open 47 = .ok (.ireturn, 1) := by decide +kernel
theorem dX11_open_48 : decode cX11_open 48 = .ok (.aload_n 2, 1) := by decide +kernel
theorem dX11_open_49 : decode cX11_open 49 = .ok (.invokestatic 413, 3) := by decide +kernel
theorem dX11_open_52 : decode cX11_open 52 = .ok (.istore_n 3, 1) := by decide +kernel
theorem dX11_open_53 : decode cX11_open 53 = .ok (.iload_n 3, 1) := by decide +kernel
theorem dX11_open_54 : decode cX11_open 54 = .ok (.iconst (-1), 1) := by decide +kernel
theorem dX11_open_55 : decode cX11_open 55 = .ok (.if_icmp .ne 10, 3) := by decide +kernel
theorem dX11_open_58 : decode cX11_open 58 = .ok (.aload_n 0, 1) := by decide +kernel
theorem dX11_open_59 : decode cX11_open 59 = .ok (.bipush 9, 2) := by decide +kernel
theorem dX11_open_61 : decode cX11_open 61 = .ok (.invokevirtual 113, 3) := by decide +kernel
theorem dX11_open_64 : decode cX11_open 64 = .ok (.ireturn, 1) := by decide +kernel
theorem dX11_open_65 : decode cX11_open 65 = .ok (.aload_n 2, 1) := by decide +kernel
theorem dX11_open_66 : decode cX11_open 66 = .ok (.iconst 0, 1) := by decide +kernel
theorem dX11_open_67 : decode cX11_open 67 = .ok (.iload_n 3, 1) := by decide +kernel
theorem dX11_open_68 : decode cX11_open 68 = .ok (.iconst 3, 1) := by decide +kernel
theorem dX11_open_69 : decode cX11_open 69 = .ok (.iadd, 1) := by decide +kernel
theorem dX11_open_70 : decode cX11_open 70 = .ok (.invokevirtual 88, 3) := by decide +kernel
theorem dX11_open_73 : decode cX11_open 73 = .ok (.ifCond .ne 9, 3) := by decide +kernel
theorem dX11_open_76 : decode cX11_open 76 = .ok (.aload_n 0, 1) := by decide +kernel
theorem dX11_open_77 : decode cX11_open 77 = .ok (.iconst 4, 1) := by decide +kernel
theorem dX11_open_78 : decode cX11_open 78 = .ok (.invokevirtual 113, 3) := by decide +kernel
theorem dX11_open_81 : decode cX11_open 81 = .ok (.ireturn, 1) := by decide +kernel
theorem dX11_open_82 : decode cX11_open 82 = .ok (.aload_n 0, 1) := by decide +kernel
theorem dX11_open_83 : decode cX11_open 83 = .ok (.aload_n 2, 1) := by decide +kernel
theorem dX11_open_84 : decode cX11_open 84 = .ok (.iload_n 3, 1) := by decide +kernel
theorem dX11_open_85 : decode cX11_open 85 = .ok (.invokevirtual 417, 3) := by decide +kernel
theorem dX11_open_88 : decode cX11_open 88 = .ok (.istore 4, 2) := by decide +kernel
theorem dX11_open_90 : decode cX11_open 90 = .ok (.iload 4, 2) := by decide +kernel
theorem dX11_open_92 : decode cX11_open 92 = .ok (.iconst (-1), 1) := by decide +kernel
theorem dX11_open_93 : decode cX11_open 93 = .ok (.if_icmp .ne 12, 3) := by decide +kernel
theorem dX11_open_96 : decode cX11_open 96 = .ok (.aload_n 0, 1) := by decide +kernel
theorem dX11_open_97 : decode cX11_open 97 = .ok (.bipush 9, 2) := by decide +kernel
theorem dX11_open_99 : decode cX11_open 99 = .ok (.invokevirtual 113, 3) := by decide +kernel
theorem dX11_open_102 : decode cX11_open 102 = .ok (.goto 9, 3) := by decide +kernel
theorem dX11_open_105 : decode cX11_open 105 = .ok (.aload_n 0, 1) := by decide +kernel
theorem dX11_open_106 : decode cX11_open 106 = .ok (.iload 4, 2) := by decide +kernel
theorem dX11_open_108 : decode cX11_open 108 = .ok (.invokevirtual 169, 3) := by decide +kernel
theorem dX11_open_111 : decode cX11_open 111 = .ok (.ireturn, 1) := by decide +kernel
theorem dX11_sealedCount_0 : decode cX11_sealedCount 0 = .ok (.aload_n 0, 1) := by decide +kernel
theorem dX11_sealedCount_1 : decode cX11_sealedCount 1 = .ok (.iconst 1, 1) := by decide +kernel
theorem dX11_sealedCount_2 : decode cX11_sealedCount 2 = .ok (.invokevirtual 117, 3) := by decide +kernel
theorem dX11_sealedCount_5 : decode cX11_sealedCount 5 = .ok (.lstore_n 1, 1) := by decide +kernel
theorem dX11_sealedCount_6 : decode cX11_sealedCount 6 = .ok (.aload_n 0, 1) := by decide +kernel
theorem dX11_sealedCount_7 : decode cX11_sealedCount 7 = .ok (.iconst 0, 1) := by decide +kernel
theorem dX11_sealedCount_8 : decode cX11_sealedCount 8 = .ok (.invokevirtual 117, 3) := by decide +kernel
theorem dX11_sealedCount_11 : decode cX11_sealedCount 11 = .ok (.lconst 1, 1) := by decide +kernel
theorem dX11_sealedCount_12 : decode cX11_sealedCount 12 = .ok (.lcmp, 1) := by decide +kernel
theorem dX11_sealedCount_13 : decode cX11_sealedCount 13 = .ok (.ifCond .ne 22, 3) := by decide +kernel
theorem dX11_sealedCount_16 : decode cX11_sealedCount 16 = .ok (.lload_n 1, 1) := by decide +kernel
theorem dX11_sealedCount_17 : decode cX11_sealedCount 17 = .ok (.lconst 0, 1) := by decide +kernel
theorem dX11_sealedCount_18 : decode cX11_sealedCount 18 = .ok (.lcmp, 1) := by decide +kernel
theorem dX11_sealedCount_19 : decode cX11_sealedCount 19 = .ok (.ifCond .lt 16, 3) := by decide +kernel
theorem dX11_sealedCount_22 : decode cX11_sealedCount 22 = .ok (.lload_n 1, 1) := by decide +kernel
theorem dX11_sealedCount_23 : decode cX11_sealedCount 23 = .ok (.ldc2_w 421, 3) := by decide +kernel
theorem dX11_sealedCount_26 : decode cX11_sealedCount 26 = .ok (.lcmp, 1) := by decide +kernel
theorem dX11_sealedCount_27 : decode cX11_sealedCount 27 = .ok (.ifCond .gt 8, 3) := by decide +kernel
theorem dX11_sealedCount_30 : decode cX11_sealedCount 30 = .ok (.lload_n 1, 1) := by decide +kernel
theorem dX11_sealedCount_31 : decode cX11_sealedCount 31 = .ok (.l2i, 1) := by decide +kernel
theorem dX11_sealedCount_32 : decode cX11_sealedCount 32 = .ok (.goto 4, 3) := by decide +kernel
theorem dX11_sealedCount_35 : decode cX11_sealedCount 35 = .ok (.iconst (-1), 1) := by decide +kernel
theorem dX11_sealedCount_36 : decode cX11_sealedCount 36 = .ok (.ireturn, 1) := by decide +kernel
theorem dX11_readSeal_0 : decode cX11_readSeal 0 = .ok (.iconst 0, 1) := by decide +kernel
theorem dX11_readSeal_1 : decode cX11_readSeal 1 = .ok (.istore_n 3, 1) := by decide +kernel
theorem dX11_readSeal_2 : decode cX11_readSeal 2 = .ok (.iconst 2, 1) := by decide +kernel
theorem dX11_readSeal_3 : decode cX11_readSeal 3 = .ok (.istore 4, 2) := by decide +kernel
theorem dX11_readSeal_5 : decode cX11_readSeal 5 = .ok (.iconst 1, 1) := by decide +kernel
theorem dX11_readSeal_6 : decode cX11_readSeal 6 = .ok (.iload_n 2, 1) := by decide +kernel
theorem dX11_readSeal_7 : decode cX11_readSeal 7 = .ok (.iadd, 1) := by decide +kernel
theorem dX11_readSeal_8 : decode cX11_readSeal 8 = .ok (.istore 5, 2) := by decide +kernel
theorem dX11_readSeal_10 : decode cX11_readSeal 10 = .ok (.iconst 0, 1) := by decide +kernel
theorem dX11_readSeal_11 : decode cX11_readSeal 11 = .ok (.istore 6, 2) := by decide +kernel
theorem dX11_readSeal_13 : decode cX11_readSeal 13 = .ok (.iload 6, 2) := by decide +kernel
theorem dX11_readSeal_15 : decode cX11_readSeal 15 = .ok (.aload_n 0, 1) := by decide +kernel
theorem dX11_readSeal_16 : decode cX11_readSeal 16 = .ok (.getfield 25, 3) := by decide +kernel
theorem dX11_readSeal_19 : decode cX11_readSeal 19 = .ok (.getfield 174, 3) := by decide +kernel
theorem dX11_readSeal_22 : decode cX11_readSeal 22 = .ok (.getfield 164, 3) := by decide +kernel
theorem dX11_readSeal_25 : decode cX11_readSeal 25 = .ok (.if_icmp .ge 55, 3) := by decide +kernel
theorem dX11_readSeal_28 : decode cX11_readSeal 28 = .ok (.iload 4, 2) := by decide +kernel
theorem dX11_readSeal_30 : decode cX11_readSeal 30 = .ok (.iload_n 2, 1) := by decide +kernel
theorem dX11_readSeal_31 : decode cX11_readSeal 31 = .ok (.iconst 2, 1) := by decide +kernel
theorem dX11_readSeal_32 : decode cX11_readSeal 32 = .ok (.iadd, 1) := by decide +kernel
theorem dX11_readSeal_33 : decode cX11_readSeal 33 = .ok (.if_icmp .ge 47, 3) := by decide +kernel
theorem dX11_readSeal_36 : decode cX11_readSeal 36 = .ok (.aload_n 1, 1) := by decide +kernel
theorem dX11_readSeal_37 : decode cX11_readSeal 37 = .ok (.iload 4, 2) := by decide +kernel
theorem dX11_readSeal_39 : decode cX11_readSeal 39 = .ok (.invokevirtual 117, 3) := by decide +kernel
theorem dX11_readSeal_42 : decode cX11_readSeal 42 = .ok (.aload_n 0, 1) := by decide +kernel
theorem dX11_readSeal_43 : decode cX11_readSeal 43 = .ok (.iload 6, 2) := by decide +kernel
theorem dX11_readSeal_45 : decode cX11_readSeal 45 = .ok (.invokevirtual 410, 3) := by decide +kernel
theorem dX11_readSeal_48 : decode cX11_readSeal 48 = .ok (.i2l, 1) := by decide +kernel
theorem dX11_readSeal_49 : decode cX11_readSeal 49 = .ok (.lcmp, 1) := by decide +kernel
theorem dX11_readSeal_50 : decode cX11_readSeal 50 = .ok (.ifCond .ne 24, 3) := by decide +kernel
theorem dX11_readSeal_53 : decode cX11_readSeal 53 = .ok (.iload_n 3, 1) := by decide +kernel
theorem dX11_readSeal_54 : decode cX11_readSeal 54 = .ok (.iconst 1, 1) := by decide +kernel
theorem dX11_readSeal_55 : decode cX11_readSeal 55 = .ok (.iload 6, 2) := by decide +kernel
theorem dX11_readSeal_57 : decode cX11_readSeal 57 = .ok (.ishl, 1) := by decide +kernel
theorem dX11_readSeal_58 : decode cX11_readSeal 58 = .ok (.ior, 1) := by decide +kernel
theorem dX11_readSeal_59 : decode cX11_readSeal 59 = .ok (.istore_n 3, 1) := by decide +kernel
theorem dX11_readSeal_60 : decode cX11_readSeal 60 = .ok (.iload 5, 2) := by decide +kernel
theorem dX11_readSeal_62 : decode cX11_readSeal 62 = .ok (.aload_n 0, 1) := by decide +kernel
theorem dX11_readSeal_63 : decode cX11_readSeal 63 = .ok (.iload 6, 2) := by decide +kernel
theorem dX11_readSeal_65 : decode cX11_readSeal 65 = .ok (.invokevirtual 410, 3) := by decide +kernel
theorem dX11_readSeal_68 : decode cX11_readSeal 68 = .ok (.iadd, 1) := by decide +kernel
theorem dX11_readSeal_69 : decode cX11_readSeal 69 = .ok (.istore 5, 2) := by decide +kernel
theorem dX11_readSeal_71 : decode cX11_readSeal 71 = .ok (.iinc 4 1, 3) := by decide +kernel
theorem dX11_readSeal_74 : decode cX11_readSeal 74 = .ok (.iinc 6 1, 3) := by decide +kernel
theorem dX11_readSeal_77 : decode cX11_readSeal 77 = .ok (.goto (-64), 3) := by decide +kernel
theorem dX11_readSeal_80 : decode cX11_readSeal 80 = .ok (.iload 4, 2) := by decide +kernel
theorem dX11_readSeal_82 : decode cX11_readSeal 82 = .ok (.iload_n 2, 1) := by decide +kernel
theorem dX11_readSeal_83 : decode cX11_readSeal 83 = .ok (.iconst 2, 1) := by decide +kernel
theorem dX11_readSeal_84 : decode cX11_readSeal 84 = .ok (.iadd, 1) := by decide +kernel
theorem dX11_readSeal_85 : decode cX11_readSeal 85 = .ok (.if_icmp .ne 24, 3) := by decide +kernel
theorem dX11_readSeal_88 : decode cX11_readSeal 88 = .ok (.aload_n 1, 1) := by decide +kernel
theorem dX11_readSeal_89 : decode cX11_readSeal 89 = .ok (.iload 4, 2) := by decide +kernel
theorem dX11_readSeal_91 : decode cX11_readSeal 91 = .ok (.invokevirtual 117, 3) := by decide +kernel
theorem dX11_readSeal_94 : decode cX11_readSeal 94 = .ok (.iload 5, 2) := by decide +kernel
theorem dX11_readSeal_96 : decode cX11_readSeal 96 = .ok (.sipush 251, 3) := by decide +kernel
theorem dX11_readSeal_99 : decode cX11_readSeal 99 = .ok (.irem, 1) := by decide +kernel
theorem dX11_readSeal_100 : decode cX11_readSeal 100 = .ok (.i2l, 1) := by decide +kernel
theorem dX11_readSeal_101 : decode cX11_readSeal 101 = .ok (.lcmp, 1) := by decide +kernel
theorem dX11_readSeal_102 : decode cX11_readSeal 102 = .ok (.ifCond .ne 7, 3) := by decide +kernel
theorem dX11_readSeal_105 : decode cX11_readSeal 105 = .ok (.iconst 1, 1) := by decide +kernel
theorem dX11_readSeal_106 : decode cX11_readSeal 106 = .ok (.goto 4, 3) := by decide +kernel
theorem dX11_readSeal_109 : decode cX11_readSeal 109 = .ok (.iconst 0, 1) := by decide +kernel
theorem dX11_readSeal_110 : decode cX11_readSeal 110 = .ok (.istore 6, 2) := by decide +kernel
theorem dX11_readSeal_112 : decode cX11_readSeal 112 = .ok (.iload 6, 2) := by decide +kernel
theorem dX11_readSeal_114 : decode cX11_readSeal 114 = .ok (.ifCond .eq 21, 3) := by decide +kernel
theorem dX11_readSeal_117 : decode cX11_readSeal 117 = .ok (.aload_n 0, 1) := by decide +kernel
theorem dX11_readSeal_118 : decode cX11_readSeal 118 = .ok (.getfield 25, 3) := by decide +kernel
theorem dX11_readSeal_121 : decode cX11_readSeal 121 = .ok (.getfield 174, 3) := by decide +kernel
theorem dX11_readSeal_124 : decode cX11_readSeal 124 = .ok (.iload_n 3, 1) := by decide +kernel
theorem dX11_readSeal_125 : decode cX11_readSeal 125 = .ok (.invokevirtual 244, 3) := by decide +kernel
theorem dX11_readSeal_128 : decode cX11_readSeal 128 = .ok (.ifCond .eq 7, 3) := by decide +kernel
theorem dX11_readSeal_131 : decode cX11_readSeal 131 = .ok (.iload_n 3, 1) := by decide +kernel
theorem dX11_readSeal_132 : decode cX11_readSeal 132 = .ok (.goto 4, 3) := by decide +kernel
theorem dX11_readSeal_135 : decode cX11_readSeal 135 = .ok (.iconst (-1), 1) := by decide +kernel
theorem dX11_readSeal_136 : decode cX11_readSeal 136 = .ok (.ireturn, 1) := by decide +kernel
theorem dX11_mark_0 : decode cX11_mark 0 = .ok (.aload_n 0, 1) := by decide +kernel
theorem dX11_mark_1 : decode cX11_mark 1 = .ok (.getfield 65, 3) := by decide +kernel
theorem dX11_mark_4 : decode cX11_mark 4 = .ok (.iconst 3, 1) := by decide +kernel
theorem dX11_mark_5 : decode cX11_mark 5 = .ok (.if_icmp .lt 10, 3) := by decide +kernel
theorem dX11_mark_8 : decode cX11_mark 8 = .ok (.aload_n 0, 1) := by decide +kernel
theorem dX11_mark_9 : decode cX11_mark 9 = .ok (.bipush 7, 2) := by decide +kernel
theorem dX11_mark_11 : decode cX11_mark 11 = .ok (.invokevirtual 113, 3) := by decide +kernel
theorem dX11_mark_14 : decode cX11_mark 14 = .ok (.ireturn, 1) := by decide +kernel
theorem dX11_mark_15 : decode cX11_mark 15 = .ok (.aload_n 0, 1) := by decide +kernel
theorem dX11_mark_16 : decode cX11_mark 16 = .ok (.getfield 29, 3) := by decide +kernel
theorem dX11_mark_19 : decode cX11_mark 19 = .ok (.aload_n 0, 1) := by decide +kernel
theorem dX11_mark_20 : decode cX11_mark 20 = .ok (.getfield 65, 3) := by decide +kernel
theorem dX11_mark_23 : decode cX11_mark 23 = .ok (.aaload, 1) := by decide +kernel
theorem dX11_mark_24 : decode cX11_mark 24 = .ok (.aload_n 0, 1) := by decide +kernel
theorem dX11_mark_25 : decode cX11_mark 25 = .ok (.getfield 25, 3) := by decide +kernel
theorem dX11_mark_28 : decode cX11_mark 28 = .ok (.invokevirtual 423, 3) := by decide +kernel
theorem dX11_mark_31 : decode cX11_mark 31 = .ok (.aload_n 0, 1) := by decide +kernel
theorem dX11_mark_32 : decode cX11_mark 32 = .ok (.dup, 1) := by decide +kernel
theorem dX11_mark_33 : decode cX11_mark 33 = .ok (.getfield 65, 3) := by decide +kernel
theorem dX11_mark_36 : decode cX11_mark 36 = .ok (.iconst 1, 1) := by decide +kernel
theorem dX11_mark_37 : decode cX11_mark 37 = .ok (.iadd, 1) := by decide +kernel
theorem dX11_mark_38 : decode cX11_mark 38 = .ok (.putfield 65, 3) := by decide +kernel
theorem dX11_mark_41 : decode cX11_mark 41 = .ok (.aload_n 0, 1) := by decide +kernel
theorem dX11_mark_42 : decode cX11_mark 42 = .ok (.aload_n 0, 1) := by decide +kernel
theorem dX11_mark_43 : decode cX11_mark 43 = .ok (.getfield 65, 3) := by decide +kernel
theorem dX11_mark_46 : decode cX11_mark 46 = .ok (.invokevirtual 169, 3) := by decide +kernel
theorem dX11_mark_49 : decode cX11_mark 49 = .ok (.ireturn, 1) := by decide +kernel
theorem dX11_back_0 : decode cX11_back 0 = .ok (.aload_n 0, 1) := by decide +kernel
theorem dX11_back_1 : decode cX11_back 1 = .ok (.getfield 65, 3) := by decide +kernel
theorem dX11_back_4 : decode cX11_back 4 = .ok (.ifCond .gt 10, 3) := by decide +kernel
theorem dX11_back_7 : decode cX11_back 7 = .ok (.aload_n 0, 1) := by decide +kernel
theorem dX11_back_8 : decode cX11_back 8 = .ok (.bipush 8, 2) := by decide +kernel
theorem dX11_back_10 : decode cX11_back 10 = .ok (.invokevirtual 113, 3) := by decide +kernel
theorem dX11_back_13 : decode cX11_back 13 = .ok (.ireturn, 1) := by decide +kernel
theorem dX11_back_14 : decode cX11_back 14 = .ok (.aload_n 0, 1) := by decide +kernel
theorem dX11_back_15 : decode cX11_back 15 = .ok (.dup, 1) := by decide +kernel
theorem dX11_back_16 : decode cX11_back 16 = .ok (.getfield 65, 3) := by decide +kernel
theorem dX11_back_19 : decode cX11_back 19 = .ok (.iconst 1, 1) := by decide +kernel
theorem dX11_back_20 : decode cX11_back 20 = .ok (.isub, 1) := by decide +kernel
theorem dX11_back_21 : decode cX11_back 21 = .ok (.putfield 65, 3) := by decide +kernel
theorem dX11_back_24 : decode cX11_back 24 = .ok (.aload_n 0, 1) := by decide +kernel
theorem dX11_back_25 : decode cX11_back 25 = .ok (.getfield 25, 3) := by decide +kernel
theorem dX11_back_28 : decode cX11_back 28 = .ok (.aload_n 0, 1) := by decide +kernel
theorem dX11_back_29 : decode cX11_back 29 = .ok (.getfield 29, 3) := by decide +kernel
theorem dX11_back_32 : decode cX11_back 32 = .ok (.aload_n 0, 1) := by decide +kernel
theorem dX11_back_33 : decode cX11_back 33 = .ok (.getfield 65, 3) := by decide +kernel
theorem dX11_back_36 : decode cX11_back 36 = .ok (.aaload, 1) := by decide +kernel
theorem dX11_back_37 : decode cX11_back 37 = .ok (.invokevirtual 423, 3) := by decide +kernel
theorem dX11_back_40 : decode cX11_back 40 = .ok (.aload_n 0, 1) := by decide +kernel
theorem dX11_back_41 : decode cX11_back 41 = .ok (.aload_n 0, 1) := by decide +kernel
theorem dX11_back_42 : decode cX11_back 42 = .ok (.getfield 65, 3) := by decide +kernel
theorem dX11_back_45 : decode cX11_back 45 = .ok (.invokevirtual 169, 3) := by decide +kernel
theorem dX11_back_48 : decode cX11_back 48 = .ok (.ireturn, 1) := by decide +kernel
theorem dX12_init_0 : decode cX12_init 0 = .ok (.aload_n 0, 1) := by decide +kernel
theorem dX12_init_1 : decode cX12_init 1 = .ok (.invokespecial 1, 3) := by decide +kernel
theorem dX12_init_4 : decode cX12_init 4 = .ok (.aload_n 0, 1) := by decide +kernel
theorem dX12_init_5 : decode cX12_init 5 = .ok (.lconst 1, 1) := by decide +kernel
theorem dX12_init_6 : decode cX12_init 6 = .ok (.putfield 7, 3) := by decide +kernel
theorem dX12_init_9 : decode cX12_init 9 = .ok (.aload_n 0, 1) := by decide +kernel
theorem dX12_init_10 : decode cX12_init 10 = .ok (.iconst 4, 1) := by decide +kernel
theorem dX12_init_11 : decode cX12_init 11 = .ok (.newarray .int, 2) := by decide +kernel
theorem dX12_init_13 : decode cX12_init 13 = .ok (.putfield 13, 3) := by decide +kernel
theorem dX12_init_16 : decode cX12_init 16 = .ok (.aload_n 0, 1) := by decide +kernel
theorem dX12_init_17 : decode cX12_init 17 = .ok (.iconst 4, 1) := by decide +kernel
theorem dX12_init_18 : decode cX12_init 18 = .ok (.newarray .int, 2) := by decide +kernel
theorem dX12_init_20 : decode cX12_init 20 = .ok (.putfield 17, 3) := by decide +kernel
theorem dX12_init_23 : decode cX12_init 23 = .ok (.aload_n 0, 1) := by decide +kernel
theorem dX12_init_24 : decode cX12_init 24 = .ok (.sipush 240, 3) := by decide +kernel
theorem dX12_init_27 : decode cX12_init 27 = .ok (.newarray .long, 2) := by decide +kernel
theorem dX12_init_29 : decode cX12_init 29 = .ok (.putfield 20, 3) := by decide +kernel
theorem dX12_init_32 : decode cX12_init 32 = .ok (.aload_n 0, 1) := by decide +kernel
theorem dX12_init_33 : decode cX12_init 33 = .ok (.sipush 900, 3) := by decide +kernel
theorem dX12_init_36 : decode cX12_init 36 = .ok (.newarray .byte, 2) := by decide +kernel
theorem dX12_init_38 : decode cX12_init 38 = .ok (.putfield 24, 3) := by decide +kernel
theorem dX12_init_41 : decode cX12_init 41 = .ok (.aload_n 0, 1) := by decide +kernel
theorem dX12_init_42 : decode cX12_init 42 = .ok (.iconst (-1), 1) := by decide +kernel
theorem dX12_init_43 : decode cX12_init 43 = .ok (.putfield 28, 3) := by decide +kernel
theorem dX12_init_46 : decode cX12_init 46 = .ok (.aload_n 0, 1) := by decide +kernel
theorem dX12_init_47 : decode cX12_init 47 = .ok (.iconst (-1), 1) := by decide +kernel
theorem dX12_init_48 : decode cX12_init 48 = .ok (.putfield 32, 3) := by decide +kernel
theorem dX12_init_51 : decode cX12_init 51 = .ok (.aload_n 0, 1) := by decide +kernel
theorem dX12_init_52 : decode cX12_init 52 = .ok (.sipush 1800, 3) := by decide +kernel
theorem dX12_init_55 : decode cX12_init 55 = .ok (.newarray .int, 2) := by decide +kernel
theorem dX12_init_57 : decode cX12_init 57 = .ok (.putfield 35, 3) := by decide +kernel
theorem dX12_init_60 : decode cX12_init 60 = .ok (.aload_n 0, 1) := by decide +kernel
theorem dX12_init_61 : decode cX12_init 61 = .ok (.bipush 100, 2) := by decide +kernel
theorem dX12_init_63 : decode cX12_init 63 = .ok (.newarray .long, 2) := by decide +kernel
theorem dX12_init_65 : decode cX12_init 65 = .ok (.putfield 38, 3) := by decide +kernel
theorem dX12_init_68 : decode cX12_init 68 = .ok (.aload_n 0, 1) := by decide +kernel
theorem dX12_init_69 : decode cX12_init 69 = .ok (.bipush 16, 2) := by decide +kernel
theorem dX12_init_71 : decode cX12_init 71 = .ok (.newarray .int, 2) := by decide +kernel
theorem dX12_init_73 : decode cX12_init 73 = .ok (.putfield 41, 3) := by decide +kernel
theorem dX12_init_76 : decode cX12_init 76 = .ok (.aload_n 0, 1) := by decide +kernel
theorem dX12_init_77 : decode cX12_init 77 = .ok (.bipush 16, 2) := by decide +kernel
theorem dX12_init_79 : decode cX12_init 79 = .ok (.newarray .int, 2) := by decide +kernel
theorem dX12_init_81 : decode cX12_init 81 = .ok (.putfield 44, 3) := by decide +kernel
theorem dX12_init_84 : decode cX12_init 84 = .ok (.aload_n 0, 1) := by decide +kernel
theorem dX12_init_85 : decode cX12_init 85 = .ok (.ldc 47, 2) := by decide +kernel
theorem dX12_init_87 : decode cX12_init 87 = .ok (.newarray .long, 2) := by decide +kernel
theorem dX12_init_89 : decode cX12_init 89 = .ok (.putfield 48, 3) := by decide +kernel
theorem dX12_init_92 : decode cX12_init 92 = .ok (.aload_n 0, 1) := by decide +kernel
theorem dX12_init_93 : decode cX12_init 93 = .ok (.bipush 16, 2) := by decide +kernel
theorem dX12_init_95 : decode cX12_init 95 = .ok (.newarray .int, 2) := by decide +kernel
theorem dX12_init_97 : decode cX12_init 97 = .ok (.putfield 51, 3) := by decide +kernel
theorem dX12_init_100 : decode cX12_init 100 = .ok (.aload_n 0, 1) := by decide +kernel
theorem dX12_init_101 : decode cX12_init 101 = .ok (.bipush 20, 2) := by decide +kernel
theorem dX12_init_103 : decode cX12_init 103 = .ok (.newarray .int, 2) := by decide +kernel
theorem dX12_init_105 : decode cX12_init 105 = .ok (.putfield 54, 3) := by decide +kernel
theorem dX12_init_108 : decode cX12_init 108 = .ok (.aload_n 0, 1) := by decide +kernel
theorem dX12_init_109 : decode cX12_init 109 = .ok (.bipush 20, 2) := by decide +kernel
theorem dX12_init_111 : decode cX12_init 111 = .ok (.newarray .int, 2) := by decide +kernel
theorem dX12_init_113 : decode cX12_init 113 = .ok (.putfield 57, 3) := by decide +kernel
theorem dX12_init_116 : decode cX12_init 116 = .ok (.aload_n 0, 1) := by decide +kernel
theorem dX12_init_117 : decode cX12_init 117 = .ok (.bipush 20, 2) := by decide +kernel
theorem dX12_init_119 : decode cX12_init 119 = .ok (.newarray .int, 2) := by decide +kernel
theorem dX12_init_121 : decode cX12_init 121 = .ok (.putfield 60, 3) := by decide +kernel
theorem dX12_init_124 : decode cX12_init 124 = .ok (.aload_n 0, 1) := by decide +kernel
theorem dX12_init_125 : decode cX12_init 125 = .ok (.bipush 20, 2) := by decide +kernel
theorem dX12_init_127 : decode cX12_init 127 = .ok (.newarray .int, 2) := by decide +kernel
theorem dX12_init_129 : decode cX12_init 129 = .ok (.putfield 63, 3) := by decide +kernel
theorem dX12_init_132 : decode cX12_init 132 = .ok (.aload_n 0, 1) := by decide +kernel
theorem dX12_init_133 : decode cX12_init 133 = .ok (.iconst 5, 1) := by decide +kernel
theorem dX12_init_134 : decode cX12_init 134 = .ok (.newarray .int, 2) := by decide +kernel
theorem dX12_init_136 : decode cX12_init 136 = .ok (.putfield 66, 3) := by decide +kernel
theorem dX12_init_139 : decode cX12_init 139 = .ok (.aload_n 0, 1) := by decide +kernel
theorem dX12_init_140 : decode cX12_init 140 = .ok (.iconst 4, 1) := by decide +kernel
theorem dX12_init_141 : decode cX12_init 141 = .ok (.newarray .int, 2) := by decide +kernel
theorem dX12_init_143 : decode cX12_init 143 = .ok (.putfield 69, 3) := by decide +kernel
theorem dX12_init_146 : decode cX12_init 146 = .ok (.aload_n 0, 1) := by decide +kernel
theorem dX12_init_147 : decode cX12_init 147 = .ok (.bipush 16, 2) := by decide +kernel
theorem dX12_init_149 : decode cX12_init 149 = .ok (.newarray .int, 2) := by decide +kernel
theorem dX12_init_151 : decode cX12_init 151 = .ok (.putfield 72, 3) := by decide +kernel
theorem dX12_init_154 : decode cX12_init 154 = .ok (.iconst 0, 1) := by decide +kernel
theorem dX12_init_155 : decode cX12_init 155 = .ok (.istore_n 1, 1) := by decide +kernel
theorem dX12_init_156 : decode cX12_init 156 = .ok (.iload_n 1, 1) := by decide +kernel
theorem dX12_init_157 : decode cX12_init 157 = .ok (.iconst 4, 1) := by decide +kernel
theorem dX12_init_158 : decode cX12_init 158 = .ok (.if_icmp .ge 16, 3) := by decide +kernel
theorem dX12_init_161 : decode cX12_init 161 = .ok (.aload_n 0, 1) := by decide +kernel
theorem dX12_init_162 : decode cX12_init 162 = .ok (.getfield 17, 3) := by decide +kernel
theorem dX12_init_165 : decode cX12_init 165 = .ok (.iload_n 1, 1) := by decide +kernel
theorem dX12_init_166 : decode cX12_init 166 = .ok (.iconst (-1), 1) := by decide +kernel
theorem dX12_init_167 : decode cX12_init 167 = .ok (.iastore, 1) := by decide +kernel
theorem dX12_init_168 : decode cX12_init 168 = .ok (.iinc 1 1, 3) := by decide +kernel
theorem dX12_init_171 : decode cX12_init 171 = .ok (.goto (-15), 3) := by decide +kernel
theorem dX12_init_174 : decode cX12_init 174 = .ok (.return_, 1) := by decide +kernel
theorem dX12_status_0 : decode cX12_status 0 = .ok (.aload_n 0, 1) := by decide +kernel
theorem dX12_status_1 : decode cX12_status 1 = .ok (.iconst 0, 1) := by decide +kernel
theorem dX12_status_2 : decode cX12_status 2 = .ok (.putfield 75, 3) := by decide +kernel
theorem dX12_status_5 : decode cX12_status 5 = .ok (.aload_n 0, 1) := by decide +kernel
theorem dX12_status_6 : decode cX12_status 6 = .ok (.getfield 78, 3) := by decide +kernel
theorem dX12_status_9 : decode cX12_status 9 = .ok (.ireturn, 1) := by decide +kernel
theorem dX12_top_0 : decode cX12_top 0 = .ok (.aload_n 0, 1) := by decide +kernel
theorem dX12_top_1 : decode cX12_top 1 = .ok (.iconst 0, 1) := by decide +kernel
theorem dX12_top_2 : decode cX12_top 2 = .ok (.putfield 75, 3) := by decide +kernel
theorem dX12_top_5 : decode cX12_top 5 = .ok (.aload_n 0, 1) := by decide +kernel
theorem dX12_top_6 : decode cX12_top 6 = .ok (.getfield 81, 3) := by decide +kernel
theorem dX12_top_9 : decode cX12_top 9 = .ok (.lreturn, 1) := by decide +kernel
theorem dX12_bottom_0 : decode cX12_bottom 0 = .ok (.aload_n 0, 1) := by decide +kernel
theorem dX12_bottom_1 : decode cX12_bottom 1 = .ok (.iconst 0, 1) := by decide +kernel
theorem dX12_bottom_2 : decode cX12_bottom 2 = .ok (.putfield 75, 3) := by decide +kernel
theorem dX12_bottom_5 : decode cX12_bottom 5 = .ok (.aload_n 0, 1) := by decide +kernel
theorem dX12_bottom_6 : decode cX12_bottom 6 = .ok (.getfield 7, 3) := by decide +kernel
theorem dX12_bottom_9 : decode cX12_bottom 9 = .ok (.lreturn, 1) := by decide +kernel
theorem dX12_refuse_0 : decode cX12_refuse 0 = .ok (.aload_n 0, 1) := by decide +kernel
theorem dX12_refuse_1 : decode cX12_refuse 1 = .ok (.iload_n 1, 1) := by decide +kernel
theorem dX12_refuse_2 : decode cX12_refuse 2 = .ok (.putfield 78, 3) := by decide +kernel
theorem dX12_refuse_5 : decode cX12_refuse 5 = .ok (.iconst (-1), 1) := by decide +kernel
theorem dX12_refuse_6 : decode cX12_refuse 6 = .ok (.ireturn, 1) := by decide +kernel
theorem dX12_no_0 : decode cX12_no 0 = .ok (.aload_n 0, 1) := by decide +kernel
theorem dX12_no_1 : decode cX12_no 1 = .ok (.iload_n 1, 1) := by decide +kernel
theorem dX12_no_2 : decode cX12_no 2 = .ok (.putfield 78, 3) := by decide +kernel
theorem dX12_no_5 : decode cX12_no 5 = .ok (.iconst 0, 1) := by decide +kernel
theorem dX12_no_6 : decode cX12_no 6 = .ok (.ireturn, 1) := by decide +kernel
theorem dX12_isIn_0 : decode cX12_isIn 0 = .ok (.lload_n 0, 1) := by decide +kernel
theorem dX12_isIn_1 : decode cX12_isIn 1 = .ok (.lload_n 2, 1) := by decide +kernel
theorem dX12_isIn_2 : decode cX12_isIn 2 = .ok (.lcmp, 1) := by decide +kernel
theorem dX12_isIn_3 : decode cX12_isIn 3 = .ok (.ifCond .lt 14, 3) := by decide +kernel
theorem dX12_isIn_6 : decode cX12_isIn 6 = .ok (.lload_n 0, 1) := by decide +kernel
theorem dX12_isIn_7 : decode cX12_isIn 7 = .ok (.lload 4, 2) := by decide +kernel
theorem dX12_isIn_9 : decode cX12_isIn 9 = .ok (.lcmp, 1) := by decide +kernel
theorem dX12_isIn_10 : decode cX12_isIn 10 = .ok (.ifCond .gt 7, 3) := by decide +kernel
theorem dX12_isIn_13 : decode cX12_isIn 13 = .ok (.iconst 1, 1) := by decide +kernel
theorem dX12_isIn_14 : decode cX12_isIn 14 = .ok (.goto 4, 3) := by decide +kernel
theorem dX12_isIn_17 : decode cX12_isIn 17 = .ok (.iconst 0, 1) := by decide +kernel
theorem dX12_isIn_18 : decode cX12_isIn 18 = .ok (.ireturn, 1) := by decide +kernel
theorem dX12_fraction_0 : decode cX12_fraction 0 = .ok (.lload_n 1, 1) := by decide +kernel
theorem dX12_fraction_1 : decode cX12_fraction 1 = .ok (.invokestatic 84, 3) := by decide +kernel
theorem dX12_fraction_4 : decode cX12_fraction 4 = .ok (.lstore 5, 2) := by decide +kernel
theorem dX12_fraction_6 : decode cX12_fraction 6 = .ok (.lload_n 3, 1) := by decide +kernel
theorem dX12_fraction_7 : decode cX12_fraction 7 = .ok (.lstore 7, 2) := by decide +kernel
theorem dX12_fraction_9 : decode cX12_fraction 9 = .ok (.lload 7, 2) := by decide +kernel
theorem dX12_fraction_11 : decode cX12_fraction 11 = .ok (.lconst 0, 1) := by decide +kernel
theorem dX12_fraction_12 : decode cX12_fraction 12 = .ok (.lcmp, 1) := by decide +kernel
theorem dX12_fraction_13 : decode cX12_fraction 13 = .ok (.ifCond .eq 21, 3) := by decide +kernel
theorem dX12_fraction_16 : decode cX12_fraction 16 = .ok (.lload 5, 2) := by decide +kernel
theorem dX12_fraction_18 : decode cX12_fraction 18 = .ok (.lload 7, 2) := by decide +kernel
theorem dX12_fraction_20 : decode cX12_fraction 20 = .ok (.lrem, 1) := by decide +kernel
theorem dX12_fraction_21 : decode cX12_fraction 21 = .ok (.lstore 9, 2) := by decide +kernel
theorem dX12_fraction_23 : decode cX12_fraction 23 = .ok (.lload 7, 2) := by decide +kernel
theorem dX12_fraction_25 : decode cX12_fraction 25 = .ok (.lstore 5, 2) := by decide +kernel
theorem dX12_fraction_27 : decode cX12_fraction 27 = .ok (.lload 9, 2) := by decide +kernel
theorem dX12_fraction_29 : decode cX12_fraction 29 = .ok (.lstore 7, 2) := by decide +kernel
theorem dX12_fraction_31 : decode cX12_fraction 31 = .ok (.goto (-22), 3) := by decide +kernel
theorem dX12_fraction_34 : decode cX12_fraction 34 = .ok (.aload_n 0, 1) := by decide +kernel
theorem dX12_fraction_35 : decode cX12_fraction 35 = .ok (.lload_n 1, 1) := by decide +kernel
theorem dX12_fraction_36 : decode cX12_fraction 36 = .ok (.lload 5, 2) := by decide +kernel
theorem dX12_fraction_38 : decode cX12_fraction 38 = .ok (.ldiv, 1) := by decide +kernel
theorem dX12_fraction_39 : decode cX12_fraction 39 = .ok (.putfield 81, 3) := by decide +kernel
theorem dX12_fraction_42 : decode cX12_fraction 42 = .ok (.aload_n 0, 1) := by decide +kernel
theorem dX12_fraction_43 : decode cX12_fraction 43 = .ok (.lload_n 3, 1) := by decide +kernel
theorem dX12_fraction_44 : decode cX12_fraction 44 = .ok (.lload 5, 2) := by decide +kernel
theorem dX12_fraction_46 : decode cX12_fraction 46 = .ok (.ldiv, 1) := by decide +kernel
theorem dX12_fraction_47 : decode cX12_fraction 47 = .ok (.putfield 7, 3) := by decide +kernel
theorem dX12_fraction_50 : decode cX12_fraction 50 = .ok (.iconst 1, 1) := by decide +kernel
theorem dX12_fraction_51 : decode cX12_fraction 51 = .ok (.ireturn, 1) := by decide +kernel
theorem dX12_cut_0 : decode cX12_cut 0 = .ok (.iload_n 0, 1) := by decide +kernel
theorem dX12_cut_1 : decode cX12_cut 1 = .ok (.ifCond .ne 10, 3) := by decide +kernel
theorem dX12_cut_4 : decode cX12_cut 4 = .ok (.lload_n 1, 1) := by decide +kernel
theorem dX12_cut_5 : decode cX12_cut 5 = .ok (.l2i, 1) := by decide +kernel
theorem dX12_cut_6 : decode cX12_cut 6 = .ok (.i2b, 1) := by decide +kernel
theorem dX12_cut_7 : decode cX12_cut 7 = .ok (.i2l, 1) := by decide +kernel
theorem dX12_cut_8 : decode cX12_cut 8 = .ok (.goto 27, 3) := by decide +kernel
theorem dX12_cut_11 : decode cX12_cut 11 = .ok (.iload_n 0, 1) := by decide +kernel
theorem dX12_cut_12 : decode cX12_cut 12 = .ok (.iconst 1, 1) := by decide +kernel
theorem dX12_cut_13 : decode cX12_cut 13 = .ok (.if_icmp .ne 10, 3) := by decide +kernel
theorem dX12_cut_16 : decode cX12_cut 16 = .ok (.lload_n 1, 1) := by decide +kernel
theorem dX12_cut_17 : decode cX12_cut 17 = .ok (.l2i, 1) := by decide +kernel
theorem dX12_cut_18 : decode cX12_cut 18 = .ok (.i2s, 1) := by decide +kernel
theorem dX12_cut_19 : decode cX12_cut 19 = .ok (.i2l, 1) := by decide +kernel
theorem dX12_cut_20 : decode cX12_cut 20 = .ok (.goto 15, 3) := by decide +kernel
theorem dX12_cut_23 : decode cX12_cut 23 = .ok (.iload_n 0, 1) := by decide +kernel
theorem dX12_cut_24 : decode cX12_cut 24 = .ok (.iconst 2, 1) := by decide +kernel
theorem dX12_cut_25 : decode cX12_cut 25 = .ok (.if_icmp .ne 9, 3) := by decide +kernel
theorem dX12_cut_28 : decode cX12_cut 28 = .ok (.lload_n 1, 1) := by decide +kernel
theorem dX12_cut_29 : decode cX12_cut 29 = .ok (.l2i, 1) := by decide +kernel
theorem dX12_cut_30 : decode cX12_cut 30 = .ok (.i2l, 1) := by decide +kernel
theorem dX12_cut_31 : decode cX12_cut 31 = .ok (.goto 4, 3) := by decide +kernel
theorem dX12_cut_34 : decode cX12_cut 34 = .ok (.lload_n 1, 1) := by decide +kernel
theorem dX12_cut_35 : decode cX12_cut 35 = .ok (.lreturn, 1) := by decide +kernel
theorem dX12_tray_0 : decode cX12_tray 0 = .ok (.aload_n 0, 1) := by decide +kernel
theorem dX12_tray_1 : decode cX12_tray 1 = .ok (.iconst 0, 1) := by decide +kernel
theorem dX12_tray_2 : decode cX12_tray 2 = .ok (.putfield 75, 3) := by decide +kernel
theorem dX12_tray_5 : decode cX12_tray 5 = .ok (.aload_n 0, 1) := by decide +kernel
theorem dX12_tray_6 : decode cX12_tray 6 = .ok (.iconst 0, 1) := by decide +kernel
theorem dX12_tray_7 : decode cX12_tray 7 = .ok (.putfield 78, 3) := by decide +kernel
theorem dX12_tray_10 : decode cX12_tray 10 = .ok (.iload_n 1, 1) := by decide +kernel
theorem dX12_tray_11 : decode cX12_tray 11 = .ok (.ifCond .lt 17, 3) := by decide +kernel
theorem dX12_tray_14 : decode cX12_tray 14 = .ok (.iload_n 1, 1) := by decide +kernel
theorem dX12_tray_15 : decode cX12_tray 15 = .ok (.iconst 4, 1) := by decide +kernel
theorem dX12_tray_16 : decode cX12_tray 16 = .ok (.if_icmp .ge 12, 3) := by decide +kernel
theorem dX12_tray_19 : decode cX12_tray 19 = .ok (.iload_n 2, 1) := by decide +kernel
theorem dX12_tray_20 : decode cX12_tray 20 = .ok (.ifCond .lt 8, 3) := by decide +kernel
theorem dX12_tray_23 : decode cX12_tray 23 = .ok (.iload_n 2, 1) := by decide +kernel
theorem dX12_tray_24 : decode cX12_tray 24 = .ok (.iconst 3, 1) := by decide +kernel
theorem dX12_tray_25 : decode cX12_tray 25 = .ok (.if_icmp .le 9, 3) := by decide +kernel
theorem dX12_tray_28 : decode cX12_tray 28 = .ok (.aload_n 0, 1) := by decide +kernel
theorem dX12_tray_29 : decode cX12_tray 29 = .ok (.iconst 1, 1) := by decide +kernel
theorem dX12_tray_30 : decode cX12_tray 30 = .ok (.invokevirtual 90, 3) := by decide +kernel
theorem dX12_tray_33 : decode cX12_tray 33 = .ok (.ireturn, 1) := by decide +kernel
theorem dX12_tray_34 : decode cX12_tray 34 = .ok (.iload_n 3, 1) := by decide +kernel
theorem dX12_tray_35 : decode cX12_tray 35 = .ok (.bipush 60, 2) := by decide +kernel
theorem dX12_tray_37 : decode cX12_tray 37 = .ok (.if_icmp .le 9, 3) := by decide +kernel
theorem dX12_tray_40 : decode cX12_tray 40 = .ok (.aload_n 0, 1) := by decide +kernel
theorem dX12_tray_41 : decode cX12_tray 41 = .ok (.iconst 5, 1) := by decide +kernel
theorem dX12_tray_42 : decode cX12_tray 42 = .ok (.invokevirtual 90, 3) := by decide +kernel
theorem dX12_tray_45 : decode cX12_tray 45 = .ok (.ireturn, 1) := by decide +kernel
theorem dX12_tray_46 : decode cX12_tray 46 = .ok (.iload_n 3, 1) := by decide +kernel
theorem dX12_tray_47 : decode cX12_tray 47 = .ok (.ifCond .ge 10, 3) := by decide +kernel
theorem dX12_tray_50 : decode cX12_tray 50 = .ok (.aload_n 0, 1) := by decide +kernel
theorem dX12_tray_51 : decode cX12_tray 51 = .ok (.bipush 6, 2) := by decide +kernel
theorem dX12_tray_53 : decode cX12_tray 53 = .ok (.invokevirtual 90, 3) := by decide +kernel
theorem dX12_tray_56 : decode cX12_tray 56 = .ok (.ireturn, 1) := by decide +kernel
theorem dX12_tray_57 : decode cX12_tray 57 = .ok (.aload_n 0, 1) := by decide +kernel
theorem dX12_tray_58 : decode cX12_tray 58 = .ok (.getfield 13, 3) := by decide +kernel
theorem dX12_tray_61 : decode cX12_tray 61 = .ok (.iload_n 1, 1) := by decide +kernel
theorem dX12_tray_62 : decode cX12_tray 62 = .ok (.iload_n 2, 1) := by decide +kernel
theorem dX12_tray_63 : decode cX12_tray 63 = .ok (.iastore, 1) := by decide +kernel
theorem dX12_tray_64 : decode cX12_tray 64 = .ok (.aload_n 0, 1) := by decide +kernel
theorem dX12_tray_65 : decode cX12_tray 65 = .ok (.getfield 17, 3) := by decide +kernel
theorem dX12_tray_68 : decode cX12_tray 68 = .ok (.iload_n 1, 1) := by decide +kernel
theorem dX12_tray_69 : decode cX12_tray 69 = .ok (.iload_n 3, 1) := by decide +kernel
theorem dX12_tray_70 : decode cX12_tray 70 = .ok (.iastore, 1) := by decide +kernel
theorem dX12_tray_71 : decode cX12_tray 71 = .ok (.iconst 0, 1) := by decide +kernel
theorem dX12_tray_72 : decode cX12_tray 72 = .ok (.istore 4, 2) := by decide +kernel
theorem dX12_tray_74 : decode cX12_tray 74 = .ok (.iload 4, 2) := by decide +kernel
theorem dX12_tray_76 : decode cX12_tray 76 = .ok (.iload_n 3, 1) := by decide +kernel
theorem dX12_tray_77 : decode cX12_tray 77 = .ok (.if_icmp .ge 22, 3) := by decide +kernel
theorem dX12_tray_80 : decode cX12_tray 80 = .ok (.aload_n 0, 1) := by decide +kernel
theorem dX12_tray_81 : decode cX12_tray 81 = .ok (.getfield 20, 3) := by decide +kernel
theorem dX12_tray_84 : decode cX12_tray 84 = .ok (.bipush 60, 2) := by decide +kernel
theorem dX12_tray_86 : decode cX12_tray 86 = .ok (.iload_n 1, 1) := by decide +kernel
theorem dX12_tray_87 : decode cX12_tray 87 = .ok (.imul, 1) := by decide +kernel
theorem dX12_tray_88 : decode cX12_tray 88 = .ok (.iload 4, 2) := by decide +kernel
theorem dX12_tray_90 : decode cX12_tray 90 = .ok (.iadd, 1) := by decide +kernel
theorem dX12_tray_91 : decode cX12_tray 91 = .ok (.lconst 0, 1) := by decide +kernel
theorem dX12_tray_92 : decode cX12_tray 92 = .ok (.lastore, 1) := by decide +kernel
theorem dX12_tray_93 : decode cX12_tray 93 = .ok (.iinc 4 1, 3) := by decide +kernel
theorem dX12_tray_96 : decode cX12_tray 96 = .ok (.goto (-22), 3) := by decide +kernel
theorem dX12_tray_99 : decode cX12_tray 99 = .ok (.iconst 1, 1) := by decide +kernel
theorem dX12_tray_100 : decode cX12_tray 100 = .ok (.ireturn, 1) := by decide +kernel
theorem dX12_trayed_0 : decode cX12_trayed 0 = .ok (.iload_n 1, 1) := by decide +kernel
theorem dX12_trayed_1 : decode cX12_trayed 1 = .ok (.ifCond .lt 8, 3) := by decide +kernel
theorem dX12_trayed_4 : decode cX12_trayed 4 = .ok (.iload_n 1, 1) := by decide +kernel
theorem dX12_trayed_5 : decode cX12_trayed 5 = .ok (.iconst 4, 1) := by decide +kernel
theorem dX12_trayed_6 : decode cX12_trayed 6 = .ok (.if_icmp .lt 7, 3) := by decide +kernel
theorem dX12_trayed_9 : decode cX12_trayed 9 = .ok (.iconst 1, 1) := by decide +kernel
theorem dX12_trayed_10 : decode cX12_trayed 10 = .ok (.goto 17, 3) := by decide +kernel
theorem dX12_trayed_13 : decode cX12_trayed 13 = .ok (.aload_n 0, 1) := by decide +kernel
theorem dX12_trayed_14 : decode cX12_trayed 14 = .ok (.getfield 17, 3) := by decide +kernel
theorem dX12_trayed_17 : decode cX12_trayed 17 = .ok (.iload_n 1, 1) := by decide +kernel
theorem dX12_trayed_18 : decode cX12_trayed 18 = .ok (.iaload, 1) := by decide +kernel
theorem dX12_trayed_19 : decode cX12_trayed 19 = .ok (.ifCond .ge 7, 3) := by decide +kernel
theorem dX12_trayed_22 : decode cX12_trayed 22 = .ok (.iconst 3, 1) := by decide +kernel
theorem dX12_trayed_23 : decode cX12_trayed 23 = .ok (.goto 4, 3) := by decide +kernel
theorem dX12_trayed_26 : decode cX12_trayed 26 = .ok (.iconst 0, 1) := by decide +kernel
theorem dX12_trayed_27 : decode cX12_trayed 27 = .ok (.ireturn, 1) := by decide +kernel
theorem dX12_placed_0 : decode cX12_placed 0 = .ok (.aload_n 0, 1) := by decide +kernel
theorem dX12_placed_1 : decode cX12_placed 1 = .ok (.iload_n 1, 1) := by decide +kernel
theorem dX12_placed_2 : decode cX12_placed 2 = .ok (.invokevirtual 94, 3) := by decide +kernel
theorem dX12_placed_5 : decode cX12_placed 5 = .ok (.istore_n 3, 1) := by decide +kernel
theorem dX12_placed_6 : decode cX12_placed 6 = .ok (.iload_n 3, 1) := by decide +kernel
theorem dX12_placed_7 : decode cX12_placed 7 = .ok (.ifCond .le 7, 3) := by decide +kernel
theorem dX12_placed_10 : decode cX12_placed 10 = .ok (.iload_n 3, 1) := by decide +kernel
theorem dX12_placed_11 : decode cX12_placed 11 = .ok (.goto 22, 3) := by decide +kernel
theorem dX12_placed_14 : decode cX12_placed 14 = .ok (.iload_n 2, 1) := by decide +kernel
theorem dX12_placed_15 : decode cX12_placed 15 = .ok (.ifCond .lt 13, 3) := by decide +kernel
theorem dX12_placed_18 : decode cX12_placed 18 = .ok (.iload_n 2, 1) := by decide +kernel
theorem dX12_placed_19 : decode cX12_placed 19 = .ok (.aload_n 0, 1) := by decide +kernel
theorem dX12_placed_20 : decode cX12_placed 20 = .ok (.getfield 17, 3) := by decide +kernel
theorem dX12_placed_23 : decode cX12_placed 23 = .ok (.iload_n 1, 1) := by decide +kernel
theorem dX12_placed_24 : decode cX12_placed 24 = .ok (.iaload, 1) := by decide +kernel
theorem dX12_placed_25 : decode cX12_placed 25 = .ok (.if_icmp .lt 7, 3) := by decide +kernel
theorem dX12_placed_28 : decode cX12_placed 28 = .ok (.iconst 4, 1) := by decide +kernel
theorem dX12_placed_29 : decode cX12_placed 29 = .ok (.goto 4, 3) := by decide +kernel
theorem dX12_placed_32 : decode cX12_placed 32 = .ok (.iconst 0, 1) := by decide +kernel
theorem dX12_placed_33 : decode cX12_placed 33 = .ok (.ireturn, 1) := by decide +kernel
theorem dX12_write_0 : decode cX12_write 0 = .ok (.aload_n 0, 1) := by decide +kernel
theorem dX12_write_1 : decode cX12_write 1 = .ok (.iconst 0, 1) := by decide +kernel
theorem dX12_write_2 : decode cX12_write 2 = .ok (.putfield 75, 3) := by decide +kernel
theorem dX12_write_5 : decode cX12_write 5 = .ok (.aload_n 0, 1) := by decide +kernel
theorem dX12_write_6 : decode cX12_write 6 = .ok (.aload_n 0, 1) := by decide +kernel
theorem dX12_write_7 : decode cX12_write 7 = .ok (.iload_n 1, 1) := by decide +kernel
theorem dX12_write_8 : decode cX12_write 8 = .ok (.iload_n 2, 1) := by decide +kernel
theorem dX12_write_9 : decode cX12_write 9 = .ok (.invokevirtual 98, 3) := by decide +kernel
theorem dX12_write_12 : decode cX12_write 12 = .ok (.putfield 78, 3) := by decide +kernel
theorem dX12_write_15 : decode cX12_write 15 = .ok (.aload_n 0, 1) := by decide +kernel
theorem dX12_write_16 : decode cX12_write 16 = .ok (.getfield 78, 3) := by decide +kernel
theorem dX12_write_19 : decode cX12_write 19 = .ok (.ifCond .le 5, 3) := by decide +kernel
theorem dX12_write_22 : decode cX12_write 22 = .ok (.iconst 0, 1) := by decide +kernel
theorem dX12_write_23 : decode cX12_write 23 = .ok (.ireturn, 1) := by decide +kernel
theorem dX12_write_24 : decode cX12_write 24 = .ok (.aload_n 0, 1) := by decide +kernel
theorem dX12_write_25 : decode cX12_write 25 = .ok (.getfield 20, 3) := by decide +kernel
theorem dX12_write_28 : decode cX12_write 28 = .ok (.bipush 60, 2) := by decide +kernel
theorem dX12_write_30 : decode cX12_write 30 = .ok (.iload_n 1, 1) := by decide +kernel
theorem dX12_write_31 : decode cX12_write 31 = .ok (.imul, 1) := by decide +kernel
theorem dX12_write_32 : decode cX12_write 32 = .ok (.iload_n 2, 1) := by decide +kernel
theorem dX12_write_33 : decode cX12_write 33 = .ok (.iadd, 1) := by decide +kernel
theorem dX12_write_34 : decode cX12_write 34 = .ok (.aload_n 0, 1) := by decide +kernel
theorem dX12_write_35 : decode cX12_write 35 = .ok (.getfield 13, 3) := by decide +kernel
theorem dX12_write_38 : decode cX12_write 38 = .ok (.iload_n 1, 1) := by decide +kernel
theorem dX12_write_39 : decode cX12_write 39 = .ok (.iaload, 1) := by decide +kernel
theorem dX12_write_40 : decode cX12_write 40 = .ok (.lload_n 3, 1) := by decide +kernel
theorem dX12_write_41 : decode cX12_write 41 = .ok (.invokestatic 102, 3) := by decide +kernel
theorem dX12_write_44 : decode cX12_write 44 = .ok (.lastore, 1) := by decide +kernel
theorem dX12_write_45 : decode cX12_write 45 = .ok (.iconst 1, 1) := by decide +kernel
theorem dX12_write_46 : decode cX12_write 46 = .ok (.ireturn, 1) := by decide +kernel
theorem dX12_read_0 : decode cX12_read 0 = .ok (.aload_n 0, 1) := by decide +kernel
theorem dX12_read_1 : decode cX12_read 1 = .ok (.iconst 0, 1) := by decide +kernel
theorem dX12_read_2 : decode cX12_read 2 = .ok (.putfield 75, 3) := by decide +kernel
theorem dX12_read_5 : decode cX12_read 5 = .ok (.aload_n 0, 1) := by decide +kernel
theorem dX12_read_6 : decode cX12_read 6 = .ok (.aload_n 0, 1) := by decide +kernel
theorem dX12_read_7 : decode cX12_read 7 = .ok (.iload_n 1, 1) := by decide +kernel
theorem dX12_read_8 : decode cX12_read 8 = .ok (.iload_n 2, 1) := by decide +kernel
theorem dX12_read_9 : decode cX12_read 9 = .ok (.invokevirtual 98, 3) := by decide +kernel
theorem dX12_read_12 : decode cX12_read 12 = .ok (.putfield 78, 3) := by decide +kernel
theorem dX12_read_15 : decode cX12_read 15 = .ok (.aload_n 0, 1) := by decide +kernel
theorem dX12_read_16 : decode cX12_read 16 = .ok (.getfield 78, 3) := by decide +kernel
theorem dX12_read_19 : decode cX12_read 19 = .ok (.ifCond .le 9, 3) := by decide +kernel
theorem dX12_read_22 : decode cX12_read 22 = .ok (.ldc2_w 106, 3) := by decide +kernel
theorem dX12_read_25 : decode cX12_read 25 = .ok (.goto 14, 3) := by decide +kernel
theorem dX12_read_28 : decode cX12_read 28 = .ok (.aload_n 0, 1) := by decide +kernel
theorem dX12_read_29 : decode cX12_read 29 = .ok (.getfield 20, 3) := by decide +kernel
theorem dX12_read_32 : decode cX12_read 32 = .ok (.bipush 60, 2) := by decide +kernel
theorem dX12_read_34 : decode cX12_read 34 = .ok (.iload_n 1, 1) := by decide +kernel
theorem dX12_read_35 : decode cX12_read 35 = .ok (.imul, 1) := by decide +kernel
theorem dX12_read_36 : decode cX12_read 36 = .ok (.iload_n 2, 1) := by decide +kernel
theorem dX12_read_37 : decode cX12_read 37 = .ok (.iadd, 1) := by decide +kernel
theorem dX12_read_38 : decode cX12_read 38 = .ok (.laload, 1) := by decide +kernel
theorem dX12_read_39 : decode cX12_read 39 = .ok (.lreturn, 1) := by decide +kernel
theorem dX12_pour_0 : decode cX12_pour 0 = .ok (.aload_n 0, 1) := by decide +kernel
theorem dX12_pour_1 : decode cX12_pour 1 = .ok (.iconst 0, 1) := by decide +kernel
theorem dX12_pour_2 : decode cX12_pour 2 = .ok (.putfield 75, 3) := by decide +kernel
theorem dX12_pour_5 : decode cX12_pour 5 = .ok (.aload_n 0, 1) := by decide +kernel
theorem dX12_pour_6 : decode cX12_pour 6 = .ok (.iconst 0, 1) := by decide +kernel
theorem dX12_pour_7 : decode cX12_pour 7 = .ok (.putfield 78, 3) := by decide +kernel
theorem dX12_pour_10 : decode cX12_pour 10 = .ok (.iload_n 1, 1) := by decide +kernel
theorem dX12_pour_11 : decode cX12_pour 11 = .ok (.ifCond .lt 17, 3) := by decide +kernel
theorem dX12_pour_14 : decode cX12_pour 14 = .ok (.iload_n 1, 1) := by decide +kernel
theorem dX12_pour_15 : decode cX12_pour 15 = .ok (.iconst 4, 1) := by decide +kernel
theorem dX12_pour_16 : decode cX12_pour 16 = .ok (.if_icmp .ge 12, 3) := by decide +kernel
theorem dX12_pour_19 : decode cX12_pour 19 = .ok (.iload_n 3, 1) := by decide +kernel
theorem dX12_pour_20 : decode cX12_pour 20 = .ok (.ifCond .lt 8, 3) := by decide +kernel
theorem dX12_pour_23 : decode cX12_pour 23 = .ok (.iload_n 3, 1) := by decide +kernel
theorem dX12_pour_24 : decode cX12_pour 24 = .ok (.iconst 4, 1) := by decide +kernel
theorem dX12_pour_25 : decode cX12_pour 25 = .ok (.if_icmp .lt 9, 3) := by decide +kernel
theorem dX12_pour_28 : decode cX12_pour 28 = .ok (.aload_n 0, 1) := by decide +kernel
theorem dX12_pour_29 : decode cX12_pour 29 = .ok (.iconst 1, 1) := by decide +kernel
theorem dX12_pour_30 : decode cX12_pour 30 = .ok (.invokevirtual 90, 3) := by decide +kernel
theorem dX12_pour_33 : decode cX12_pour 33 = .ok (.ireturn, 1) := by decide +kernel
theorem dX12_pour_34 : decode cX12_pour 34 = .ok (.aload_n 0, 1) := by decide +kernel
theorem dX12_pour_35 : decode cX12_pour 35 = .ok (.getfield 17, 3) := by decide +kernel
theorem dX12_pour_38 : decode cX12_pour 38 = .ok (.iload_n 1, 1) := by decide +kernel
theorem dX12_pour_39 : decode cX12_pour 39 = .ok (.iaload, 1) := by decide +kernel
theorem dX12_pour_40 : decode cX12_pour 40 = .ok (.ifCond .lt 12, 3) := by decide +kernel
theorem dX12_pour_43 : decode cX12_pour 43 = .ok (.aload_n 0, 1) := by decide +kernel
theorem dX12_pour_44 : decode cX12_pour 44 = .ok (.getfield 17, 3) := by decide +kernel
theorem dX12_pour_47 : decode cX12_pour 47 = .ok (.iload_n 3, 1) := by decide +kernel
theorem dX12_pour_48 : decode cX12_pour 48 = .ok (.iaload, 1) := by decide +kernel
theorem dX12_pour_49 : decode cX12_pour 49 = .ok (.ifCond .ge 9, 3) := by decide +kernel
theorem dX12_pour_52 : decode cX12_pour 52 = .ok (.aload_n 0, 1) := by decide +kernel
theorem dX12_pour_53 : decode cX12_pour 53 = .ok (.iconst 3, 1) := by decide +kernel
theorem dX12_pour_54 : decode cX12_pour 54 = .ok (.invokevirtual 90, 3) := by decide +kernel
theorem dX12_pour_57 : decode cX12_pour 57 = .ok (.ireturn, 1) := by decide +kernel
theorem dX12_pour_58 : decode cX12_pour 58 = .ok (.aload_n 0, 1) := by decide +kernel
theorem dX12_pour_59 : decode cX12_pour 59 = .ok (.getfield 13, 3) := by decide +kernel
theorem dX12_pour_62 : decode cX12_pour 62 = .ok (.iload_n 1, 1) := by decide +kernel
theorem dX12_pour_63 : decode cX12_pour 63 = .ok (.iaload, 1) := by decide +kernel
theorem dX12_pour_64 : decode cX12_pour 64 = .ok (.aload_n 0, 1) := by decide +kernel
theorem dX12_pour_65 : decode cX12_pour 65 = .ok (.getfield 13, 3) := by decide +kernel
theorem dX12_pour_68 : decode cX12_pour 68 = .ok (.iload_n 3, 1) := by decide +kernel
theorem dX12_pour_69 : decode cX12_pour 69 = .ok (.iaload, 1) := by decide +kernel
theorem dX12_pour_70 : decode cX12_pour 70 = .ok (.if_icmp .eq 10, 3) := by decide +kernel
theorem dX12_pour_73 : decode cX12_pour 73 = .ok (.aload_n 0, 1) := by decide +kernel
theorem dX12_pour_74 : decode cX12_pour 74 = .ok (.bipush 11, 2) := by decide +kernel
theorem dX12_pour_76 : decode cX12_pour 76 = .ok (.invokevirtual 90, 3) := by decide +kernel
theorem dX12_pour_79 : decode cX12_pour 79 = .ok (.ireturn, 1) := by decide +kernel
theorem dX12_pour_80 : decode cX12_pour 80 = .ok (.iload 5, 2) := by decide +kernel
theorem dX12_pour_82 : decode cX12_pour 82 = .ok (.ifCond .ge 10, 3) := by decide +kernel
theorem dX12_pour_85 : decode cX12_pour 85 = .ok (.aload_n 0, 1) := by decide +kernel
theorem dX12_pour_86 : decode cX12_pour 86 = .ok (.bipush 6, 2) := by decide +kernel
theorem dX12_pour_88 : decode cX12_pour 88 = .ok (.invokevirtual 90, 3) := by decide +kernel
theorem dX12_pour_91 : decode cX12_pour 91 = .ok (.ireturn, 1) := by decide +kernel
theorem dX12_pour_92 : decode cX12_pour 92 = .ok (.iload_n 2, 1) := by decide +kernel
theorem dX12_pour_93 : decode cX12_pour 93 = .ok (.ifCond .lt 43, 3) := by decide +kernel
theorem dX12_pour_96 : decode cX12_pour 96 = .ok (.iload 4, 2) := by decide +kernel
theorem dX12_pour_98 : decode cX12_pour 98 = .ok (.ifCond .lt 38, 3) := by decide +kernel
theorem dX12_pour_101 : decode cX12_pour 101 = .ok (.iload_n 2, 1) := by decide +kernel
theorem dX12_pour_102 : decode cX12_pour 102 = .ok (.i2l, 1) := by decide +kernel
theorem dX12_pour_103 : decode cX12_pour 103 = .ok (.iload 5, 2) := by decide +kernel
theorem dX12_pour_105 : decode cX12_pour 105 = .ok (.i2l, 1) := by decide +kernel
theorem dX12_pour_106 : decode cX12_pour 106 = .ok (.ladd, 1) := by decide +kernel
theorem dX12_pour_107 : decode cX12_pour 107 = .ok (.aload_n 0, 1) := by decide +kernel
theorem dX12_pour_108 : decode cX12_pour 108 = .ok (.getfield 17, 3) := by decide +kernel
theorem dX12_pour_111 : decode cX12_pour 111 = .ok (.iload_n 1, 1) := by decide +kernel
theorem dX12_pour_112 : decode cX12_pour 112 = .ok (.iaload, 1) := by decide +kernel
theorem dX12_pour_113 : decode cX12_pour 113 = .ok (.i2l, 1) := by decide +kernel
theorem dX12_pour_114 : decode cX12_pour 114 = .ok (.lcmp, 1) := by decide +kernel
theorem dX12_pour_115 : decode cX12_pour 115 = .ok (.ifCond .gt 21, 3) := by decide +kernel
theorem dX12_pour_118 : decode cX12_pour 118 = .ok (.iload 4, 2) := by decide +kernel
theorem dX12_pour_120 : decode cX12_pour 120 = .ok (.i2l, 1) := by decide +kernel
theorem dX12_pour_121 : decode cX12_pour 121 = .ok (.iload 5, 2) := by decide +kernel
theorem dX12_pour_123 : decode cX12_pour 123 = .ok (.i2l, 1) := by decide +kernel
theorem dX12_pour_124 : decode cX12_pour 124 = .ok (.ladd, 1) := by decide +kernel
theorem dX12_pour_125 : decode cX12_pour 125 = .ok (.aload_n 0, 1) := by decide +kernel
theorem dX12_pour_126 : decode cX12_pour 126 = .ok (.getfield 17, 3) := by decide +kernel
theorem dX12_pour_129 : decode cX12_pour 129 = .ok (.iload_n 3, 1) := by decide +kernel
theorem dX12_pour_130 : decode cX12_pour 130 = .ok (.iaload, 1) := by decide +kernel
theorem dX12_pour_131 : decode cX12_pour 131 = .ok (.i2l, 1) := by decide +kernel
theorem dX12_pour_132 : decode cX12_pour 132 = .ok (.lcmp, 1) := by decide +kernel
theorem dX12_pour_133 : decode cX12_pour 133 = .ok (.ifCond .le 9, 3) := by decide +kernel
theorem dX12_pour_136 : decode cX12_pour 136 = .ok (.aload_n 0, 1) := by decide +kernel
theorem dX12_pour_137 : decode cX12_pour 137 = .ok (.iconst 4, 1) := by decide +kernel
theorem dX12_pour_138 : decode cX12_pour 138 = .ok (.invokevirtual 90, 3) := by decide +kernel
theorem dX12_pour_141 : decode cX12_pour 141 = .ok (.ireturn, 1) := by decide +kernel
theorem dX12_pour_142 : decode cX12_pour 142 = .ok (.iload_n 2, 1) := by decide +kernel
theorem dX12_pour_143 : decode cX12_pour 143 = .ok (.iload 4, 2) := by decide +kernel
theorem dX12_pour_145 : decode cX12_pour 145 = .ok (.if_icmp .ge 7, 3) := by decide +kernel
theorem dX12_pour_148 : decode cX12_pour 148 = .ok (.iconst 1, 1) := by decide +kernel
theorem dX12_pour_149 : decode cX12_pour 149 = .ok (.goto 4, 3) := by decide +kernel
theorem dX12_pour_152 : decode cX12_pour 152 = .ok (.iconst 0, 1) := by decide +kernel
theorem dX12_pour_153 : decode cX12_pour 153 = .ok (.istore 6, 2) := by decide +kernel
theorem dX12_pour_155 : decode cX12_pour 155 = .ok (.iconst 0, 1) := by decide +kernel
theorem dX12_pour_156 : decode cX12_pour 156 = .ok (.istore 7, 2) := by decide +kernel
theorem dX12_pour_158 : decode cX12_pour 158 = .ok (.iload 7, 2) := by decide +kernel
theorem dX12_pour_160 : decode cX12_pour 160 = .ok (.iload 5, 2) := by decide +kernel
theorem dX12_pour_162 : decode cX12_pour 162 = .ok (.if_icmp .ge 57, 3) := by decide +kernel
theorem dX12_pour_165 : decode cX12_pour 165 = .ok (.iload 6, 2) := by decide +kernel
theorem dX12_pour_167 : decode cX12_pour 167 = .ok (.ifCond .eq 13, 3) := by decide +kernel
theorem dX12_pour_170 : decode cX12_pour 170 = .ok (.iload 5, 2) := by decide +kernel
theorem dX12_pour_172 : decode cX12_pour 172 = .ok (.iconst 1, 1) := by decide +kernel
theorem dX12_pour_173 : decode cX12_pour 173 = .ok (.isub, 1) := by decide +kernel
theorem dX12_pour_174 : decode cX12_pour 174 = .ok (.iload 7, 2) := by decide +kernel
theorem dX12_pour_176 : decode cX12_pour 176 = .ok (.isub, 1) := by decide +kernel
theorem dX12_pour_177 : decode cX12_pour 177 = .ok (.goto 5, 3) := by decide +kernel
theorem dX12_pour_180 : decode cX12_pour 180 = .ok (.iload 7, 2) := by decide +kernel
theorem dX12_pour_182 : decode cX12_pour 182 = .ok (.istore 8, 2) := by decide +kernel
theorem dX12_pour_184 : decode cX12_pour 184 = .ok (.aload_n 0, 1) := by decide +kernel
theorem dX12_pour_185 : decode cX12_pour 185 = .ok (.getfield 20, 3) := by decide +kernel
theorem dX12_pour_188 : decode cX12_pour 188 = .ok (.bipush 60, 2) := by decide +kernel
theorem dX12_pour_190 : decode cX12_pour 190 = .ok (.iload_n 3, 1) := by decide +kernel
theorem dX12_pour_191 : decode cX12_pour 191 = .ok (.imul, 1) := by decide +kernel
theorem dX12_pour_192 : decode cX12_pour 192 = .ok (.iload 4, 2) := by decide +kernel
theorem dX12_pour_194 : decode cX12_pour 194 = .ok (.iadd, 1) := by decide +kernel
theorem dX12_pour_195 : decode cX12_pour 195 = .ok (.iload 8, 2) := by decide +kernel
theorem dX12_pour_197 : decode cX12_pour 197 = .ok (.iadd, 1) := by decide +kernel
theorem dX12_pour_198 : decode cX12_pour 198 = .ok (.aload_n 0, 1) := by decide +kernel
theorem dX12_pour_199 : decode cX12_pour 199 = .ok (.getfield 20, 3) := by decide +kernel
theorem dX12_pour_202 : decode cX12_pour 202 = .ok (.bipush 60, 2) := by decide +kernel
theorem dX12_pour_204 : decode cX12_pour 204 = .ok (.iload_n 1, 1) := by decide +kernel
theorem dX12_pour_205 : decode cX12_pour 205 = .ok (.imul, 1) := by decide +kernel
theorem dX12_pour_206 : decode cX12_pour 206 = .ok (.iload_n 2, 1) := by decide +kernel
theorem dX12_pour_207 : decode cX12_pour 207 = .ok (.iadd, 1) := by decide +kernel
theorem dX12_pour_208 : decode cX12_pour 208 = .ok (.iload 8, 2) := by decide +kernel
theorem dX12_pour_210 : decode cX12_pour 210 = .ok (.iadd, 1) := by decide +kernel
theorem dX12_pour_211 : decode cX12_pour 211 = .ok (.laload, 1) := by decide +kernel
theorem dX12_pour_212 : decode cX12_pour 212 = .ok (.lastore, 1) := by decide +kernel
theorem dX12_pour_213 : decode cX12_pour 213 = .ok (.iinc 7 1, 3) := by decide +kernel
theorem dX12_pour_216 : decode cX12_pour 216 = .ok (.goto (-58), 3) := by decide +kernel
theorem dX12_pour_219 : decode cX12_pour 219 = .ok (.iconst 1, 1) := by decide +kernel
theorem dX12_pour_220 : decode cX12_pour 220 = .ok (.ireturn, 1) := by decide +kernel
theorem dX12_numberOf_0 : decode cX12_numberOf 0 = .ok (.aload_n 0, 1) := by decide +kernel
theorem dX12_numberOf_1 : decode cX12_numberOf 1 = .ok (.getfield 20, 3) := by decide +kernel
theorem dX12_numberOf_4 : decode cX12_numberOf 4 = .ok (.bipush 60, 2) := by decide +kernel
theorem dX12_numberOf_6 : decode cX12_numberOf 6 = .ok (.iload_n 1, 1) := by decide +kernel
theorem dX12_numberOf_7 : decode cX12_numberOf 7 = .ok (.imul, 1) := by decide +kernel
theorem dX12_numberOf_8 : decode cX12_numberOf 8 = .ok (.iload_n 2, 1) := by decide +kernel
theorem dX12_numberOf_9 : decode cX12_numberOf 9 = .ok (.iadd, 1) := by decide +kernel
theorem dX12_numberOf_10 : decode cX12_numberOf 10 = .ok (.laload, 1) := by decide +kernel
theorem dX12_numberOf_11 : decode cX12_numberOf 11 = .ok (.lreturn, 1) := by decide +kernel
theorem dX12_isTray_0 : decode cX12_isTray 0 = .ok (.iload_n 1, 1) := by decide +kernel
theorem dX12_isTray_1 : decode cX12_isTray 1 = .ok (.i2l, 1) := by decide +kernel
theorem dX12_isTray_2 : decode cX12_isTray 2 = .ok (.lconst 0, 1) := by decide +kernel
theorem dX12_isTray_3 : decode cX12_isTray 3 = .ok (.ldc2_w 108, 3) := by decide +kernel
theorem dX12_isTray_6 : decode cX12_isTray 6 = .ok (.invokestatic 110, 3) := by decide +kernel
theorem dX12_isTray_9 : decode cX12_isTray 9 = .ok (.ireturn, 1) := by decide +kernel
theorem dX12_look2_0 : decode cX12_look2 0 = .ok (.iload_n 1, 1) := by decide +kernel
theorem dX12_look2_1 : decode cX12_look2 1 = .ok (.aload_n 0, 1) := by decide +kernel
theorem dX12_look2_2 : decode cX12_look2 2 = .ok (.getfield 114, 3) := by decide +kernel
theorem dX12_look2_5 : decode cX12_look2 5 = .ok (.if_icmp .ge 16, 3) := by decide +kernel
theorem dX12_look2_8 : decode cX12_look2 8 = .ok (.aload_n 0, 1) := by decide +kernel
theorem dX12_look2_9 : decode cX12_look2 9 = .ok (.getfield 24, 3) := by decide +kernel
theorem dX12_look2_12 : decode cX12_look2 12 = .ok (.iload_n 1, 1) := by decide +kernel
theorem dX12_look2_13 : decode cX12_look2 13 = .ok (.baload, 1) := by decide +kernel
theorem dX12_look2_14 : decode cX12_look2 14 = .ok (.sipush 255, 3) := by decide +kernel
theorem dX12_look2_17 : decode cX12_look2 17 = .ok (.iand, 1) := by decide +kernel
theorem dX12_look2_18 : decode cX12_look2 18 = .ok (.goto 4, 3) := by decide +kernel
theorem dX12_look2_21 : decode cX12_look2 21 = .ok (.iconst 0, 1) := by decide +kernel
theorem dX12_look2_22 : decode cX12_look2 22 = .ok (.ireturn, 1) := by decide +kernel
theorem dX12_isLetter_0 : decode cX12_isLetter 0 = .ok (.iload_n 0, 1) := by decide +kernel
theorem dX12_isLetter_1 : decode cX12_isLetter 1 = .ok (.bipush 97, 2) := by decide +kernel
theorem dX12_isLetter_3 : decode cX12_isLetter 3 = .ok (.if_icmp .lt 13, 3) := by decide +kernel
theorem dX12_isLetter_6 : decode cX12_isLetter 6 = .ok (.iload_n 0, 1) := by decide +kernel
theorem dX12_isLetter_7 : decode cX12_isLetter 7 = .ok (.bipush 122, 2) := by decide +kernel
theorem dX12_isLetter_9 : decode cX12_isLetter 9 = .ok (.if_icmp .gt 7, 3) := by decide +kernel
theorem dX12_isLetter_12 : decode cX12_isLetter 12 = .ok (.iconst 1, 1) := by decide +kernel
theorem dX12_isLetter_13 : decode cX12_isLetter 13 = .ok (.goto 4, 3) := by decide +kernel
theorem dX12_isLetter_16 : decode cX12_isLetter 16 = .ok (.iconst 0, 1) := by decide +kernel
theorem dX12_isLetter_17 : decode cX12_isLetter 17 = .ok (.ireturn, 1) := by decide +kernel
theorem dX12_isDigit_0 : decode cX12_isDigit 0 = .ok (.iload_n 0, 1) := by decide +kernel
theorem dX12_isDigit_1 : decode cX12_isDigit 1 = .ok (.bipush 48, 2) := by decide +kernel
theorem dX12_isDigit_3 : decode cX12_isDigit 3 = .ok (.if_icmp .lt 13, 3) := by decide +kernel
theorem dX12_isDigit_6 : decode cX12_isDigit 6 = .ok (.iload_n 0, 1) := by decide +kernel
theorem dX12_isDigit_7 : decode cX12_isDigit 7 = .ok (.bipush 57, 2) := by decide +kernel
theorem dX12_isDigit_9 : decode cX12_isDigit 9 = .ok (.if_icmp .gt 7, 3) := by decide +kernel
theorem dX12_isDigit_12 : decode cX12_isDigit 12 = .ok (.iconst 1, 1) := by decide +kernel
theorem dX12_isDigit_13 : decode cX12_isDigit 13 = .ok (.goto 4, 3) := by decide +kernel
theorem dX12_isDigit_16 : decode cX12_isDigit 16 = .ok (.iconst 0, 1) := by decide +kernel
theorem dX12_isDigit_17 : decode cX12_isDigit 17 = .ok (.ireturn, 1) := by decide +kernel
theorem dX12_next_0 : decode cX12_next 0 = .ok (.aload_n 0, 1) := by decide +kernel
theorem dX12_next_1 : decode cX12_next 1 = .ok (.aload_n 0, 1) := by decide +kernel
theorem dX12_next_2 : decode cX12_next 2 = .ok (.getfield 117, 3) := by decide +kernel
theorem dX12_next_5 : decode cX12_next 5 = .ok (.putfield 120, 3) := by decide +kernel
theorem dX12_next_8 : decode cX12_next 8 = .ok (.aload_n 0, 1) := by decide +kernel
theorem dX12_next_9 : decode cX12_next 9 = .ok (.getfield 120, 3) := by decide +kernel
theorem dX12_next_12 : decode cX12_next 12 = .ok (.aload_n 0, 1) := by decide +kernel
theorem dX12_next_13 : decode cX12_next 13 = .ok (.getfield 114, 3) := by decide +kernel
theorem dX12_next_16 : decode cX12_next 16 = .ok (.if_icmp .ge 42, 3) := by decide +kernel
theorem dX12_next_19 : decode cX12_next 19 = .ok (.aload_n 0, 1) := by decide +kernel
theorem dX12_next_20 : decode cX12_next 20 = .ok (.aload_n 0, 1) := by decide +kernel
theorem dX12_next_21 : decode cX12_next 21 = .ok (.getfield 120, 3) := by decide +kernel
theorem dX12_next_24 : decode cX12_next 24 = .ok (.invokevirtual 123, 3) := by decide +kernel
theorem dX12_next_27 : decode cX12_next 27 = .ok (.bipush 10, 2) := by decide +kernel
theorem dX12_next_29 : decode cX12_next 29 = .ok (.if_icmp .eq 16, 3) := by decide +kernel
theorem dX12_next_32 : decode cX12_next 32 = .ok (.aload_n 0, 1) := by decide +kernel
theorem dX12_next_33 : decode cX12_next 33 = .ok (.aload_n 0, 1) := by decide +kernel
theorem dX12_next_34 : decode cX12_next 34 = .ok (.getfield 120, 3) := by decide +kernel
theorem dX12_next_37 : decode cX12_next 37 = .ok (.invokevirtual 123, 3) := by decide +kernel
theorem dX12_next_40 : decode cX12_next 40 = .ok (.bipush 32, 2) := by decide +kernel
theorem dX12_next_42 : decode cX12_next 42 = .ok (.if_icmp .ne 16, 3) := by decide +kernel
theorem dX12_next_45 : decode cX12_next 45 = .ok (.aload_n 0, 1) := by decide +kernel
theorem dX12_next_46 : decode cX12_next 46 = .ok (.dup, 1) := by decide +kernel
theorem dX12_next_47 : decode cX12_next 47 = .ok (.getfield 120, 3) := by decide +kernel
theorem dX12_next_50 : decode cX12_next 50 = .ok (.iconst 1, 1) := by decide +kernel
theorem dX12_next_51 : decode cX12_next 51 = .ok (.iadd, 1) := by decide +kernel
theorem dX12_next_52 : decode cX12_next 52 = .ok (.putfield 120, 3) := by decide +kernel
theorem dX12_next_55 : decode cX12_next 55 = .ok (.goto (-47), 3) := by decide +kernel
theorem dX12_next_58 : decode cX12_next 58 = .ok (.aload_n 0, 1) := by decide +kernel
theorem dX12_next_59 : decode cX12_next 59 = .ok (.aload_n 0, 1) := by decide +kernel
theorem dX12_next_60 : decode cX12_next 60 = .ok (.getfield 120, 3) := by decide +kernel
theorem dX12_next_63 : decode cX12_next 63 = .ok (.putfield 117, 3) := by decide +kernel
theorem dX12_next_66 : decode cX12_next 66 = .ok (.aload_n 0, 1) := by decide +kernel
theorem dX12_next_67 : decode cX12_next 67 = .ok (.getfield 120, 3) := by decide +kernel
theorem dX12_next_70 : decode cX12_next 70 = .ok (.aload_n 0, 1) := by decide +kernel
theorem dX12_next_71 : decode cX12_next 71 = .ok (.getfield 114, 3) := by decide +kernel
theorem dX12_next_74 : decode cX12_next 74 = .ok (.if_icmp .lt 9, 3) := by decide +kernel
theorem dX12_next_77 : decode cX12_next 77 = .ok (.aload_n 0, 1) := by decide +kernel
theorem dX12_next_78 : decode cX12_next 78 = .ok (.iconst 0, 1) := by decide +kernel
theorem dX12_next_79 : decode cX12_next 79 = .ok (.putfield 126, 3) := by decide +kernel
theorem dX12_next_82 : decode cX12_next 82 = .ok (.return_, 1) := by decide +kernel
theorem dX12_next_83 : decode cX12_next 83 = .ok (.aload_n 0, 1) := by decide +kernel
theorem dX12_next_84 : decode cX12_next 84 = .ok (.aload_n 0, 1) := by decide +kernel
theorem dX12_next_85 : decode cX12_next 85 = .ok (.getfield 120, 3) := by decide +kernel
theorem dX12_next_88 : decode cX12_next 88 = .ok (.invokevirtual 123, 3) := by decide +kernel
theorem dX12_next_91 : decode cX12_next 91 = .ok (.istore_n 1, 1) := by decide +kernel
theorem dX12_next_92 : decode cX12_next 92 = .ok (.iload_n 1, 1) := by decide +kernel
theorem dX12_next_93 : decode cX12_next 93 = .ok (.invokestatic 129, 3) := by decide +kernel
theorem dX12_next_96 : decode cX12_next 96 = .ok (.ifCond .eq 102, 3) := by decide +kernel
theorem dX12_next_99 : decode cX12_next 99 = .ok (.aload_n 0, 1) := by decide +kernel
theorem dX12_next_100 : decode cX12_next 100 = .ok (.iconst 1, 1) := by decide +kernel
theorem dX12_next_101 : decode cX12_next 101 = .ok (.putfield 126, 3) := by decide +kernel
theorem dX12_next_104 : decode cX12_next 104 = .ok (.aload_n 0, 1) := by decide +kernel
theorem dX12_next_105 : decode cX12_next 105 = .ok (.lconst 0, 1) := by decide +kernel
theorem dX12_next_106 : decode cX12_next 106 = .ok (.putfield 132, 3) := by decide +kernel
theorem dX12_next_109 : decode cX12_next 109 = .ok (.aload_n 0, 1) := by decide +kernel
theorem dX12_next_110 : decode cX12_next 110 = .ok (.aload_n 0, 1) := by decide +kernel
theorem dX12_next_111 : decode cX12_next 111 = .ok (.getfield 117, 3) := by decide +kernel
theorem dX12_next_114 : decode cX12_next 114 = .ok (.invokevirtual 123, 3) := by decide +kernel
theorem dX12_next_117 : decode cX12_next 117 = .ok (.invokestatic 129, 3) := by decide +kernel
theorem dX12_next_120 : decode cX12_next 120 = .ok (.ifCond .eq 62, 3) := by decide +kernel
theorem dX12_next_123 : decode cX12_next 123 = .ok (.aload_n 0, 1) := by decide +kernel
theorem dX12_next_124 : decode cX12_next 124 = .ok (.aload_n 0, 1) := by decide +kernel
theorem dX12_next_125 : decode cX12_next 125 = .ok (.getfield 117, 3) := by decide +kernel
theorem dX12_next_128 : decode cX12_next 128 = .ok (.aload_n 0, 1) := by decide +kernel
theorem dX12_next_129 : decode cX12_next 129 = .ok (.getfield 120, 3) := by decide +kernel
theorem dX12_next_132 : decode cX12_next 132 = .ok (.isub, 1) := by decide +kernel
theorem dX12_next_133 : decode cX12_next 133 = .ok (.bipush 8, 2) := by decide +kernel
theorem dX12_next_135 : decode cX12_next 135 = .ok (.if_icmp .ge 28, 3) := by decide +kernel
theorem dX12_next_138 : decode cX12_next 138 = .ok (.aload_n 0, 1) := by decide +kernel
theorem dX12_next_139 : decode cX12_next 139 = .ok (.getfield 132, 3) := by decide +kernel
theorem dX12_next_142 : decode cX12_next 142 = .ok (.ldc2_w 135, 3) := by decide +kernel
theorem dX12_next_145 : decode cX12_next 145 = .ok (.lmul, 1) := by decide +kernel
theorem dX12_next_146 : decode cX12_next 146 = .ok (.aload_n 0, 1) := by decide +kernel
theorem dX12_next_147 : decode cX12_next 147 = .ok (.aload_n 0, 1) := by decide +kernel
theorem dX12_next_148 : decode cX12_next 148 = .ok (.getfield 117, 3) := by decide +kernel
theorem dX12_next_151 : decode cX12_next 151 = .ok (.invokevirtual 123, 3) := by decide +kernel
theorem dX12_next_154 : decode cX12_next 154 = .ok (.i2l, 1) := by decide +kernel
theorem dX12_next_155 : decode cX12_next 155 = .ok (.ladd, 1) := by decide +kernel
theorem dX12_next_156 : decode cX12_next 156 = .ok (.ldc2_w 137, 3) := by decide +kernel
theorem dX12_next_159 : decode cX12_next 159 = .ok (.lsub, 1) := by decide +kernel
theorem dX12_next_160 : decode cX12_next 160 = .ok (.goto 6, 3) := by decide +kernel
theorem dX12_next_163 : decode cX12_next 163 = .ok (.ldc2_w 106, 3) := by decide +kernel
theorem dX12_next_166 : decode cX12_next 166 = .ok (.putfield 132, 3) := by decide +kernel
theorem dX12_next_169 : decode cX12_next 169 = .ok (.aload_n 0, 1) := by decide +kernel
theorem dX12_next_170 : decode cX12_next 170 = .ok (.dup, 1) := by decide +kernel
theorem dX12_next_171 : decode cX12_next 171 = .ok (.getfield 117, 3) := by decide +kernel
theorem dX12_next_174 : decode cX12_next 174 = .ok (.iconst 1, 1) := by decide +kernel
theorem dX12_next_175 : decode cX12_next 175 = .ok (.iadd, 1) := by decide +kernel
theorem dX12_next_176 : decode cX12_next 176 = .ok (.putfield 117, 3) := by decide +kernel
theorem dX12_next_179 : decode cX12_next 179 = .ok (.goto (-70), 3) := by decide +kernel
theorem dX12_next_182 : decode cX12_next 182 = .ok (.aload_n 0, 1) := by decide +kernel
theorem dX12_next_183 : decode cX12_next 183 = .ok (.aload_n 0, 1) := by decide +kernel
theorem dX12_next_184 : decode cX12_next 184 = .ok (.getfield 117, 3) := by decide +kernel
theorem dX12_next_187 : decode cX12_next 187 = .ok (.aload_n 0, 1) := by decide +kernel
theorem dX12_next_188 : decode cX12_next 188 = .ok (.getfield 120, 3) := by decide +kernel
theorem dX12_next_191 : decode cX12_next 191 = .ok (.isub, 1) := by decide +kernel
theorem dX12_next_192 : decode cX12_next 192 = .ok (.putfield 139, 3) := by decide +kernel
theorem dX12_next_195 : decode cX12_next 195 = .ok (.goto 128, 3) := by decide +kernel
theorem dX12_next_198 : decode cX12_next 198 = .ok (.iload_n 1, 1) := by decide +kernel
theorem dX12_next_199 : decode cX12_next 199 = .ok (.invokestatic 142, 3) := by decide +kernel
theorem dX12_next_202 : decode cX12_next 202 = .ok (.ifCond .eq 96, 3) := by decide +kernel
theorem dX12_next_205 : decode cX12_next 205 = .ok (.aload_n 0, 1) := by decide +kernel
theorem dX12_next_206 : decode cX12_next 206 = .ok (.iconst 0, 1) := by decide +kernel
theorem dX12_next_207 : decode cX12_next 207 = .ok (.putfield 145, 3) := by decide +kernel
theorem dX12_next_210 : decode cX12_next 210 = .ok (.aload_n 0, 1) := by decide +kernel
theorem dX12_next_211 : decode cX12_next 211 = .ok (.aload_n 0, 1) := by decide +kernel
theorem dX12_next_212 : decode cX12_next 212 = .ok (.getfield 117, 3) := by decide +kernel
theorem dX12_next_215 : decode cX12_next 215 = .ok (.invokevirtual 123, 3) := by decide +kernel
theorem dX12_next_218 : decode cX12_next 218 = .ok (.invokestatic 142, 3) := by decide +kernel
theorem dX12_next_221 : decode cX12_next 221 = .ok (.ifCond .eq 52, 3) := by decide +kernel
theorem dX12_next_224 : decode cX12_next 224 = .ok (.aload_n 0, 1) := by decide +kernel
theorem dX12_next_225 : decode cX12_next 225 = .ok (.getfield 117, 3) := by decide +kernel
theorem dX12_next_228 : decode cX12_next 228 = .ok (.aload_n 0, 1) := by decide +kernel
theorem dX12_next_229 : decode cX12_next 229 = .ok (.getfield 120, 3) := by decide +kernel
theorem dX12_next_232 : decode cX12_next 232 = .ok (.isub, 1) := by decide +kernel
theorem dX12_next_233 : decode cX12_next 233 = .ok (.iconst 4, 1) := by decide +kernel
theorem dX12_next_234 : decode cX12_next 234 = .ok (.if_icmp .ge 26, 3) := by decide +kernel
theorem dX12_next_237 : decode cX12_next 237 = .ok (.aload_n 0, 1) := by decide +kernel
theorem dX12_next_238 : decode cX12_next 238 = .ok (.bipush 10, 2) := by decide +kernel
theorem dX12_next_240 : decode cX12_next 240 = .ok (.aload_n 0, 1) := by decide +kernel
theorem dX12_next_241 : decode cX12_next 241 = .ok (.getfield 145, 3) := by decide +kernel
theorem dX12_next_244 : decode cX12_next 244 = .ok (.imul, 1) := by decide +kernel
theorem dX12_next_245 : decode cX12_next 245 = .ok (.aload_n 0, 1) := by decide +kernel
theorem dX12_next_246 : decode cX12_next 246 = .ok (.aload_n 0, 1) := by decide +kernel
theorem dX12_next_247 : decode cX12_next 247 = .ok (.getfield 117, 3) := by decide +kernel
theorem dX12_next_250 : decode cX12_next 250 = .ok (.invokevirtual 123, 3) := by decide +kernel
theorem dX12_next_253 : decode cX12_next 253 = .ok (.iadd, 1) := by decide +kernel
theorem dX12_next_254 : decode cX12_next 254 = .ok (.bipush 48, 2) := by decide +kernel
theorem dX12_next_256 : decode cX12_next 256 = .ok (.isub, 1) := by decide +kernel
theorem dX12_next_257 : decode cX12_next 257 = .ok (.putfield 145, 3) := by decide +kernel
theorem dX12_next_260 : decode cX12_next 260 = .ok (.aload_n 0, 1) := by decide +kernel
theorem dX12_next_261 : decode cX12_next 261 = .ok (.dup, 1) := by decide +kernel
theorem dX12_next_262 : decode cX12_next 262 = .ok (.getfield 117, 3) := by decide +kernel
theorem dX12_next_265 : decode cX12_next 265 = .ok (.iconst 1, 1) := by decide +kernel
theorem dX12_next_266 : decode cX12_next 266 = .ok (.iadd, 1) := by decide +kernel
theorem dX12_next_267 : decode cX12_next 267 = .ok (.putfield 117, 3) := by decide +kernel
theorem dX12_next_270 : decode cX12_next 270 = .ok (.goto (-60), 3) := by decide +kernel
theorem dX12_next_273 : decode cX12_next 273 = .ok (.aload_n 0, 1) := by decide +kernel
theorem dX12_next_274 : decode cX12_next 274 = .ok (.aload_n 0, 1) := by decide +kernel
theorem dX12_next_275 : decode cX12_next 275 = .ok (.getfield 117, 3) := by decide +kernel
theorem dX12_next_278 : decode cX12_next 278 = .ok (.aload_n 0, 1) := by decide +kernel
theorem dX12_next_279 : decode cX12_next 279 = .ok (.getfield 120, 3) := by decide +kernel
theorem dX12_next_282 : decode cX12_next 282 = .ok (.isub, 1) := by decide +kernel
theorem dX12_next_283 : decode cX12_next 283 = .ok (.iconst 4, 1) := by decide +kernel
theorem dX12_next_284 : decode cX12_next 284 = .ok (.if_icmp .le 7, 3) := by decide +kernel
theorem dX12_next_287 : decode cX12_next 287 = .ok (.iconst 4, 1) := by decide +kernel
theorem dX12_next_288 : decode cX12_next 288 = .ok (.goto 4, 3) := by decide +kernel
theorem dX12_next_291 : decode cX12_next 291 = .ok (.iconst 2, 1) := by decide +kernel
theorem dX12_next_292 : decode cX12_next 292 = .ok (.putfield 126, 3) := by decide +kernel
theorem dX12_next_295 : decode cX12_next 295 = .ok (.goto 28, 3) := by decide +kernel
theorem dX12_next_298 : decode cX12_next 298 = .ok (.aload_n 0, 1) := by decide +kernel
theorem dX12_next_299 : decode cX12_next 299 = .ok (.aload_n 0, 1) := by decide +kernel
theorem dX12_next_300 : decode cX12_next 300 = .ok (.getfield 120, 3) := by decide +kernel
theorem dX12_next_303 : decode cX12_next 303 = .ok (.iconst 1, 1) := by decide +kernel
theorem dX12_next_304 : decode cX12_next 304 = .ok (.iadd, 1) := by decide +kernel
theorem dX12_next_305 : decode cX12_next 305 = .ok (.putfield 117, 3) := by decide +kernel
theorem dX12_next_308 : decode cX12_next 308 = .ok (.aload_n 0, 1) := by decide +kernel
theorem dX12_next_309 : decode cX12_next 309 = .ok (.iload_n 1, 1) := by decide +kernel
theorem dX12_next_310 : decode cX12_next 310 = .ok (.bipush 59, 2) := by decide +kernel
theorem dX12_next_312 : decode cX12_next 312 = .ok (.if_icmp .ne 7, 3) := by decide +kernel
theorem dX12_next_315 : decode cX12_next 315 = .ok (.iconst 3, 1) := by decide +kernel
theorem dX12_next_316 : decode cX12_next 316 = .ok (.goto 4, 3) := by decide +kernel
theorem dX12_next_319 : decode cX12_next 319 = .ok (.iconst 4, 1) := by decide +kernel
theorem dX12_next_320 : decode cX12_next 320 = .ok (.putfield 126, 3) := by decide +kernel
theorem dX12_next_323 : decode cX12_next 323 = .ok (.return_, 1) := by decide +kernel
theorem dX12_isClose_0 : decode cX12_isClose 0 = .ok (.aload_n 0, 1) := by decide +kernel
theorem dX12_isClose_1 : decode cX12_isClose 1 = .ok (.getfield 126, 3) := by decide +kernel
theorem dX12_isClose_4 : decode cX12_isClose 4 = .ok (.iconst 3, 1) := by decide +kernel
theorem dX12_isClose_5 : decode cX12_isClose 5 = .ok (.if_icmp .ne 7, 3) := by decide +kernel
theorem dX12_isClose_8 : decode cX12_isClose 8 = .ok (.iconst 1, 1) := by decide +kernel
theorem dX12_isClose_9 : decode cX12_isClose 9 = .ok (.goto 4, 3) := by decide +kernel
theorem dX12_isClose_12 : decode cX12_isClose 12 = .ok (.iconst 0, 1) := by decide +kernel
theorem dX12_isClose_13 : decode cX12_isClose 13 = .ok (.ireturn, 1) := by decide +kernel
theorem dX12_spelled_0 : decode cX12_spelled 0 = .ok (.iload_n 0, 1) := by decide +kernel
theorem dX12_spelled_1 : decode cX12_spelled 1 = .ok (.i2l, 1) := by decide +kernel
theorem dX12_spelled_2 : decode cX12_spelled 2 = .ok (.ldc2_w 137, 3) := by decide +kernel
theorem dX12_spelled_5 : decode cX12_spelled 5 = .ok (.lsub, 1) := by decide +kernel
theorem dX12_spelled_6 : decode cX12_spelled 6 = .ok (.ldc2_w 135, 3) := by decide +kernel
theorem dX12_spelled_9 : decode cX12_spelled 9 = .ok (.lmul, 1) := by decide +kernel
theorem dX12_spelled_10 : decode cX12_spelled 10 = .ok (.iload_n 1, 1) := by decide +kernel
theorem dX12_spelled_11 : decode cX12_spelled 11 = .ok (.i2l, 1) := by decide +kernel
theorem dX12_spelled_12 : decode cX12_spelled 12 = .ok (.ladd, 1) := by decide +kernel
theorem dX12_spelled_13 : decode cX12_spelled 13 = .ok (.ldc2_w 137, 3) := by decide +kernel
theorem dX12_spelled_16 : decode cX12_spelled 16 = .ok (.lsub, 1) := by decide +kernel
theorem dX12_spelled_17 : decode cX12_spelled 17 = .ok (.lstore 6, 2) := by decide +kernel
theorem dX12_spelled_19 : decode cX12_spelled 19 = .ok (.iload_n 2, 1) := by decide +kernel
theorem dX12_spelled_20 : decode cX12_spelled 20 = .ok (.ifCond .le 19, 3) := by decide +kernel
theorem dX12_spelled_23 : decode cX12_spelled 23 = .ok (.lload 6, 2) := by decide +kernel
theorem dX12_spelled_25 : decode cX12_spelled 25 = .ok (.ldc2_w 135, 3) := by decide +kernel
theorem dX12_spelled_28 : decode cX12_spelled 28 = .ok (.lmul, 1) := by decide +kernel
theorem dX12_spelled_29 : decode cX12_spelled 29 = .ok (.iload_n 2, 1) := by decide +kernel
theorem dX12_spelled_30 : decode cX12_spelled 30 = .ok (.i2l, 1) := by decide +kernel
theorem dX12_spelled_31 : decode cX12_spelled 31 = .ok (.ladd, 1) := by decide +kernel
theorem dX12_spelled_32 : decode cX12_spelled 32 = .ok (.ldc2_w 137, 3) := by decide +kernel
theorem dX12_spelled_35 : decode cX12_spelled 35 = .ok (.lsub, 1) := by decide +kernel
theorem dX12_spelled_36 : decode cX12_spelled 36 = .ok (.goto 5, 3) := by decide +kernel
theorem dX12_spelled_39 : decode cX12_spelled 39 = .ok (.lload 6, 2) := by decide +kernel
theorem dX12_spelled_41 : decode cX12_spelled 41 = .ok (.lstore 6, 2) := by decide +kernel
theorem dX12_spelled_43 : decode cX12_spelled 43 = .ok (.iload_n 3, 1) := by decide +kernel
theorem dX12_spelled_44 : decode cX12_spelled 44 = .ok (.ifCond .le 19, 3) := by decide +kernel
theorem dX12_spelled_47 : decode cX12_spelled 47 = .ok (.lload 6, 2) := by decide +kernel
theorem dX12_spelled_49 : decode cX12_spelled 49 = .ok (.ldc2_w 135, 3) := by decide +kernel
theorem dX12_spelled_52 : decode cX12_spelled 52 = .ok (.lmul, 1) := by decide +kernel
theorem dX12_spelled_53 : decode cX12_spelled 53 = .ok (.iload_n 3, 1) := by decide +kernel
theorem dX12_spelled_54 : decode cX12_spelled 54 = .ok (.i2l, 1) := by decide +kernel
theorem dX12_spelled_55 : decode cX12_spelled 55 = .ok (.ladd, 1) := by decide +kernel
theorem dX12_spelled_56 : decode cX12_spelled 56 = .ok (.ldc2_w 137, 3) := by decide +kernel
theorem dX12_spelled_59 : decode cX12_spelled 59 = .ok (.lsub, 1) := by decide +kernel
theorem dX12_spelled_60 : decode cX12_spelled 60 = .ok (.goto 5, 3) := by decide +kernel
theorem dX12_spelled_63 : decode cX12_spelled 63 = .ok (.lload 6, 2) := by decide +kernel
theorem dX12_spelled_65 : decode cX12_spelled 65 = .ok (.lstore 6, 2) := by decide +kernel
theorem dX12_spelled_67 : decode cX12_spelled 67 = .ok (.iload 4, 2) := by decide +kernel
theorem dX12_spelled_69 : decode cX12_spelled 69 = .ok (.ifCond .le 20, 3) := by decide +kernel
theorem dX12_spelled_72 : decode cX12_spelled 72 = .ok (.lload 6, 2) := by decide +kernel
theorem dX12_spelled_74 : decode cX12_spelled 74 = .ok (.ldc2_w 135, 3) := by decide +kernel
theorem dX12_spelled_77 : decode cX12_spelled 77 = .ok (.lmul, 1) := by decide +kernel
theorem dX12_spelled_78 : decode cX12_spelled 78 = .ok (.iload 4, 2) := by decide +kernel
theorem dX12_spelled_80 : decode cX12_spelled 80 = .ok (.i2l, 1) := by decide +kernel
theorem dX12_spelled_81 : decode cX12_spelled 81 = .ok (.ladd, 1) := by decide +kernel
theorem dX12_spelled_82 : decode cX12_spelled 82 = .ok (.ldc2_w 137, 3) := by decide +kernel
theorem dX12_spelled_85 : decode cX12_spelled 85 = .ok (.lsub, 1) := by decide +kernel
theorem dX12_spelled_86 : decode cX12_spelled 86 = .ok (.goto 5, 3) := by decide +kernel
theorem dX12_spelled_89 : decode cX12_spelled 89 = .ok (.lload 6, 2) := by decide +kernel
theorem dX12_spelled_91 : decode cX12_spelled 91 = .ok (.lstore 6, 2) := by decide +kernel
theorem dX12_spelled_93 : decode cX12_spelled 93 = .ok (.iload 5, 2) := by decide +kernel
theorem dX12_spelled_95 : decode cX12_spelled 95 = .ok (.ifCond .le 20, 3) := by decide +kernel
theorem dX12_spelled_98 : decode cX12_spelled 98 = .ok (.lload 6, 2) := by decide +kernel
theorem dX12_spelled_100 : decode cX12_spelled 100 = .ok (.ldc2_w 135, 3) := by decide +kernel
theorem dX12_spelled_103 : decode cX12_spelled 103 = .ok (.lmul, 1) := by decide +kernel
theorem dX12_spelled_104 : decode cX12_spelled 104 = .ok (.iload 5, 2) := by decide +kernel
theorem dX12_spelled_106 : decode cX12_spelled 106 = .ok (.i2l, 1) := by decide +kernel
theorem dX12_spelled_107 : decode cX12_spelled 107 = .ok (.ladd, 1) := by decide +kernel
theorem dX12_spelled_108 : decode cX12_spelled 108 = .ok (.ldc2_w 137, 3) := by decide +kernel
theorem dX12_spelled_111 : decode cX12_spelled 111 = .ok (.lsub, 1) := by decide +kernel
theorem dX12_spelled_112 : decode cX12_spelled 112 = .ok (.goto 5, 3) := by decide +kernel
theorem dX12_spelled_115 : decode cX12_spelled 115 = .ok (.lload 6, 2) := by decide +kernel
theorem dX12_spelled_117 : decode cX12_spelled 117 = .ok (.lreturn, 1) := by decide +kernel
theorem dX12_isWord_0 : decode cX12_isWord 0 = .ok (.aload_n 0, 1) := by decide +kernel
theorem dX12_isWord_1 : decode cX12_isWord 1 = .ok (.getfield 126, 3) := by decide +kernel
theorem dX12_isWord_4 : decode cX12_isWord 4 = .ok (.iconst 1, 1) := by decide +kernel
theorem dX12_isWord_5 : decode cX12_isWord 5 = .ok (.if_icmp .ne 16, 3) := by decide +kernel
theorem dX12_isWord_8 : decode cX12_isWord 8 = .ok (.aload_n 0, 1) := by decide +kernel
theorem dX12_isWord_9 : decode cX12_isWord 9 = .ok (.getfield 132, 3) := by decide +kernel
theorem dX12_isWord_12 : decode cX12_isWord 12 = .ok (.lload_n 1, 1) := by decide +kernel
theorem dX12_isWord_13 : decode cX12_isWord 13 = .ok (.lcmp, 1) := by decide +kernel
theorem dX12_isWord_14 : decode cX12_isWord 14 = .ok (.ifCond .ne 7, 3) := by decide +kernel
theorem dX12_isWord_17 : decode cX12_isWord 17 = .ok (.iconst 1, 1) := by decide +kernel
theorem dX12_isWord_18 : decode cX12_isWord 18 = .ok (.goto 4, 3) := by decide +kernel
theorem dX12_isWord_21 : decode cX12_isWord 21 = .ok (.iconst 0, 1) := by decide +kernel
theorem dX12_isWord_22 : decode cX12_isWord 22 = .ok (.ireturn, 1) := by decide +kernel
theorem dX12_isIslandWord_0 : decode cX12_isIslandWord 0 = .ok (.aload_n 0, 1) := by decide +kernel
theorem dX12_isIslandWord_1 : decode cX12_isIslandWord 1 = .ok (.bipush 105, 2) := by decide +kernel
theorem dX12_isIslandWord_3 : decode cX12_isIslandWord 3 = .ok (.bipush 115, 2) := by decide +kernel
theorem dX12_isIslandWord_5 : decode cX12_isIslandWord 5 = .ok (.bipush 108, 2) := by decide +kernel
theorem dX12_isIslandWord_7 : decode cX12_isIslandWord 7 = .ok (.bipush 97, 2) := by decide +kernel
theorem dX12_isIslandWord_9 : decode cX12_isIslandWord 9 = .ok (.bipush 110, 2) := by decide +kernel
theorem dX12_isIslandWord_11 : decode cX12_isIslandWord 11 = .ok (.bipush 100, 2) := by decide +kernel
theorem dX12_isIslandWord_13 : decode cX12_isIslandWord 13 = .ok (.invokestatic 148, 3) := by decide +kernel
theorem dX12_isIslandWord_16 : decode cX12_isIslandWord 16 = .ok (.invokevirtual 152, 3) := by decide +kernel
theorem dX12_isIslandWord_19 : decode cX12_isIslandWord 19 = .ok (.ireturn, 1) := by decide +kernel
theorem dX12_kindWord_0 : decode cX12_kindWord 0 = .ok (.aload_n 0, 1) := by decide +kernel
theorem dX12_kindWord_1 : decode cX12_kindWord 1 = .ok (.bipush 112, 2) := by decide +kernel
theorem dX12_kindWord_3 : decode cX12_kindWord 3 = .ok (.bipush 117, 2) := by decide +kernel
theorem dX12_kindWord_5 : decode cX12_kindWord 5 = .ok (.bipush 116, 2) := by decide +kernel
theorem dX12_kindWord_7 : decode cX12_kindWord 7 = .ok (.iconst 0, 1) := by decide +kernel
theorem dX12_kindWord_8 : decode cX12_kindWord 8 = .ok (.iconst 0, 1) := by decide +kernel
theorem dX12_kindWord_9 : decode cX12_kindWord 9 = .ok (.iconst 0, 1) := by decide +kernel
theorem dX12_kindWord_10 : decode cX12_kindWord 10 = .ok (.invokestatic 148, 3) := by decide +kernel
theorem dX12_kindWord_13 : decode cX12_kindWord 13 = .ok (.invokevirtual 152, 3) := by decide +kernel
theorem dX12_kindWord_16 : decode cX12_kindWord 16 = .ok (.ifCond .eq 5, 3) := by decide +kernel
theorem dX12_kindWord_19 : decode cX12_kindWord 19 = .ok (.iconst 0, 1) := by decide +kernel
theorem dX12_kindWord_20 : decode cX12_kindWord 20 = .ok (.ireturn, 1) := by decide +kernel
theorem dX12_kindWord_21 : decode cX12_kindWord 21 = .ok (.aload_n 0, 1) := by decide +kernel
theorem dX12_kindWord_22 : decode cX12_kindWord 22 = .ok (.bipush 116, 2) := by decide +kernel
theorem dX12_kindWord_24 : decode cX12_kindWord 24 = .ok (.bipush 97, 2) := by decide +kernel
theorem dX12_kindWord_26 : decode cX12_kindWord 26 = .ok (.bipush 107, 2) := by decide +kernel
theorem dX12_kindWord_28 : decode cX12_kindWord 28 = .ok (.bipush 101, 2) := by decide +kernel
theorem dX12_kindWord_30 : decode cX12_kindWord 30 = .ok (.iconst 0, 1) := by decide +kernel
theorem dX12_kindWord_31 : decode cX12_kindWord 31 = .ok (.iconst 0, 1) := by decide +kernel
theorem dX12_kindWord_32 : decode cX12_kindWord 32 = .ok (.invokestatic 148, 3) := by decide +kernel
theorem dX12_kindWord_35 : decode cX12_kindWord 35 = .ok (.invokevirtual 152, 3) := by decide +kernel
theorem dX12_kindWord_38 : decode cX12_kindWord 38 = .ok (.ifCond .eq 5, 3) := by decide +kernel
theorem dX12_kindWord_41 : decode cX12_kindWord 41 = .ok (.iconst 1, 1) := by decide +kernel
theorem dX12_kindWord_42 : decode cX12_kindWord 42 = .ok (.ireturn, 1) := by decide +kernel
theorem dX12_kindWord_43 : decode cX12_kindWord 43 = .ok (.aload_n 0, 1) := by decide +kernel
theorem dX12_kindWord_44 : decode cX12_kindWord 44 = .ok (.bipush 110, 2) := by decide +kernel
theorem dX12_kindWord_46 : decode cX12_kindWord 46 = .ok (.bipush 97, 2) := by decide +kernel
theorem dX12_kindWord_48 : decode cX12_kindWord 48 = .ok (.bipush 109, 2) := by decide +kernel
theorem dX12_kindWord_50 : decode cX12_kindWord 50 = .ok (.bipush 101, 2) := by decide +kernel
theorem dX12_kindWord_52 : decode cX12_kindWord 52 = .ok (.iconst 0, 1) := by decide +kernel
theorem dX12_kindWord_53 : decode cX12_kindWord 53 = .ok (.iconst 0, 1) := by decide +kernel
theorem dX12_kindWord_54 : decode cX12_kindWord 54 = .ok (.invokestatic 148, 3) := by decide +kernel
theorem dX12_kindWord_57 : decode cX12_kindWord 57 = .ok (.invokevirtual 152, 3) := by decide +kernel
theorem dX12_kindWord_60 : decode cX12_kindWord 60 = .ok (.ifCond .eq 5, 3) := by decide +kernel
theorem dX12_kindWord_63 : decode cX12_kindWord 63 = .ok (.iconst 2, 1) := by decide +kernel
theorem dX12_kindWord_64 : decode cX12_kindWord 64 = .ok (.ireturn, 1) := by decide +kernel
theorem dX12_kindWord_65 : decode cX12_kindWord 65 = .ok (.aload_n 0, 1) := by decide +kernel
theorem dX12_kindWord_66 : decode cX12_kindWord 66 = .ok (.bipush 109, 2) := by decide +kernel
theorem dX12_kindWord_68 : decode cX12_kindWord 68 = .ok (.bipush 111, 2) := by decide +kernel
theorem dX12_kindWord_70 : decode cX12_kindWord 70 = .ok (.bipush 118, 2) := by decide +kernel
theorem dX12_kindWord_72 : decode cX12_kindWord 72 = .ok (.bipush 101, 2) := by decide +kernel
theorem dX12_kindWord_74 : decode cX12_kindWord 74 = .ok (.iconst 0, 1) := by decide +kernel
theorem dX12_kindWord_75 : decode cX12_kindWord 75 = .ok (.iconst 0, 1) := by decide +kernel
theorem dX12_kindWord_76 : decode cX12_kindWord 76 = .ok (.invokestatic 148, 3) := by decide +kernel
theorem dX12_kindWord_79 : decode cX12_kindWord 79 = .ok (.invokevirtual 152, 3) := by decide +kernel
theorem dX12_kindWord_82 : decode cX12_kindWord 82 = .ok (.ifCond .eq 5, 3) := by decide +kernel
theorem dX12_kindWord_85 : decode cX12_kindWord 85 = .ok (.iconst 3, 1) := by decide +kernel
theorem dX12_kindWord_86 : decode cX12_kindWord 86 = .ok (.ireturn, 1) := by decide +kernel
theorem dX12_kindWord_87 : decode cX12_kindWord 87 = .ok (.aload_n 0, 1) := by decide +kernel
theorem dX12_kindWord_88 : decode cX12_kindWord 88 = .ok (.bipush 115, 2) := by decide +kernel
theorem dX12_kindWord_90 : decode cX12_kindWord 90 = .ok (.bipush 101, 2) := by decide +kernel
theorem dX12_kindWord_92 : decode cX12_kindWord 92 = .ok (.bipush 116, 2) := by decide +kernel
theorem dX12_kindWord_94 : decode cX12_kindWord 94 = .ok (.bipush 116, 2) := by decide +kernel
theorem dX12_kindWord_96 : decode cX12_kindWord 96 = .ok (.bipush 108, 2) := by decide +kernel
theorem dX12_kindWord_98 : decode cX12_kindWord 98 = .ok (.bipush 101, 2) := by decide +kernel
theorem dX12_kindWord_100 : decode cX12_kindWord 100 = .ok (.invokestatic 148, 3) := by decide +kernel
theorem dX12_kindWord_103 : decode cX12_kindWord 103 = .ok (.invokevirtual 152, 3) := by decide +kernel
theorem dX12_kindWord_106 : decode cX12_kindWord 106 = .ok (.ifCond .eq 7, 3) := by decide +kernel
theorem dX12_kindWord_109 : decode cX12_kindWord 109 = .ok (.iconst 4, 1) := by decide +kernel
theorem dX12_kindWord_110 : decode cX12_kindWord 110 = .ok (.goto 4, 3) := by decide +kernel
theorem dX12_kindWord_113 : decode cX12_kindWord 113 = .ok (.iconst (-1), 1) := by decide +kernel
theorem dX12_kindWord_114 : decode cX12_kindWord 114 = .ok (.ireturn, 1) := by decide +kernel
theorem dX12_isKey_0 : decode cX12_isKey 0 = .ok (.aload_n 0, 1) := by decide +kernel
theorem dX12_isKey_1 : decode cX12_isKey 1 = .ok (.bipush 107, 2) := by decide +kernel
theorem dX12_isKey_3 : decode cX12_isKey 3 = .ok (.bipush 101, 2) := by decide +kernel
theorem dX12_isKey_5 : decode cX12_isKey 5 = .ok (.bipush 121, 2) := by decide +kernel
theorem dX12_isKey_7 : decode cX12_isKey 7 = .ok (.iconst 0, 1) := by decide +kernel
theorem dX12_isKey_8 : decode cX12_isKey 8 = .ok (.iconst 0, 1) := by decide +kernel
theorem dX12_isKey_9 : decode cX12_isKey 9 = .ok (.iconst 0, 1) := by decide +kernel
theorem dX12_isKey_10 : decode cX12_isKey 10 = .ok (.invokestatic 148, 3) := by decide +kernel
theorem dX12_isKey_13 : decode cX12_isKey 13 = .ok (.invokevirtual 152, 3) := by decide +kernel
theorem dX12_isKey_16 : decode cX12_isKey 16 = .ok (.ireturn, 1) := by decide +kernel
theorem dX12_isSays_0 : decode cX12_isSays 0 = .ok (.aload_n 0, 1) := by decide +kernel
theorem dX12_isSays_1 : decode cX12_isSays 1 = .ok (.bipush 115, 2) := by decide +kernel
theorem dX12_isSays_3 : decode cX12_isSays 3 = .ok (.bipush 97, 2) := by decide +kernel
theorem dX12_isSays_5 : decode cX12_isSays 5 = .ok (.bipush 121, 2) := by decide +kernel
theorem dX12_isSays_7 : decode cX12_isSays 7 = .ok (.bipush 115, 2) := by decide +kernel
theorem dX12_isSays_9 : decode cX12_isSays 9 = .ok (.iconst 0, 1) := by decide +kernel
theorem dX12_isSays_10 : decode cX12_isSays 10 = .ok (.iconst 0, 1) := by decide +kernel
theorem dX12_isSays_11 : decode cX12_isSays 11 = .ok (.invokestatic 148, 3) := by decide +kernel
theorem dX12_isSays_14 : decode cX12_isSays 14 = .ok (.invokevirtual 152, 3) := by decide +kernel
theorem dX12_isSays_17 : decode cX12_isSays 17 = .ok (.ireturn, 1) := by decide +kernel
theorem dX12_isOf_0 : decode cX12_isOf 0 = .ok (.aload_n 0, 1) := by decide +kernel
theorem dX12_isOf_1 : decode cX12_isOf 1 = .ok (.bipush 111, 2) := by decide +kernel
theorem dX12_isOf_3 : decode cX12_isOf 3 = .ok (.bipush 102, 2) := by decide +kernel
theorem dX12_isOf_5 : decode cX12_isOf 5 = .ok (.iconst 0, 1) := by decide +kernel
theorem dX12_isOf_6 : decode cX12_isOf 6 = .ok (.iconst 0, 1) := by decide +kernel
theorem dX12_isOf_7 : decode cX12_isOf 7 = .ok (.iconst 0, 1) := by decide +kernel
theorem dX12_isOf_8 : decode cX12_isOf 8 = .ok (.iconst 0, 1) := by decide +kernel
theorem dX12_isOf_9 : decode cX12_isOf 9 = .ok (.invokestatic 148, 3) := by decide +kernel
theorem dX12_isOf_12 : decode cX12_isOf 12 = .ok (.invokevirtual 152, 3) := by decide +kernel
theorem dX12_isOf_15 : decode cX12_isOf 15 = .ok (.ireturn, 1) := by decide +kernel
theorem dX12_isNot_0 : decode cX12_isNot 0 = .ok (.aload_n 0, 1) := by decide +kernel
theorem dX12_isNot_1 : decode cX12_isNot 1 = .ok (.bipush 110, 2) := by decide +kernel
theorem dX12_isNot_3 : decode cX12_isNot 3 = .ok (.bipush 111, 2) := by decide +kernel
theorem dX12_isNot_5 : decode cX12_isNot 5 = .ok (.bipush 116, 2) := by decide +kernel
theorem dX12_isNot_7 : decode cX12_isNot 7 = .ok (.iconst 0, 1) := by decide +kernel
theorem dX12_isNot_8 : decode cX12_isNot 8 = .ok (.iconst 0, 1) := by decide +kernel
theorem dX12_isNot_9 : decode cX12_isNot 9 = .ok (.iconst 0, 1) := by decide +kernel
theorem dX12_isNot_10 : decode cX12_isNot 10 = .ok (.invokestatic 148, 3) := by decide +kernel
theorem dX12_isNot_13 : decode cX12_isNot 13 = .ok (.invokevirtual 152, 3) := by decide +kernel
theorem dX12_isNot_16 : decode cX12_isNot 16 = .ok (.ireturn, 1) := by decide +kernel
theorem dX12_isAfter_0 : decode cX12_isAfter 0 = .ok (.aload_n 0, 1) := by decide +kernel
theorem dX12_isAfter_1 : decode cX12_isAfter 1 = .ok (.bipush 97, 2) := by decide +kernel
theorem dX12_isAfter_3 : decode cX12_isAfter 3 = .ok (.bipush 102, 2) := by decide +kernel
theorem dX12_isAfter_5 : decode cX12_isAfter 5 = .ok (.bipush 116, 2) := by decide +kernel
theorem dX12_isAfter_7 : decode cX12_isAfter 7 = .ok (.bipush 101, 2) := by decide +kernel
theorem dX12_isAfter_9 : decode cX12_isAfter 9 = .ok (.bipush 114, 2) := by decide +kernel
theorem dX12_isAfter_11 : decode cX12_isAfter 11 = .ok (.iconst 0, 1) := by decide +kernel
theorem dX12_isAfter_12 : decode cX12_isAfter 12 = .ok (.invokestatic 148, 3) := by decide +kernel
theorem dX12_isAfter_15 : decode cX12_isAfter 15 = .ok (.invokevirtual 152, 3) := by decide +kernel
theorem dX12_isAfter_18 : decode cX12_isAfter 18 = .ok (.ireturn, 1) := by decide +kernel
theorem dX12_stepWord_0 : decode cX12_stepWord 0 = .ok (.aload_n 0, 1) := by decide +kernel
theorem dX12_stepWord_1 : decode cX12_stepWord 1 = .ok (.bipush 109, 2) := by decide +kernel
theorem dX12_stepWord_3 : decode cX12_stepWord 3 = .ok (.bipush 97, 2) := by decide +kernel
theorem dX12_stepWord_5 : decode cX12_stepWord 5 = .ok (.bipush 107, 2) := by decide +kernel
theorem dX12_stepWord_7 : decode cX12_stepWord 7 = .ok (.bipush 101, 2) := by decide +kernel
theorem dX12_stepWord_9 : decode cX12_stepWord 9 = .ok (.iconst 0, 1) := by decide +kernel
theorem dX12_stepWord_10 : decode cX12_stepWord 10 = .ok (.iconst 0, 1) := by decide +kernel
theorem dX12_stepWord_11 : decode cX12_stepWord 11 = .ok (.invokestatic 148, 3) := by decide +kernel
theorem dX12_stepWord_14 : decode cX12_stepWord 14 = .ok (.invokevirtual 152, 3) := by decide +kernel
theorem dX12_stepWord_17 : decode cX12_stepWord 17 = .ok (.ifCond .eq 5, 3) := by decide +kernel
theorem dX12_stepWord_20 : decode cX12_stepWord 20 = .ok (.iconst 0, 1) := by decide +kernel
theorem dX12_stepWord_21 : decode cX12_stepWord 21 = .ok (.ireturn, 1) := by decide +kernel
theorem dX12_stepWord_22 : decode cX12_stepWord 22 = .ok (.aload_n 0, 1) := by decide +kernel
theorem dX12_stepWord_23 : decode cX12_stepWord 23 = .ok (.bipush 115, 2) := by decide +kernel
theorem dX12_stepWord_25 : decode cX12_stepWord 25 = .ok (.bipush 104, 2) := by decide +kernel
theorem dX12_stepWord_27 : decode cX12_stepWord 27 = .ok (.bipush 105, 2) := by decide +kernel
theorem dX12_stepWord_29 : decode cX12_stepWord 29 = .ok (.bipush 112, 2) := by decide +kernel
theorem dX12_stepWord_31 : decode cX12_stepWord 31 = .ok (.iconst 0, 1) := by decide +kernel
theorem dX12_stepWord_32 : decode cX12_stepWord 32 = .ok (.iconst 0, 1) := by decide +kernel
theorem dX12_stepWord_33 : decode cX12_stepWord 33 = .ok (.invokestatic 148, 3) := by decide +kernel
theorem dX12_stepWord_36 : decode cX12_stepWord 36 = .ok (.invokevirtual 152, 3) := by decide +kernel
theorem dX12_stepWord_39 : decode cX12_stepWord 39 = .ok (.ifCond .eq 5, 3) := by decide +kernel
theorem dX12_stepWord_42 : decode cX12_stepWord 42 = .ok (.iconst 1, 1) := by decide +kernel
theorem dX12_stepWord_43 : decode cX12_stepWord 43 = .ok (.ireturn, 1) := by decide +kernel
theorem dX12_stepWord_44 : decode cX12_stepWord 44 = .ok (.aload_n 0, 1) := by decide +kernel
theorem dX12_stepWord_45 : decode cX12_stepWord 45 = .ok (.bipush 111, 2) := by decide +kernel
theorem dX12_stepWord_47 : decode cX12_stepWord 47 = .ok (.bipush 117, 2) := by decide +kernel
theorem dX12_stepWord_49 : decode cX12_stepWord 49 = .ok (.bipush 116, 2) := by decide +kernel
theorem dX12_stepWord_51 : decode cX12_stepWord 51 = .ok (.iconst 0, 1) := by decide +kernel
theorem dX12_stepWord_52 : decode cX12_stepWord 52 = .ok (.iconst 0, 1) := by decide +kernel
theorem dX12_stepWord_53 : decode cX12_stepWord 53 = .ok (.iconst 0, 1) := by decide +kernel
theorem dX12_stepWord_54 : decode cX12_stepWord 54 = .ok (.invokestatic 148, 3) := by decide +kernel
theorem dX12_stepWord_57 : decode cX12_stepWord 57 = .ok (.invokevirtual 152, 3) := by decide +kernel
theorem dX12_stepWord_60 : decode cX12_stepWord 60 = .ok (.ifCond .eq 5, 3) := by decide +kernel
theorem dX12_stepWord_63 : decode cX12_stepWord 63 = .ok (.iconst 2, 1) := by decide +kernel
theorem dX12_stepWord_64 : decode cX12_stepWord 64 = .ok (.ireturn, 1) := by decide +kernel
theorem dX12_stepWord_65 : decode cX12_stepWord 65 = .ok (.aload_n 0, 1) := by decide +kernel
theorem dX12_stepWord_66 : decode cX12_stepWord 66 = .ok (.bipush 112, 2) := by decide +kernel
theorem dX12_stepWord_68 : decode cX12_stepWord 68 = .ok (.bipush 105, 2) := by decide +kernel
theorem dX12_stepWord_70 : decode cX12_stepWord 70 = .ok (.bipush 99, 2) := by decide +kernel
theorem dX12_stepWord_72 : decode cX12_stepWord 72 = .ok (.bipush 107, 2) := by decide +kernel
theorem dX12_stepWord_74 : decode cX12_stepWord 74 = .ok (.iconst 0, 1) := by decide +kernel
theorem dX12_stepWord_75 : decode cX12_stepWord 75 = .ok (.iconst 0, 1) := by decide +kernel
theorem dX12_stepWord_76 : decode cX12_stepWord 76 = .ok (.invokestatic 148, 3) := by decide +kernel
theorem dX12_stepWord_79 : decode cX12_stepWord 79 = .ok (.invokevirtual 152, 3) := by decide +kernel
theorem dX12_stepWord_82 : decode cX12_stepWord 82 = .ok (.ifCond .eq 5, 3) := by decide +kernel
theorem dX12_stepWord_85 : decode cX12_stepWord 85 = .ok (.iconst 3, 1) := by decide +kernel
theorem dX12_stepWord_86 : decode cX12_stepWord 86 = .ok (.ireturn, 1) := by decide +kernel
theorem dX12_stepWord_87 : decode cX12_stepWord 87 = .ok (.aload_n 0, 1) := by decide +kernel
theorem dX12_stepWord_88 : decode cX12_stepWord 88 = .ok (.bipush 119, 2) := by decide +kernel
theorem dX12_stepWord_90 : decode cX12_stepWord 90 = .ok (.bipush 97, 2) := by decide +kernel
theorem dX12_stepWord_92 : decode cX12_stepWord 92 = .ok (.bipush 105, 2) := by decide +kernel
theorem dX12_stepWord_94 : decode cX12_stepWord 94 = .ok (.bipush 116, 2) := by decide +kernel
theorem dX12_stepWord_96 : decode cX12_stepWord 96 = .ok (.iconst 0, 1) := by decide +kernel
theorem dX12_stepWord_97 : decode cX12_stepWord 97 = .ok (.iconst 0, 1) := by decide +kernel
theorem dX12_stepWord_98 : decode cX12_stepWord 98 = .ok (.invokestatic 148, 3) := by decide +kernel
theorem dX12_stepWord_101 : decode cX12_stepWord 101 = .ok (.invokevirtual 152, 3) := by decide +kernel
theorem dX12_stepWord_104 : decode cX12_stepWord 104 = .ok (.ifCond .eq 5, 3) := by decide +kernel
theorem dX12_stepWord_107 : decode cX12_stepWord 107 = .ok (.iconst 4, 1) := by decide +kernel
theorem dX12_stepWord_108 : decode cX12_stepWord 108 = .ok (.ireturn, 1) := by decide +kernel
theorem dX12_stepWord_109 : decode cX12_stepWord 109 = .ok (.aload_n 0, 1) := by decide +kernel
theorem dX12_stepWord_110 : decode cX12_stepWord 110 = .ok (.bipush 100, 2) := by decide +kernel
theorem dX12_stepWord_112 : decode cX12_stepWord 112 = .ok (.bipush 114, 2) := by decide +kernel
theorem dX12_stepWord_114 : decode cX12_stepWord 114 = .ok (.bipush 97, 2) := by decide +kernel
theorem dX12_stepWord_116 : decode cX12_stepWord 116 = .ok (.bipush 119, 2) := by decide +kernel
theorem dX12_stepWord_118 : decode cX12_stepWord 118 = .ok (.iconst 0, 1) := by decide +kernel
theorem dX12_stepWord_119 : decode cX12_stepWord 119 = .ok (.iconst 0, 1) := by decide +kernel
theorem dX12_stepWord_120 : decode cX12_stepWord 120 = .ok (.invokestatic 148, 3) := by decide +kernel
theorem dX12_stepWord_123 : decode cX12_stepWord 123 = .ok (.invokevirtual 152, 3) := by decide +kernel
theorem dX12_stepWord_126 : decode cX12_stepWord 126 = .ok (.ifCond .eq 5, 3) := by decide +kernel
theorem dX12_stepWord_129 : decode cX12_stepWord 129 = .ok (.iconst 5, 1) := by decide +kernel
theorem dX12_stepWord_130 : decode cX12_stepWord 130 = .ok (.ireturn, 1) := by decide +kernel
theorem dX12_stepWord_131 : decode cX12_stepWord 131 = .ok (.aload_n 0, 1) := by decide +kernel
theorem dX12_stepWord_132 : decode cX12_stepWord 132 = .ok (.bipush 119, 2) := by decide +kernel
theorem dX12_stepWord_134 : decode cX12_stepWord 134 = .ok (.bipush 104, 2) := by decide +kernel
theorem dX12_stepWord_136 : decode cX12_stepWord 136 = .ok (.bipush 101, 2) := by decide +kernel
theorem dX12_stepWord_138 : decode cX12_stepWord 138 = .ok (.bipush 110, 2) := by decide +kernel
theorem dX12_stepWord_140 : decode cX12_stepWord 140 = .ok (.iconst 0, 1) := by decide +kernel
theorem dX12_stepWord_141 : decode cX12_stepWord 141 = .ok (.iconst 0, 1) := by decide +kernel
theorem dX12_stepWord_142 : decode cX12_stepWord 142 = .ok (.invokestatic 148, 3) := by decide +kernel
theorem dX12_stepWord_145 : decode cX12_stepWord 145 = .ok (.invokevirtual 152, 3) := by decide +kernel
theorem dX12_stepWord_148 : decode cX12_stepWord 148 = .ok (.ifCond .eq 6, 3) := by decide +kernel
theorem dX12_stepWord_151 : decode cX12_stepWord 151 = .ok (.bipush 6, 2) := by decide +kernel
theorem dX12_stepWord_153 : decode cX12_stepWord 153 = .ok (.ireturn, 1) := by decide +kernel
theorem dX12_stepWord_154 : decode cX12_stepWord 154 = .ok (.aload_n 0, 1) := by decide +kernel
theorem dX12_stepWord_155 : decode cX12_stepWord 155 = .ok (.bipush 108, 2) := by decide +kernel
theorem dX12_stepWord_157 : decode cX12_stepWord 157 = .ok (.bipush 111, 2) := by decide +kernel
theorem dX12_stepWord_159 : decode cX12_stepWord 159 = .ok (.bipush 111, 2) := by decide +kernel
theorem dX12_stepWord_161 : decode cX12_stepWord 161 = .ok (.bipush 112, 2) := by decide +kernel
theorem dX12_stepWord_163 : decode cX12_stepWord 163 = .ok (.iconst 0, 1) := by decide +kernel
theorem dX12_stepWord_164 : decode cX12_stepWord 164 = .ok (.iconst 0, 1) := by decide +kernel
theorem dX12_stepWord_165 : decode cX12_stepWord 165 = .ok (.invokestatic 148, 3) := by decide +kernel
theorem dX12_stepWord_168 : decode cX12_stepWord 168 = .ok (.invokevirtual 152, 3) := by decide +kernel
theorem dX12_stepWord_171 : decode cX12_stepWord 171 = .ok (.ifCond .eq 6, 3) := by decide +kernel
theorem dX12_stepWord_174 : decode cX12_stepWord 174 = .ok (.bipush 7, 2) := by decide +kernel
theorem dX12_stepWord_176 : decode cX12_stepWord 176 = .ok (.ireturn, 1) := by decide +kernel
theorem dX12_stepWord_177 : decode cX12_stepWord 177 = .ok (.aload_n 0, 1) := by decide +kernel
theorem dX12_stepWord_178 : decode cX12_stepWord 178 = .ok (.bipush 115, 2) := by decide +kernel
theorem dX12_stepWord_180 : decode cX12_stepWord 180 = .ok (.bipush 116, 2) := by decide +kernel
theorem dX12_stepWord_182 : decode cX12_stepWord 182 = .ok (.bipush 111, 2) := by decide +kernel
theorem dX12_stepWord_184 : decode cX12_stepWord 184 = .ok (.bipush 112, 2) := by decide +kernel
theorem dX12_stepWord_186 : decode cX12_stepWord 186 = .ok (.iconst 0, 1) := by decide +kernel
theorem dX12_stepWord_187 : decode cX12_stepWord 187 = .ok (.iconst 0, 1) := by decide +kernel
theorem dX12_stepWord_188 : decode cX12_stepWord 188 = .ok (.invokestatic 148, 3) := by decide +kernel
theorem dX12_stepWord_191 : decode cX12_stepWord 191 = .ok (.invokevirtual 152, 3) := by decide +kernel
theorem dX12_stepWord_194 : decode cX12_stepWord 194 = .ok (.ifCond .eq 8, 3) := by decide +kernel
theorem dX12_stepWord_197 : decode cX12_stepWord 197 = .ok (.bipush 8, 2) := by decide +kernel
theorem dX12_stepWord_199 : decode cX12_stepWord 199 = .ok (.goto 4, 3) := by decide +kernel
theorem dX12_stepWord_202 : decode cX12_stepWord 202 = .ok (.iconst (-1), 1) := by decide +kernel
