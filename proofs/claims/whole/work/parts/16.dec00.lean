theorem dX0_init_0 : decode cX0_init 0 = .ok (.aload_n 0, 1) := by decide +kernel
theorem dX0_init_1 : decode cX0_init 1 = .ok (.invokespecial 3, 3) := by decide +kernel
theorem dX0_init_4 : decode cX0_init 4 = .ok (.aload_n 0, 1) := by decide +kernel
theorem dX0_init_5 : decode cX0_init 5 = .ok (.iconst 0, 1) := by decide +kernel
theorem dX0_init_6 : decode cX0_init 6 = .ok (.putfield 9, 3) := by decide +kernel
theorem dX0_init_9 : decode cX0_init 9 = .ok (.aload_n 0, 1) := by decide +kernel
theorem dX0_init_10 : decode cX0_init 10 = .ok (.iconst 0, 1) := by decide +kernel
theorem dX0_init_11 : decode cX0_init 11 = .ok (.putfield 15, 3) := by decide +kernel
theorem dX0_init_14 : decode cX0_init 14 = .ok (.aload_n 0, 1) := by decide +kernel
theorem dX0_init_15 : decode cX0_init 15 = .ok (.iconst 4, 1) := by decide +kernel
theorem dX0_init_16 : decode cX0_init 16 = .ok (.newarray .long, 2) := by decide +kernel
theorem dX0_init_18 : decode cX0_init 18 = .ok (.putfield 18, 3) := by decide +kernel
theorem dX0_init_21 : decode cX0_init 21 = .ok (.aload_n 0, 1) := by decide +kernel
theorem dX0_init_22 : decode cX0_init 22 = .ok (.bipush 16, 2) := by decide +kernel
theorem dX0_init_24 : decode cX0_init 24 = .ok (.newarray .long, 2) := by decide +kernel
theorem dX0_init_26 : decode cX0_init 26 = .ok (.putfield 22, 3) := by decide +kernel
theorem dX0_init_29 : decode cX0_init 29 = .ok (.aload_n 0, 1) := by decide +kernel
theorem dX0_init_30 : decode cX0_init 30 = .ok (.bipush 16, 2) := by decide +kernel
theorem dX0_init_32 : decode cX0_init 32 = .ok (.newarray .int, 2) := by decide +kernel
theorem dX0_init_34 : decode cX0_init 34 = .ok (.putfield 25, 3) := by decide +kernel
theorem dX0_init_37 : decode cX0_init 37 = .ok (.aload_n 0, 1) := by decide +kernel
theorem dX0_init_38 : decode cX0_init 38 = .ok (.bipush 16, 2) := by decide +kernel
theorem dX0_init_40 : decode cX0_init 40 = .ok (.newarray .int, 2) := by decide +kernel
theorem dX0_init_42 : decode cX0_init 42 = .ok (.putfield 29, 3) := by decide +kernel
theorem dX0_init_45 : decode cX0_init 45 = .ok (.aload_n 0, 1) := by decide +kernel
theorem dX0_init_46 : decode cX0_init 46 = .ok (.bipush 16, 2) := by decide +kernel
theorem dX0_init_48 : decode cX0_init 48 = .ok (.newarray .int, 2) := by decide +kernel
theorem dX0_init_50 : decode cX0_init 50 = .ok (.putfield 32, 3) := by decide +kernel
theorem dX0_init_53 : decode cX0_init 53 = .ok (.aload_n 0, 1) := by decide +kernel
theorem dX0_init_54 : decode cX0_init 54 = .ok (.bipush 16, 2) := by decide +kernel
theorem dX0_init_56 : decode cX0_init 56 = .ok (.newarray .int, 2) := by decide +kernel
theorem dX0_init_58 : decode cX0_init 58 = .ok (.putfield 35, 3) := by decide +kernel
theorem dX0_init_61 : decode cX0_init 61 = .ok (.aload_n 0, 1) := by decide +kernel
theorem dX0_init_62 : decode cX0_init 62 = .ok (.bipush 16, 2) := by decide +kernel
theorem dX0_init_64 : decode cX0_init 64 = .ok (.newarray .int, 2) := by decide +kernel
theorem dX0_init_66 : decode cX0_init 66 = .ok (.putfield 38, 3) := by decide +kernel
theorem dX0_init_69 : decode cX0_init 69 = .ok (.aload_n 0, 1) := by decide +kernel
theorem dX0_init_70 : decode cX0_init 70 = .ok (.bipush 16, 2) := by decide +kernel
theorem dX0_init_72 : decode cX0_init 72 = .ok (.newarray .int, 2) := by decide +kernel
theorem dX0_init_74 : decode cX0_init 74 = .ok (.putfield 41, 3) := by decide +kernel
theorem dX0_init_77 : decode cX0_init 77 = .ok (.aload_n 0, 1) := by decide +kernel
theorem dX0_init_78 : decode cX0_init 78 = .ok (.bipush 16, 2) := by decide +kernel
theorem dX0_init_80 : decode cX0_init 80 = .ok (.newarray .int, 2) := by decide +kernel
theorem dX0_init_82 : decode cX0_init 82 = .ok (.putfield 44, 3) := by decide +kernel
theorem dX0_init_85 : decode cX0_init 85 = .ok (.aload_n 0, 1) := by decide +kernel
theorem dX0_init_86 : decode cX0_init 86 = .ok (.bipush 16, 2) := by decide +kernel
theorem dX0_init_88 : decode cX0_init 88 = .ok (.newarray .int, 2) := by decide +kernel
theorem dX0_init_90 : decode cX0_init 90 = .ok (.putfield 47, 3) := by decide +kernel
theorem dX0_init_93 : decode cX0_init 93 = .ok (.aload_n 0, 1) := by decide +kernel
theorem dX0_init_94 : decode cX0_init 94 = .ok (.bipush 16, 2) := by decide +kernel
theorem dX0_init_96 : decode cX0_init 96 = .ok (.newarray .int, 2) := by decide +kernel
theorem dX0_init_98 : decode cX0_init 98 = .ok (.putfield 50, 3) := by decide +kernel
theorem dX0_init_101 : decode cX0_init 101 = .ok (.aload_n 0, 1) := by decide +kernel
theorem dX0_init_102 : decode cX0_init 102 = .ok (.bipush 16, 2) := by decide +kernel
theorem dX0_init_104 : decode cX0_init 104 = .ok (.newarray .int, 2) := by decide +kernel
theorem dX0_init_106 : decode cX0_init 106 = .ok (.putfield 53, 3) := by decide +kernel
theorem dX0_init_109 : decode cX0_init 109 = .ok (.aload_n 0, 1) := by decide +kernel
theorem dX0_init_110 : decode cX0_init 110 = .ok (.bipush 16, 2) := by decide +kernel
theorem dX0_init_112 : decode cX0_init 112 = .ok (.newarray .int, 2) := by decide +kernel
theorem dX0_init_114 : decode cX0_init 114 = .ok (.putfield 56, 3) := by decide +kernel
theorem dX0_init_117 : decode cX0_init 117 = .ok (.aload_n 0, 1) := by decide +kernel
theorem dX0_init_118 : decode cX0_init 118 = .ok (.iconst 0, 1) := by decide +kernel
theorem dX0_init_119 : decode cX0_init 119 = .ok (.putfield 59, 3) := by decide +kernel
theorem dX0_init_122 : decode cX0_init 122 = .ok (.return_, 1) := by decide +kernel
theorem dX0_isIn_0 : decode cX0_isIn 0 = .ok (.iload_n 0, 1) := by decide +kernel
theorem dX0_isIn_1 : decode cX0_isIn 1 = .ok (.iload_n 1, 1) := by decide +kernel
theorem dX0_isIn_2 : decode cX0_isIn 2 = .ok (.ishr, 1) := by decide +kernel
theorem dX0_isIn_3 : decode cX0_isIn 3 = .ok (.iconst 1, 1) := by decide +kernel
theorem dX0_isIn_4 : decode cX0_isIn 4 = .ok (.iand, 1) := by decide +kernel
theorem dX0_isIn_5 : decode cX0_isIn 5 = .ok (.ifCond .eq 7, 3) := by decide +kernel
theorem dX0_isIn_8 : decode cX0_isIn 8 = .ok (.iconst 1, 1) := by decide +kernel
theorem dX0_isIn_9 : decode cX0_isIn 9 = .ok (.goto 4, 3) := by decide +kernel
theorem dX0_isIn_12 : decode cX0_isIn 12 = .ok (.iconst 0, 1) := by decide +kernel
theorem dX0_isIn_13 : decode cX0_isIn 13 = .ok (.ireturn, 1) := by decide +kernel
theorem dX0_isChange_0 : decode cX0_isChange 0 = .ok (.iload_n 1, 1) := by decide +kernel
theorem dX0_isChange_1 : decode cX0_isChange 1 = .ok (.ifCond .lt 15, 3) := by decide +kernel
theorem dX0_isChange_4 : decode cX0_isChange 4 = .ok (.iload_n 1, 1) := by decide +kernel
theorem dX0_isChange_5 : decode cX0_isChange 5 = .ok (.aload_n 0, 1) := by decide +kernel
theorem dX0_isChange_6 : decode cX0_isChange 6 = .ok (.getfield 15, 3) := by decide +kernel
theorem dX0_isChange_9 : decode cX0_isChange 9 = .ok (.if_icmp .ge 7, 3) := by decide +kernel
theorem dX0_isChange_12 : decode cX0_isChange 12 = .ok (.iconst 1, 1) := by decide +kernel
theorem dX0_isChange_13 : decode cX0_isChange 13 = .ok (.goto 4, 3) := by decide +kernel
theorem dX0_isChange_16 : decode cX0_isChange 16 = .ok (.iconst 0, 1) := by decide +kernel
theorem dX0_isChange_17 : decode cX0_isChange 17 = .ok (.ireturn, 1) := by decide +kernel
theorem dX0_isIsland_0 : decode cX0_isIsland 0 = .ok (.iload_n 1, 1) := by decide +kernel
theorem dX0_isIsland_1 : decode cX0_isIsland 1 = .ok (.ifCond .lt 15, 3) := by decide +kernel
theorem dX0_isIsland_4 : decode cX0_isIsland 4 = .ok (.iload_n 1, 1) := by decide +kernel
theorem dX0_isIsland_5 : decode cX0_isIsland 5 = .ok (.aload_n 0, 1) := by decide +kernel
theorem dX0_isIsland_6 : decode cX0_isIsland 6 = .ok (.getfield 9, 3) := by decide +kernel
theorem dX0_isIsland_9 : decode cX0_isIsland 9 = .ok (.if_icmp .ge 7, 3) := by decide +kernel
theorem dX0_isIsland_12 : decode cX0_isIsland 12 = .ok (.iconst 1, 1) := by decide +kernel
theorem dX0_isIsland_13 : decode cX0_isIsland 13 = .ok (.goto 4, 3) := by decide +kernel
theorem dX0_isIsland_16 : decode cX0_isIsland 16 = .ok (.iconst 0, 1) := by decide +kernel
theorem dX0_isIsland_17 : decode cX0_isIsland 17 = .ok (.ireturn, 1) := by decide +kernel
theorem dX0_wholeSet_0 : decode cX0_wholeSet 0 = .ok (.iconst 1, 1) := by decide +kernel
theorem dX0_wholeSet_1 : decode cX0_wholeSet 1 = .ok (.aload_n 0, 1) := by decide +kernel
theorem dX0_wholeSet_2 : decode cX0_wholeSet 2 = .ok (.getfield 15, 3) := by decide +kernel
theorem dX0_wholeSet_5 : decode cX0_wholeSet 5 = .ok (.ishl, 1) := by decide +kernel
theorem dX0_wholeSet_6 : decode cX0_wholeSet 6 = .ok (.iconst 1, 1) := by decide +kernel
theorem dX0_wholeSet_7 : decode cX0_wholeSet 7 = .ok (.isub, 1) := by decide +kernel
theorem dX0_wholeSet_8 : decode cX0_wholeSet 8 = .ok (.ireturn, 1) := by decide +kernel
theorem dX0_isSet_0 : decode cX0_isSet 0 = .ok (.iload_n 1, 1) := by decide +kernel
theorem dX0_isSet_1 : decode cX0_isSet 1 = .ok (.ifCond .lt 15, 3) := by decide +kernel
theorem dX0_isSet_4 : decode cX0_isSet 4 = .ok (.iload_n 1, 1) := by decide +kernel
theorem dX0_isSet_5 : decode cX0_isSet 5 = .ok (.aload_n 0, 1) := by decide +kernel
theorem dX0_isSet_6 : decode cX0_isSet 6 = .ok (.invokevirtual 62, 3) := by decide +kernel
theorem dX0_isSet_9 : decode cX0_isSet 9 = .ok (.if_icmp .gt 7, 3) := by decide +kernel
theorem dX0_isSet_12 : decode cX0_isSet 12 = .ok (.iconst 1, 1) := by decide +kernel
theorem dX0_isSet_13 : decode cX0_isSet 13 = .ok (.goto 4, 3) := by decide +kernel
theorem dX0_isSet_16 : decode cX0_isSet 16 = .ok (.iconst 0, 1) := by decide +kernel
theorem dX0_isSet_17 : decode cX0_isSet 17 = .ok (.ireturn, 1) := by decide +kernel
theorem dX0_isPut_0 : decode cX0_isPut 0 = .ok (.aload_n 0, 1) := by decide +kernel
theorem dX0_isPut_1 : decode cX0_isPut 1 = .ok (.iload_n 1, 1) := by decide +kernel
theorem dX0_isPut_2 : decode cX0_isPut 2 = .ok (.invokevirtual 66, 3) := by decide +kernel
theorem dX0_isPut_5 : decode cX0_isPut 5 = .ok (.ifCond .eq 16, 3) := by decide +kernel
theorem dX0_isPut_8 : decode cX0_isPut 8 = .ok (.aload_n 0, 1) := by decide +kernel
theorem dX0_isPut_9 : decode cX0_isPut 9 = .ok (.getfield 25, 3) := by decide +kernel
theorem dX0_isPut_12 : decode cX0_isPut 12 = .ok (.iload_n 1, 1) := by decide +kernel
theorem dX0_isPut_13 : decode cX0_isPut 13 = .ok (.iaload, 1) := by decide +kernel
theorem dX0_isPut_14 : decode cX0_isPut 14 = .ok (.ifCond .ne 7, 3) := by decide +kernel
theorem dX0_isPut_17 : decode cX0_isPut 17 = .ok (.iconst 1, 1) := by decide +kernel
theorem dX0_isPut_18 : decode cX0_isPut 18 = .ok (.goto 4, 3) := by decide +kernel
theorem dX0_isPut_21 : decode cX0_isPut 21 = .ok (.iconst 0, 1) := by decide +kernel
theorem dX0_isPut_22 : decode cX0_isPut 22 = .ok (.ireturn, 1) := by decide +kernel
theorem dX0_findIsland_0 : decode cX0_findIsland 0 = .ok (.iconst 0, 1) := by decide +kernel
theorem dX0_findIsland_1 : decode cX0_findIsland 1 = .ok (.istore_n 3, 1) := by decide +kernel
theorem dX0_findIsland_2 : decode cX0_findIsland 2 = .ok (.iload_n 3, 1) := by decide +kernel
theorem dX0_findIsland_3 : decode cX0_findIsland 3 = .ok (.aload_n 0, 1) := by decide +kernel
theorem dX0_findIsland_4 : decode cX0_findIsland 4 = .ok (.getfield 9, 3) := by decide +kernel
theorem dX0_findIsland_7 : decode cX0_findIsland 7 = .ok (.if_icmp .ge 22, 3) := by decide +kernel
theorem dX0_findIsland_10 : decode cX0_findIsland 10 = .ok (.aload_n 0, 1) := by decide +kernel
theorem dX0_findIsland_11 : decode cX0_findIsland 11 = .ok (.getfield 18, 3) := by decide +kernel
theorem dX0_findIsland_14 : decode cX0_findIsland 14 = .ok (.iload_n 3, 1) := by decide +kernel
theorem dX0_findIsland_15 : decode cX0_findIsland 15 = .ok (.laload, 1) := by decide +kernel
theorem dX0_findIsland_16 : decode cX0_findIsland 16 = .ok (.lload_n 1, 1) := by decide +kernel
theorem dX0_findIsland_17 : decode cX0_findIsland 17 = .ok (.lcmp, 1) := by decide +kernel
theorem dX0_findIsland_18 : decode cX0_findIsland 18 = .ok (.ifCond .ne 5, 3) := by decide +kernel
theorem dX0_findIsland_21 : decode cX0_findIsland 21 = .ok (.iload_n 3, 1) := by decide +kernel
theorem dX0_findIsland_22 : decode cX0_findIsland 22 = .ok (.ireturn, 1) := by decide +kernel
theorem dX0_findIsland_23 : decode cX0_findIsland 23 = .ok (.iinc 3 1, 3) := by decide +kernel
theorem dX0_findIsland_26 : decode cX0_findIsland 26 = .ok (.goto (-24), 3) := by decide +kernel
theorem dX0_findIsland_29 : decode cX0_findIsland 29 = .ok (.iconst (-1), 1) := by decide +kernel
theorem dX0_findIsland_30 : decode cX0_findIsland 30 = .ok (.ireturn, 1) := by decide +kernel
theorem dX0_findChange_0 : decode cX0_findChange 0 = .ok (.iconst 0, 1) := by decide +kernel
theorem dX0_findChange_1 : decode cX0_findChange 1 = .ok (.istore_n 3, 1) := by decide +kernel
theorem dX0_findChange_2 : decode cX0_findChange 2 = .ok (.iload_n 3, 1) := by decide +kernel
theorem dX0_findChange_3 : decode cX0_findChange 3 = .ok (.aload_n 0, 1) := by decide +kernel
theorem dX0_findChange_4 : decode cX0_findChange 4 = .ok (.getfield 15, 3) := by decide +kernel
theorem dX0_findChange_7 : decode cX0_findChange 7 = .ok (.if_icmp .ge 22, 3) := by decide +kernel
theorem dX0_findChange_10 : decode cX0_findChange 10 = .ok (.aload_n 0, 1) := by decide +kernel
theorem dX0_findChange_11 : decode cX0_findChange 11 = .ok (.getfield 22, 3) := by decide +kernel
theorem dX0_findChange_14 : decode cX0_findChange 14 = .ok (.iload_n 3, 1) := by decide +kernel
theorem dX0_findChange_15 : decode cX0_findChange 15 = .ok (.laload, 1) := by decide +kernel
theorem dX0_findChange_16 : decode cX0_findChange 16 = .ok (.lload_n 1, 1) := by decide +kernel
theorem dX0_findChange_17 : decode cX0_findChange 17 = .ok (.lcmp, 1) := by decide +kernel
theorem dX0_findChange_18 : decode cX0_findChange 18 = .ok (.ifCond .ne 5, 3) := by decide +kernel
theorem dX0_findChange_21 : decode cX0_findChange 21 = .ok (.iload_n 3, 1) := by decide +kernel
theorem dX0_findChange_22 : decode cX0_findChange 22 = .ok (.ireturn, 1) := by decide +kernel
theorem dX0_findChange_23 : decode cX0_findChange 23 = .ok (.iinc 3 1, 3) := by decide +kernel
theorem dX0_findChange_26 : decode cX0_findChange 26 = .ok (.goto (-24), 3) := by decide +kernel
theorem dX0_findChange_29 : decode cX0_findChange 29 = .ok (.iconst (-1), 1) := by decide +kernel
theorem dX0_findChange_30 : decode cX0_findChange 30 = .ok (.ireturn, 1) := by decide +kernel
theorem dX0_addIsland_0 : decode cX0_addIsland 0 = .ok (.aload_n 0, 1) := by decide +kernel
theorem dX0_addIsland_1 : decode cX0_addIsland 1 = .ok (.getfield 9, 3) := by decide +kernel
theorem dX0_addIsland_4 : decode cX0_addIsland 4 = .ok (.iconst 4, 1) := by decide +kernel
theorem dX0_addIsland_5 : decode cX0_addIsland 5 = .ok (.if_icmp .ge 23, 3) := by decide +kernel
theorem dX0_addIsland_8 : decode cX0_addIsland 8 = .ok (.aload_n 0, 1) := by decide +kernel
theorem dX0_addIsland_9 : decode cX0_addIsland 9 = .ok (.getfield 18, 3) := by decide +kernel
theorem dX0_addIsland_12 : decode cX0_addIsland 12 = .ok (.aload_n 0, 1) := by decide +kernel
theorem dX0_addIsland_13 : decode cX0_addIsland 13 = .ok (.getfield 9, 3) := by decide +kernel
theorem dX0_addIsland_16 : decode cX0_addIsland 16 = .ok (.lload_n 1, 1) := by decide +kernel
theorem dX0_addIsland_17 : decode cX0_addIsland 17 = .ok (.lastore, 1) := by decide +kernel
theorem dX0_addIsland_18 : decode cX0_addIsland 18 = .ok (.aload_n 0, 1) := by decide +kernel
theorem dX0_addIsland_19 : decode cX0_addIsland 19 = .ok (.dup, 1) := by decide +kernel
theorem dX0_addIsland_20 : decode cX0_addIsland 20 = .ok (.getfield 9, 3) := by decide +kernel
theorem dX0_addIsland_23 : decode cX0_addIsland 23 = .ok (.iconst 1, 1) := by decide +kernel
theorem dX0_addIsland_24 : decode cX0_addIsland 24 = .ok (.iadd, 1) := by decide +kernel
theorem dX0_addIsland_25 : decode cX0_addIsland 25 = .ok (.putfield 9, 3) := by decide +kernel
theorem dX0_addIsland_28 : decode cX0_addIsland 28 = .ok (.return_, 1) := by decide +kernel
theorem dX0_addChange_0 : decode cX0_addChange 0 = .ok (.aload_n 0, 1) := by decide +kernel
theorem dX0_addChange_1 : decode cX0_addChange 1 = .ok (.getfield 15, 3) := by decide +kernel
theorem dX0_addChange_4 : decode cX0_addChange 4 = .ok (.istore_n 1, 1) := by decide +kernel
theorem dX0_addChange_5 : decode cX0_addChange 5 = .ok (.iload_n 1, 1) := by decide +kernel
theorem dX0_addChange_6 : decode cX0_addChange 6 = .ok (.bipush 16, 2) := by decide +kernel
theorem dX0_addChange_8 : decode cX0_addChange 8 = .ok (.if_icmp .lt 4, 3) := by decide +kernel
theorem dX0_addChange_11 : decode cX0_addChange 11 = .ok (.return_, 1) := by decide +kernel
theorem dX0_addChange_12 : decode cX0_addChange 12 = .ok (.aload_n 0, 1) := by decide +kernel
theorem dX0_addChange_13 : decode cX0_addChange 13 = .ok (.getfield 44, 3) := by decide +kernel
theorem dX0_addChange_16 : decode cX0_addChange 16 = .ok (.iload_n 1, 1) := by decide +kernel
theorem dX0_addChange_17 : decode cX0_addChange 17 = .ok (.aload_n 0, 1) := by decide +kernel
theorem dX0_addChange_18 : decode cX0_addChange 18 = .ok (.getfield 41, 3) := by decide +kernel
theorem dX0_addChange_21 : decode cX0_addChange 21 = .ok (.iload_n 1, 1) := by decide +kernel
theorem dX0_addChange_22 : decode cX0_addChange 22 = .ok (.iaload, 1) := by decide +kernel
theorem dX0_addChange_23 : decode cX0_addChange 23 = .ok (.iastore, 1) := by decide +kernel
theorem dX0_addChange_24 : decode cX0_addChange 24 = .ok (.aload_n 0, 1) := by decide +kernel
theorem dX0_addChange_25 : decode cX0_addChange 25 = .ok (.getfield 38, 3) := by decide +kernel
theorem dX0_addChange_28 : decode cX0_addChange 28 = .ok (.iload_n 1, 1) := by decide +kernel
theorem dX0_addChange_29 : decode cX0_addChange 29 = .ok (.iconst 0, 1) := by decide +kernel
theorem dX0_addChange_30 : decode cX0_addChange 30 = .ok (.iastore, 1) := by decide +kernel
theorem dX0_addChange_31 : decode cX0_addChange 31 = .ok (.iconst 0, 1) := by decide +kernel
theorem dX0_addChange_32 : decode cX0_addChange 32 = .ok (.istore_n 2, 1) := by decide +kernel
theorem dX0_addChange_33 : decode cX0_addChange 33 = .ok (.iload_n 2, 1) := by decide +kernel
theorem dX0_addChange_34 : decode cX0_addChange 34 = .ok (.iload_n 1, 1) := by decide +kernel
theorem dX0_addChange_35 : decode cX0_addChange 35 = .ok (.if_icmp .ge 60, 3) := by decide +kernel
theorem dX0_addChange_38 : decode cX0_addChange 38 = .ok (.aload_n 0, 1) := by decide +kernel
theorem dX0_addChange_39 : decode cX0_addChange 39 = .ok (.getfield 41, 3) := by decide +kernel
theorem dX0_addChange_42 : decode cX0_addChange 42 = .ok (.iload_n 1, 1) := by decide +kernel
theorem dX0_addChange_43 : decode cX0_addChange 43 = .ok (.iaload, 1) := by decide +kernel
theorem dX0_addChange_44 : decode cX0_addChange 44 = .ok (.iload_n 2, 1) := by decide +kernel
theorem dX0_addChange_45 : decode cX0_addChange 45 = .ok (.invokestatic 70, 3) := by decide +kernel
theorem dX0_addChange_48 : decode cX0_addChange 48 = .ok (.ifCond .eq 41, 3) := by decide +kernel
theorem dX0_addChange_51 : decode cX0_addChange 51 = .ok (.aload_n 0, 1) := by decide +kernel
theorem dX0_addChange_52 : decode cX0_addChange 52 = .ok (.getfield 44, 3) := by decide +kernel
theorem dX0_addChange_55 : decode cX0_addChange 55 = .ok (.iload_n 1, 1) := by decide +kernel
theorem dX0_addChange_56 : decode cX0_addChange 56 = .ok (.dup2, 1) := by decide +kernel
theorem dX0_addChange_57 : decode cX0_addChange 57 = .ok (.iaload, 1) := by decide +kernel
theorem dX0_addChange_58 : decode cX0_addChange 58 = .ok (.aload_n 0, 1) := by decide +kernel
theorem dX0_addChange_59 : decode cX0_addChange 59 = .ok (.getfield 44, 3) := by decide +kernel
theorem dX0_addChange_62 : decode cX0_addChange 62 = .ok (.iload_n 2, 1) := by decide +kernel
theorem dX0_addChange_63 : decode cX0_addChange 63 = .ok (.iaload, 1) := by decide +kernel
theorem dX0_addChange_64 : decode cX0_addChange 64 = .ok (.ior, 1) := by decide +kernel
theorem dX0_addChange_65 : decode cX0_addChange 65 = .ok (.iastore, 1) := by decide +kernel
theorem dX0_addChange_66 : decode cX0_addChange 66 = .ok (.aload_n 0, 1) := by decide +kernel
theorem dX0_addChange_67 : decode cX0_addChange 67 = .ok (.getfield 38, 3) := by decide +kernel
theorem dX0_addChange_70 : decode cX0_addChange 70 = .ok (.iload_n 1, 1) := by decide +kernel
theorem dX0_addChange_71 : decode cX0_addChange 71 = .ok (.aload_n 0, 1) := by decide +kernel
theorem dX0_addChange_72 : decode cX0_addChange 72 = .ok (.getfield 38, 3) := by decide +kernel
theorem dX0_addChange_75 : decode cX0_addChange 75 = .ok (.iload_n 1, 1) := by decide +kernel
theorem dX0_addChange_76 : decode cX0_addChange 76 = .ok (.iaload, 1) := by decide +kernel
theorem dX0_addChange_77 : decode cX0_addChange 77 = .ok (.aload_n 0, 1) := by decide +kernel
theorem dX0_addChange_78 : decode cX0_addChange 78 = .ok (.getfield 38, 3) := by decide +kernel
theorem dX0_addChange_81 : decode cX0_addChange 81 = .ok (.iload_n 2, 1) := by decide +kernel
theorem dX0_addChange_82 : decode cX0_addChange 82 = .ok (.iaload, 1) := by decide +kernel
theorem dX0_addChange_83 : decode cX0_addChange 83 = .ok (.iconst 1, 1) := by decide +kernel
theorem dX0_addChange_84 : decode cX0_addChange 84 = .ok (.iadd, 1) := by decide +kernel
theorem dX0_addChange_85 : decode cX0_addChange 85 = .ok (.invokestatic 74, 3) := by decide +kernel
theorem dX0_addChange_88 : decode cX0_addChange 88 = .ok (.iastore, 1) := by decide +kernel
theorem dX0_addChange_89 : decode cX0_addChange 89 = .ok (.iinc 2 1, 3) := by decide +kernel
theorem dX0_addChange_92 : decode cX0_addChange 92 = .ok (.goto (-59), 3) := by decide +kernel
theorem dX0_addChange_95 : decode cX0_addChange 95 = .ok (.iconst 0, 1) := by decide +kernel
theorem dX0_addChange_96 : decode cX0_addChange 96 = .ok (.istore_n 2, 1) := by decide +kernel
theorem dX0_addChange_97 : decode cX0_addChange 97 = .ok (.iload_n 2, 1) := by decide +kernel
theorem dX0_addChange_98 : decode cX0_addChange 98 = .ok (.iload_n 1, 1) := by decide +kernel
theorem dX0_addChange_99 : decode cX0_addChange 99 = .ok (.if_icmp .ge 94, 3) := by decide +kernel
theorem dX0_addChange_102 : decode cX0_addChange 102 = .ok (.aload_n 0, 1) := by decide +kernel
theorem dX0_addChange_103 : decode cX0_addChange 103 = .ok (.getfield 44, 3) := by decide +kernel
theorem dX0_addChange_106 : decode cX0_addChange 106 = .ok (.iload_n 1, 1) := by decide +kernel
theorem dX0_addChange_107 : decode cX0_addChange 107 = .ok (.iaload, 1) := by decide +kernel
theorem dX0_addChange_108 : decode cX0_addChange 108 = .ok (.iload_n 2, 1) := by decide +kernel
theorem dX0_addChange_109 : decode cX0_addChange 109 = .ok (.invokestatic 70, 3) := by decide +kernel
theorem dX0_addChange_112 : decode cX0_addChange 112 = .ok (.ifCond .eq 18, 3) := by decide +kernel
theorem dX0_addChange_115 : decode cX0_addChange 115 = .ok (.aload_n 0, 1) := by decide +kernel
theorem dX0_addChange_116 : decode cX0_addChange 116 = .ok (.getfield 47, 3) := by decide +kernel
theorem dX0_addChange_119 : decode cX0_addChange 119 = .ok (.iload_n 2, 1) := by decide +kernel
theorem dX0_addChange_120 : decode cX0_addChange 120 = .ok (.dup2, 1) := by decide +kernel
theorem dX0_addChange_121 : decode cX0_addChange 121 = .ok (.iaload, 1) := by decide +kernel
theorem dX0_addChange_122 : decode cX0_addChange 122 = .ok (.iconst 1, 1) := by decide +kernel
theorem dX0_addChange_123 : decode cX0_addChange 123 = .ok (.iload_n 1, 1) := by decide +kernel
theorem dX0_addChange_124 : decode cX0_addChange 124 = .ok (.ishl, 1) := by decide +kernel
theorem dX0_addChange_125 : decode cX0_addChange 125 = .ok (.ior, 1) := by decide +kernel
theorem dX0_addChange_126 : decode cX0_addChange 126 = .ok (.iastore, 1) := by decide +kernel
theorem dX0_addChange_127 : decode cX0_addChange 127 = .ok (.goto 60, 3) := by decide +kernel
theorem dX0_addChange_130 : decode cX0_addChange 130 = .ok (.aload_n 0, 1) := by decide +kernel
theorem dX0_addChange_131 : decode cX0_addChange 131 = .ok (.getfield 35, 3) := by decide +kernel
theorem dX0_addChange_134 : decode cX0_addChange 134 = .ok (.iload_n 2, 1) := by decide +kernel
theorem dX0_addChange_135 : decode cX0_addChange 135 = .ok (.iaload, 1) := by decide +kernel
theorem dX0_addChange_136 : decode cX0_addChange 136 = .ok (.aload_n 0, 1) := by decide +kernel
theorem dX0_addChange_137 : decode cX0_addChange 137 = .ok (.getfield 35, 3) := by decide +kernel
theorem dX0_addChange_140 : decode cX0_addChange 140 = .ok (.iload_n 1, 1) := by decide +kernel
theorem dX0_addChange_141 : decode cX0_addChange 141 = .ok (.iaload, 1) := by decide +kernel
theorem dX0_addChange_142 : decode cX0_addChange 142 = .ok (.if_icmp .ne 45, 3) := by decide +kernel
theorem dX0_addChange_145 : decode cX0_addChange 145 = .ok (.aload_n 0, 1) := by decide +kernel
theorem dX0_addChange_146 : decode cX0_addChange 146 = .ok (.getfield 25, 3) := by decide +kernel
theorem dX0_addChange_149 : decode cX0_addChange 149 = .ok (.iload_n 2, 1) := by decide +kernel
theorem dX0_addChange_150 : decode cX0_addChange 150 = .ok (.iaload, 1) := by decide +kernel
theorem dX0_addChange_151 : decode cX0_addChange 151 = .ok (.aload_n 0, 1) := by decide +kernel
theorem dX0_addChange_152 : decode cX0_addChange 152 = .ok (.getfield 25, 3) := by decide +kernel
theorem dX0_addChange_155 : decode cX0_addChange 155 = .ok (.iload_n 1, 1) := by decide +kernel
theorem dX0_addChange_156 : decode cX0_addChange 156 = .ok (.iaload, 1) := by decide +kernel
theorem dX0_addChange_157 : decode cX0_addChange 157 = .ok (.invokestatic 80, 3) := by decide +kernel
theorem dX0_addChange_160 : decode cX0_addChange 160 = .ok (.ifCond .eq 27, 3) := by decide +kernel
theorem dX0_addChange_163 : decode cX0_addChange 163 = .ok (.aload_n 0, 1) := by decide +kernel
theorem dX0_addChange_164 : decode cX0_addChange 164 = .ok (.getfield 50, 3) := by decide +kernel
theorem dX0_addChange_167 : decode cX0_addChange 167 = .ok (.iload_n 2, 1) := by decide +kernel
theorem dX0_addChange_168 : decode cX0_addChange 168 = .ok (.dup2, 1) := by decide +kernel
theorem dX0_addChange_169 : decode cX0_addChange 169 = .ok (.iaload, 1) := by decide +kernel
theorem dX0_addChange_170 : decode cX0_addChange 170 = .ok (.iconst 1, 1) := by decide +kernel
theorem dX0_addChange_171 : decode cX0_addChange 171 = .ok (.iload_n 1, 1) := by decide +kernel
theorem dX0_addChange_172 : decode cX0_addChange 172 = .ok (.ishl, 1) := by decide +kernel
theorem dX0_addChange_173 : decode cX0_addChange 173 = .ok (.ior, 1) := by decide +kernel
theorem dX0_addChange_174 : decode cX0_addChange 174 = .ok (.iastore, 1) := by decide +kernel
theorem dX0_addChange_175 : decode cX0_addChange 175 = .ok (.aload_n 0, 1) := by decide +kernel
theorem dX0_addChange_176 : decode cX0_addChange 176 = .ok (.getfield 50, 3) := by decide +kernel
theorem dX0_addChange_179 : decode cX0_addChange 179 = .ok (.iload_n 1, 1) := by decide +kernel
theorem dX0_addChange_180 : decode cX0_addChange 180 = .ok (.dup2, 1) := by decide +kernel
theorem dX0_addChange_181 : decode cX0_addChange 181 = .ok (.iaload, 1) := by decide +kernel
theorem dX0_addChange_182 : decode cX0_addChange 182 = .ok (.iconst 1, 1) := by decide +kernel
theorem dX0_addChange_183 : decode cX0_addChange 183 = .ok (.iload_n 2, 1) := by decide +kernel
theorem dX0_addChange_184 : decode cX0_addChange 184 = .ok (.ishl, 1) := by decide +kernel
theorem dX0_addChange_185 : decode cX0_addChange 185 = .ok (.ior, 1) := by decide +kernel
theorem dX0_addChange_186 : decode cX0_addChange 186 = .ok (.iastore, 1) := by decide +kernel
theorem dX0_addChange_187 : decode cX0_addChange 187 = .ok (.iinc 2 1, 3) := by decide +kernel
theorem dX0_addChange_190 : decode cX0_addChange 190 = .ok (.goto (-93), 3) := by decide +kernel
theorem dX0_addChange_193 : decode cX0_addChange 193 = .ok (.aload_n 0, 1) := by decide +kernel
theorem dX0_addChange_194 : decode cX0_addChange 194 = .ok (.getfield 25, 3) := by decide +kernel
theorem dX0_addChange_197 : decode cX0_addChange 197 = .ok (.iload_n 1, 1) := by decide +kernel
theorem dX0_addChange_198 : decode cX0_addChange 198 = .ok (.iaload, 1) := by decide +kernel
theorem dX0_addChange_199 : decode cX0_addChange 199 = .ok (.iconst 4, 1) := by decide +kernel
theorem dX0_addChange_200 : decode cX0_addChange 200 = .ok (.if_icmp .ne 15, 3) := by decide +kernel
theorem dX0_addChange_203 : decode cX0_addChange 203 = .ok (.aload_n 0, 1) := by decide +kernel
theorem dX0_addChange_204 : decode cX0_addChange 204 = .ok (.dup, 1) := by decide +kernel
theorem dX0_addChange_205 : decode cX0_addChange 205 = .ok (.getfield 59, 3) := by decide +kernel
theorem dX0_addChange_208 : decode cX0_addChange 208 = .ok (.iconst 1, 1) := by decide +kernel
theorem dX0_addChange_209 : decode cX0_addChange 209 = .ok (.iload_n 1, 1) := by decide +kernel
theorem dX0_addChange_210 : decode cX0_addChange 210 = .ok (.ishl, 1) := by decide +kernel
theorem dX0_addChange_211 : decode cX0_addChange 211 = .ok (.ior, 1) := by decide +kernel
theorem dX0_addChange_212 : decode cX0_addChange 212 = .ok (.putfield 59, 3) := by decide +kernel
theorem dX0_addChange_215 : decode cX0_addChange 215 = .ok (.aload_n 0, 1) := by decide +kernel
theorem dX0_addChange_216 : decode cX0_addChange 216 = .ok (.iload_n 1, 1) := by decide +kernel
theorem dX0_addChange_217 : decode cX0_addChange 217 = .ok (.iconst 1, 1) := by decide +kernel
theorem dX0_addChange_218 : decode cX0_addChange 218 = .ok (.iadd, 1) := by decide +kernel
theorem dX0_addChange_219 : decode cX0_addChange 219 = .ok (.putfield 15, 3) := by decide +kernel
theorem dX0_addChange_222 : decode cX0_addChange 222 = .ok (.return_, 1) := by decide +kernel
theorem dX0_doClash_0 : decode cX0_doClash 0 = .ok (.iload_n 0, 1) := by decide +kernel
theorem dX0_doClash_1 : decode cX0_doClash 1 = .ok (.iconst 2, 1) := by decide +kernel
theorem dX0_doClash_2 : decode cX0_doClash 2 = .ok (.if_icmp .eq 8, 3) := by decide +kernel
theorem dX0_doClash_5 : decode cX0_doClash 5 = .ok (.iload_n 0, 1) := by decide +kernel
theorem dX0_doClash_6 : decode cX0_doClash 6 = .ok (.iconst 3, 1) := by decide +kernel
theorem dX0_doClash_7 : decode cX0_doClash 7 = .ok (.if_icmp .ne 19, 3) := by decide +kernel
theorem dX0_doClash_10 : decode cX0_doClash 10 = .ok (.iload_n 1, 1) := by decide +kernel
theorem dX0_doClash_11 : decode cX0_doClash 11 = .ok (.iload_n 0, 1) := by decide +kernel
theorem dX0_doClash_12 : decode cX0_doClash 12 = .ok (.if_icmp .eq 8, 3) := by decide +kernel
theorem dX0_doClash_15 : decode cX0_doClash 15 = .ok (.iload_n 1, 1) := by decide +kernel
theorem dX0_doClash_16 : decode cX0_doClash 16 = .ok (.iconst 1, 1) := by decide +kernel
theorem dX0_doClash_17 : decode cX0_doClash 17 = .ok (.if_icmp .ne 7, 3) := by decide +kernel
theorem dX0_doClash_20 : decode cX0_doClash 20 = .ok (.iconst 1, 1) := by decide +kernel
theorem dX0_doClash_21 : decode cX0_doClash 21 = .ok (.goto 4, 3) := by decide +kernel
theorem dX0_doClash_24 : decode cX0_doClash 24 = .ok (.iconst 0, 1) := by decide +kernel
theorem dX0_doClash_25 : decode cX0_doClash 25 = .ok (.ireturn, 1) := by decide +kernel
theorem dX0_doClash_26 : decode cX0_doClash 26 = .ok (.iload_n 0, 1) := by decide +kernel
theorem dX0_doClash_27 : decode cX0_doClash 27 = .ok (.iconst 1, 1) := by decide +kernel
theorem dX0_doClash_28 : decode cX0_doClash 28 = .ok (.if_icmp .ne 17, 3) := by decide +kernel
theorem dX0_doClash_31 : decode cX0_doClash 31 = .ok (.iload_n 1, 1) := by decide +kernel
theorem dX0_doClash_32 : decode cX0_doClash 32 = .ok (.iconst 2, 1) := by decide +kernel
theorem dX0_doClash_33 : decode cX0_doClash 33 = .ok (.if_icmp .eq 8, 3) := by decide +kernel
theorem dX0_doClash_36 : decode cX0_doClash 36 = .ok (.iload_n 1, 1) := by decide +kernel
theorem dX0_doClash_37 : decode cX0_doClash 37 = .ok (.iconst 3, 1) := by decide +kernel
theorem dX0_doClash_38 : decode cX0_doClash 38 = .ok (.if_icmp .ne 7, 3) := by decide +kernel
theorem dX0_doClash_41 : decode cX0_doClash 41 = .ok (.iconst 1, 1) := by decide +kernel
theorem dX0_doClash_42 : decode cX0_doClash 42 = .ok (.goto 4, 3) := by decide +kernel
theorem dX0_doClash_45 : decode cX0_doClash 45 = .ok (.iconst 0, 1) := by decide +kernel
theorem dX0_doClash_46 : decode cX0_doClash 46 = .ok (.ireturn, 1) := by decide +kernel
theorem dX0_allOfKind_0 : decode cX0_allOfKind 0 = .ok (.iconst 0, 1) := by decide +kernel
theorem dX0_allOfKind_1 : decode cX0_allOfKind 1 = .ok (.istore_n 2, 1) := by decide +kernel
theorem dX0_allOfKind_2 : decode cX0_allOfKind 2 = .ok (.iconst 0, 1) := by decide +kernel
theorem dX0_allOfKind_3 : decode cX0_allOfKind 3 = .ok (.istore_n 3, 1) := by decide +kernel
theorem dX0_allOfKind_4 : decode cX0_allOfKind 4 = .ok (.iload_n 3, 1) := by decide +kernel
theorem dX0_allOfKind_5 : decode cX0_allOfKind 5 = .ok (.aload_n 0, 1) := by decide +kernel
theorem dX0_allOfKind_6 : decode cX0_allOfKind 6 = .ok (.getfield 15, 3) := by decide +kernel
theorem dX0_allOfKind_9 : decode cX0_allOfKind 9 = .ok (.if_icmp .ge 25, 3) := by decide +kernel
theorem dX0_allOfKind_12 : decode cX0_allOfKind 12 = .ok (.aload_n 0, 1) := by decide +kernel
theorem dX0_allOfKind_13 : decode cX0_allOfKind 13 = .ok (.getfield 25, 3) := by decide +kernel
theorem dX0_allOfKind_16 : decode cX0_allOfKind 16 = .ok (.iload_n 3, 1) := by decide +kernel
theorem dX0_allOfKind_17 : decode cX0_allOfKind 17 = .ok (.iaload, 1) := by decide +kernel
theorem dX0_allOfKind_18 : decode cX0_allOfKind 18 = .ok (.iload_n 1, 1) := by decide +kernel
theorem dX0_allOfKind_19 : decode cX0_allOfKind 19 = .ok (.if_icmp .ne 9, 3) := by decide +kernel
theorem dX0_allOfKind_22 : decode cX0_allOfKind 22 = .ok (.iload_n 2, 1) := by decide +kernel
theorem dX0_allOfKind_23 : decode cX0_allOfKind 23 = .ok (.iconst 1, 1) := by decide +kernel
theorem dX0_allOfKind_24 : decode cX0_allOfKind 24 = .ok (.iload_n 3, 1) := by decide +kernel
theorem dX0_allOfKind_25 : decode cX0_allOfKind 25 = .ok (.ishl, 1) := by decide +kernel
theorem dX0_allOfKind_26 : decode cX0_allOfKind 26 = .ok (.ior, 1) := by decide +kernel
theorem dX0_allOfKind_27 : decode cX0_allOfKind 27 = .ok (.istore_n 2, 1) := by decide +kernel
theorem dX0_allOfKind_28 : decode cX0_allOfKind 28 = .ok (.iinc 3 1, 3) := by decide +kernel
theorem dX0_allOfKind_31 : decode cX0_allOfKind 31 = .ok (.goto (-27), 3) := by decide +kernel
theorem dX0_allOfKind_34 : decode cX0_allOfKind 34 = .ok (.iload_n 2, 1) := by decide +kernel
theorem dX0_allOfKind_35 : decode cX0_allOfKind 35 = .ok (.ireturn, 1) := by decide +kernel
theorem dX0_countFoes_0 : decode cX0_countFoes 0 = .ok (.iconst 0, 1) := by decide +kernel
theorem dX0_countFoes_1 : decode cX0_countFoes 1 = .ok (.istore_n 1, 1) := by decide +kernel
theorem dX0_countFoes_2 : decode cX0_countFoes 2 = .ok (.iconst 0, 1) := by decide +kernel
theorem dX0_countFoes_3 : decode cX0_countFoes 3 = .ok (.istore_n 2, 1) := by decide +kernel
theorem dX0_countFoes_4 : decode cX0_countFoes 4 = .ok (.iload_n 2, 1) := by decide +kernel
theorem dX0_countFoes_5 : decode cX0_countFoes 5 = .ok (.aload_n 0, 1) := by decide +kernel
theorem dX0_countFoes_6 : decode cX0_countFoes 6 = .ok (.getfield 15, 3) := by decide +kernel
theorem dX0_countFoes_9 : decode cX0_countFoes 9 = .ok (.if_icmp .ge 21, 3) := by decide +kernel
theorem dX0_countFoes_12 : decode cX0_countFoes 12 = .ok (.iload_n 1, 1) := by decide +kernel
theorem dX0_countFoes_13 : decode cX0_countFoes 13 = .ok (.aload_n 0, 1) := by decide +kernel
theorem dX0_countFoes_14 : decode cX0_countFoes 14 = .ok (.getfield 50, 3) := by decide +kernel
theorem dX0_countFoes_17 : decode cX0_countFoes 17 = .ok (.iload_n 2, 1) := by decide +kernel
theorem dX0_countFoes_18 : decode cX0_countFoes 18 = .ok (.iaload, 1) := by decide +kernel
theorem dX0_countFoes_19 : decode cX0_countFoes 19 = .ok (.invokestatic 83, 3) := by decide +kernel
theorem dX0_countFoes_22 : decode cX0_countFoes 22 = .ok (.iadd, 1) := by decide +kernel
theorem dX0_countFoes_23 : decode cX0_countFoes 23 = .ok (.istore_n 1, 1) := by decide +kernel
theorem dX0_countFoes_24 : decode cX0_countFoes 24 = .ok (.iinc 2 1, 3) := by decide +kernel
theorem dX0_countFoes_27 : decode cX0_countFoes 27 = .ok (.goto (-23), 3) := by decide +kernel
theorem dX0_countFoes_30 : decode cX0_countFoes 30 = .ok (.iload_n 1, 1) := by decide +kernel
theorem dX0_countFoes_31 : decode cX0_countFoes 31 = .ok (.iconst 2, 1) := by decide +kernel
theorem dX0_countFoes_32 : decode cX0_countFoes 32 = .ok (.idiv, 1) := by decide +kernel
theorem dX0_countFoes_33 : decode cX0_countFoes 33 = .ok (.ireturn, 1) := by decide +kernel
theorem dX0_missingFrom_0 : decode cX0_missingFrom 0 = .ok (.iconst 0, 1) := by decide +kernel
theorem dX0_missingFrom_1 : decode cX0_missingFrom 1 = .ok (.istore_n 2, 1) := by decide +kernel
theorem dX0_missingFrom_2 : decode cX0_missingFrom 2 = .ok (.iconst 0, 1) := by decide +kernel
theorem dX0_missingFrom_3 : decode cX0_missingFrom 3 = .ok (.istore_n 3, 1) := by decide +kernel
theorem dX0_missingFrom_4 : decode cX0_missingFrom 4 = .ok (.iload_n 3, 1) := by decide +kernel
theorem dX0_missingFrom_5 : decode cX0_missingFrom 5 = .ok (.aload_n 0, 1) := by decide +kernel
theorem dX0_missingFrom_6 : decode cX0_missingFrom 6 = .ok (.getfield 15, 3) := by decide +kernel
theorem dX0_missingFrom_9 : decode cX0_missingFrom 9 = .ok (.if_icmp .ge 26, 3) := by decide +kernel
theorem dX0_missingFrom_12 : decode cX0_missingFrom 12 = .ok (.iload_n 1, 1) := by decide +kernel
theorem dX0_missingFrom_13 : decode cX0_missingFrom 13 = .ok (.iload_n 3, 1) := by decide +kernel
theorem dX0_missingFrom_14 : decode cX0_missingFrom 14 = .ok (.invokestatic 70, 3) := by decide +kernel
theorem dX0_missingFrom_17 : decode cX0_missingFrom 17 = .ok (.ifCond .eq 12, 3) := by decide +kernel
theorem dX0_missingFrom_20 : decode cX0_missingFrom 20 = .ok (.iload_n 2, 1) := by decide +kernel
theorem dX0_missingFrom_21 : decode cX0_missingFrom 21 = .ok (.aload_n 0, 1) := by decide +kernel
theorem dX0_missingFrom_22 : decode cX0_missingFrom 22 = .ok (.getfield 44, 3) := by decide +kernel
theorem dX0_missingFrom_25 : decode cX0_missingFrom 25 = .ok (.iload_n 3, 1) := by decide +kernel
theorem dX0_missingFrom_26 : decode cX0_missingFrom 26 = .ok (.iaload, 1) := by decide +kernel
theorem dX0_missingFrom_27 : decode cX0_missingFrom 27 = .ok (.ior, 1) := by decide +kernel
theorem dX0_missingFrom_28 : decode cX0_missingFrom 28 = .ok (.istore_n 2, 1) := by decide +kernel
theorem dX0_missingFrom_29 : decode cX0_missingFrom 29 = .ok (.iinc 3 1, 3) := by decide +kernel
theorem dX0_missingFrom_32 : decode cX0_missingFrom 32 = .ok (.goto (-28), 3) := by decide +kernel
theorem dX0_missingFrom_35 : decode cX0_missingFrom 35 = .ok (.iload_n 2, 1) := by decide +kernel
theorem dX0_missingFrom_36 : decode cX0_missingFrom 36 = .ok (.iload_n 1, 1) := by decide +kernel
theorem dX0_missingFrom_37 : decode cX0_missingFrom 37 = .ok (.iconst (-1), 1) := by decide +kernel
theorem dX0_missingFrom_38 : decode cX0_missingFrom 38 = .ok (.ixor, 1) := by decide +kernel
theorem dX0_missingFrom_39 : decode cX0_missingFrom 39 = .ok (.iand, 1) := by decide +kernel
theorem dX0_missingFrom_40 : decode cX0_missingFrom 40 = .ok (.ireturn, 1) := by decide +kernel
theorem dX0_isClosed_0 : decode cX0_isClosed 0 = .ok (.aload_n 0, 1) := by decide +kernel
theorem dX0_isClosed_1 : decode cX0_isClosed 1 = .ok (.iload_n 1, 1) := by decide +kernel
theorem dX0_isClosed_2 : decode cX0_isClosed 2 = .ok (.invokevirtual 89, 3) := by decide +kernel
theorem dX0_isClosed_5 : decode cX0_isClosed 5 = .ok (.ifCond .ne 7, 3) := by decide +kernel
theorem dX0_isClosed_8 : decode cX0_isClosed 8 = .ok (.iconst 1, 1) := by decide +kernel
theorem dX0_isClosed_9 : decode cX0_isClosed 9 = .ok (.goto 4, 3) := by decide +kernel
theorem dX0_isClosed_12 : decode cX0_isClosed 12 = .ok (.iconst 0, 1) := by decide +kernel
theorem dX0_isClosed_13 : decode cX0_isClosed 13 = .ok (.ireturn, 1) := by decide +kernel
theorem dX0_without_0 : decode cX0_without 0 = .ok (.aload_n 0, 1) := by decide +kernel
theorem dX0_without_1 : decode cX0_without 1 = .ok (.iload_n 2, 1) := by decide +kernel
theorem dX0_without_2 : decode cX0_without 2 = .ok (.invokevirtual 66, 3) := by decide +kernel
theorem dX0_without_5 : decode cX0_without 5 = .ok (.ifCond .eq 20, 3) := by decide +kernel
theorem dX0_without_8 : decode cX0_without 8 = .ok (.iload_n 1, 1) := by decide +kernel
theorem dX0_without_9 : decode cX0_without 9 = .ok (.aload_n 0, 1) := by decide +kernel
theorem dX0_without_10 : decode cX0_without 10 = .ok (.getfield 47, 3) := by decide +kernel
theorem dX0_without_13 : decode cX0_without 13 = .ok (.iload_n 2, 1) := by decide +kernel
theorem dX0_without_14 : decode cX0_without 14 = .ok (.iaload, 1) := by decide +kernel
theorem dX0_without_15 : decode cX0_without 15 = .ok (.iconst 1, 1) := by decide +kernel
theorem dX0_without_16 : decode cX0_without 16 = .ok (.iload_n 2, 1) := by decide +kernel
theorem dX0_without_17 : decode cX0_without 17 = .ok (.ishl, 1) := by decide +kernel
theorem dX0_without_18 : decode cX0_without 18 = .ok (.ior, 1) := by decide +kernel
theorem dX0_without_19 : decode cX0_without 19 = .ok (.iconst (-1), 1) := by decide +kernel
theorem dX0_without_20 : decode cX0_without 20 = .ok (.ixor, 1) := by decide +kernel
theorem dX0_without_21 : decode cX0_without 21 = .ok (.iand, 1) := by decide +kernel
theorem dX0_without_22 : decode cX0_without 22 = .ok (.goto 4, 3) := by decide +kernel
theorem dX0_without_25 : decode cX0_without 25 = .ok (.iload_n 1, 1) := by decide +kernel
theorem dX0_without_26 : decode cX0_without 26 = .ok (.ireturn, 1) := by decide +kernel
theorem dX0_including_0 : decode cX0_including 0 = .ok (.aload_n 0, 1) := by decide +kernel
theorem dX0_including_1 : decode cX0_including 1 = .ok (.iload_n 2, 1) := by decide +kernel
theorem dX0_including_2 : decode cX0_including 2 = .ok (.invokevirtual 66, 3) := by decide +kernel
theorem dX0_including_5 : decode cX0_including 5 = .ok (.ifCond .eq 18, 3) := by decide +kernel
theorem dX0_including_8 : decode cX0_including 8 = .ok (.iload_n 1, 1) := by decide +kernel
theorem dX0_including_9 : decode cX0_including 9 = .ok (.aload_n 0, 1) := by decide +kernel
theorem dX0_including_10 : decode cX0_including 10 = .ok (.getfield 44, 3) := by decide +kernel
theorem dX0_including_13 : decode cX0_including 13 = .ok (.iload_n 2, 1) := by decide +kernel
theorem dX0_including_14 : decode cX0_including 14 = .ok (.iaload, 1) := by decide +kernel
theorem dX0_including_15 : decode cX0_including 15 = .ok (.ior, 1) := by decide +kernel
theorem dX0_including_16 : decode cX0_including 16 = .ok (.iconst 1, 1) := by decide +kernel
theorem dX0_including_17 : decode cX0_including 17 = .ok (.iload_n 2, 1) := by decide +kernel
theorem dX0_including_18 : decode cX0_including 18 = .ok (.ishl, 1) := by decide +kernel
theorem dX0_including_19 : decode cX0_including 19 = .ok (.ior, 1) := by decide +kernel
theorem dX0_including_20 : decode cX0_including 20 = .ok (.goto 4, 3) := by decide +kernel
theorem dX0_including_23 : decode cX0_including 23 = .ok (.iload_n 1, 1) := by decide +kernel
theorem dX0_including_24 : decode cX0_including 24 = .ok (.ireturn, 1) := by decide +kernel
theorem dX0_heaviestChange_0 : decode cX0_heaviestChange 0 = .ok (.iconst 0, 1) := by decide +kernel
theorem dX0_heaviestChange_1 : decode cX0_heaviestChange 1 = .ok (.istore_n 1, 1) := by decide +kernel
theorem dX0_heaviestChange_2 : decode cX0_heaviestChange 2 = .ok (.iconst 1, 1) := by decide +kernel
theorem dX0_heaviestChange_3 : decode cX0_heaviestChange 3 = .ok (.istore_n 2, 1) := by decide +kernel
theorem dX0_heaviestChange_4 : decode cX0_heaviestChange 4 = .ok (.iload_n 2, 1) := by decide +kernel
theorem dX0_heaviestChange_5 : decode cX0_heaviestChange 5 = .ok (.aload_n 0, 1) := by decide +kernel
theorem dX0_heaviestChange_6 : decode cX0_heaviestChange 6 = .ok (.getfield 15, 3) := by decide +kernel
theorem dX0_heaviestChange_9 : decode cX0_heaviestChange 9 = .ok (.if_icmp .ge 32, 3) := by decide +kernel
theorem dX0_heaviestChange_12 : decode cX0_heaviestChange 12 = .ok (.aload_n 0, 1) := by decide +kernel
theorem dX0_heaviestChange_13 : decode cX0_heaviestChange 13 = .ok (.getfield 47, 3) := by decide +kernel
theorem dX0_heaviestChange_16 : decode cX0_heaviestChange 16 = .ok (.iload_n 2, 1) := by decide +kernel
theorem dX0_heaviestChange_17 : decode cX0_heaviestChange 17 = .ok (.iaload, 1) := by decide +kernel
theorem dX0_heaviestChange_18 : decode cX0_heaviestChange 18 = .ok (.invokestatic 83, 3) := by decide +kernel
theorem dX0_heaviestChange_21 : decode cX0_heaviestChange 21 = .ok (.aload_n 0, 1) := by decide +kernel
theorem dX0_heaviestChange_22 : decode cX0_heaviestChange 22 = .ok (.getfield 47, 3) := by decide +kernel
theorem dX0_heaviestChange_25 : decode cX0_heaviestChange 25 = .ok (.iload_n 1, 1) := by decide +kernel
theorem dX0_heaviestChange_26 : decode cX0_heaviestChange 26 = .ok (.iaload, 1) := by decide +kernel
theorem dX0_heaviestChange_27 : decode cX0_heaviestChange 27 = .ok (.invokestatic 83, 3) := by decide +kernel
theorem dX0_heaviestChange_30 : decode cX0_heaviestChange 30 = .ok (.if_icmp .le 5, 3) := by decide +kernel
theorem dX0_heaviestChange_33 : decode cX0_heaviestChange 33 = .ok (.iload_n 2, 1) := by decide +kernel
theorem dX0_heaviestChange_34 : decode cX0_heaviestChange 34 = .ok (.istore_n 1, 1) := by decide +kernel
theorem dX0_heaviestChange_35 : decode cX0_heaviestChange 35 = .ok (.iinc 2 1, 3) := by decide +kernel
theorem dX0_heaviestChange_38 : decode cX0_heaviestChange 38 = .ok (.goto (-34), 3) := by decide +kernel
theorem dX0_heaviestChange_41 : decode cX0_heaviestChange 41 = .ok (.iload_n 1, 1) := by decide +kernel
theorem dX0_heaviestChange_42 : decode cX0_heaviestChange 42 = .ok (.ireturn, 1) := by decide +kernel
theorem dX0_lonelyPuts_0 : decode cX0_lonelyPuts 0 = .ok (.iconst 0, 1) := by decide +kernel
theorem dX0_lonelyPuts_1 : decode cX0_lonelyPuts 1 = .ok (.istore_n 1, 1) := by decide +kernel
theorem dX0_lonelyPuts_2 : decode cX0_lonelyPuts 2 = .ok (.iconst 0, 1) := by decide +kernel
theorem dX0_lonelyPuts_3 : decode cX0_lonelyPuts 3 = .ok (.istore_n 2, 1) := by decide +kernel
theorem dX0_lonelyPuts_4 : decode cX0_lonelyPuts 4 = .ok (.iload_n 2, 1) := by decide +kernel
theorem dX0_lonelyPuts_5 : decode cX0_lonelyPuts 5 = .ok (.aload_n 0, 1) := by decide +kernel
theorem dX0_lonelyPuts_6 : decode cX0_lonelyPuts 6 = .ok (.getfield 15, 3) := by decide +kernel
theorem dX0_lonelyPuts_9 : decode cX0_lonelyPuts 9 = .ok (.if_icmp .ge 33, 3) := by decide +kernel
theorem dX0_lonelyPuts_12 : decode cX0_lonelyPuts 12 = .ok (.aload_n 0, 1) := by decide +kernel
theorem dX0_lonelyPuts_13 : decode cX0_lonelyPuts 13 = .ok (.getfield 25, 3) := by decide +kernel
theorem dX0_lonelyPuts_16 : decode cX0_lonelyPuts 16 = .ok (.iload_n 2, 1) := by decide +kernel
theorem dX0_lonelyPuts_17 : decode cX0_lonelyPuts 17 = .ok (.iaload, 1) := by decide +kernel
theorem dX0_lonelyPuts_18 : decode cX0_lonelyPuts 18 = .ok (.ifCond .ne 18, 3) := by decide +kernel
theorem dX0_lonelyPuts_21 : decode cX0_lonelyPuts 21 = .ok (.aload_n 0, 1) := by decide +kernel
theorem dX0_lonelyPuts_22 : decode cX0_lonelyPuts 22 = .ok (.getfield 47, 3) := by decide +kernel
theorem dX0_lonelyPuts_25 : decode cX0_lonelyPuts 25 = .ok (.iload_n 2, 1) := by decide +kernel
theorem dX0_lonelyPuts_26 : decode cX0_lonelyPuts 26 = .ok (.iaload, 1) := by decide +kernel
theorem dX0_lonelyPuts_27 : decode cX0_lonelyPuts 27 = .ok (.ifCond .ne 9, 3) := by decide +kernel
theorem dX0_lonelyPuts_30 : decode cX0_lonelyPuts 30 = .ok (.iload_n 1, 1) := by decide +kernel
theorem dX0_lonelyPuts_31 : decode cX0_lonelyPuts 31 = .ok (.iconst 1, 1) := by decide +kernel
theorem dX0_lonelyPuts_32 : decode cX0_lonelyPuts 32 = .ok (.iload_n 2, 1) := by decide +kernel
theorem dX0_lonelyPuts_33 : decode cX0_lonelyPuts 33 = .ok (.ishl, 1) := by decide +kernel
theorem dX0_lonelyPuts_34 : decode cX0_lonelyPuts 34 = .ok (.ior, 1) := by decide +kernel
theorem dX0_lonelyPuts_35 : decode cX0_lonelyPuts 35 = .ok (.istore_n 1, 1) := by decide +kernel
theorem dX0_lonelyPuts_36 : decode cX0_lonelyPuts 36 = .ok (.iinc 2 1, 3) := by decide +kernel
theorem dX0_lonelyPuts_39 : decode cX0_lonelyPuts 39 = .ok (.goto (-35), 3) := by decide +kernel
theorem dX0_lonelyPuts_42 : decode cX0_lonelyPuts 42 = .ok (.iload_n 1, 1) := by decide +kernel
theorem dX0_lonelyPuts_43 : decode cX0_lonelyPuts 43 = .ok (.ireturn, 1) := by decide +kernel
theorem dX0_quarrelersOf_0 : decode cX0_quarrelersOf 0 = .ok (.aload_n 0, 1) := by decide +kernel
theorem dX0_quarrelersOf_1 : decode cX0_quarrelersOf 1 = .ok (.iload_n 2, 1) := by decide +kernel
theorem dX0_quarrelersOf_2 : decode cX0_quarrelersOf 2 = .ok (.invokevirtual 66, 3) := by decide +kernel
theorem dX0_quarrelersOf_5 : decode cX0_quarrelersOf 5 = .ok (.ifCond .eq 11, 3) := by decide +kernel
theorem dX0_quarrelersOf_8 : decode cX0_quarrelersOf 8 = .ok (.iload_n 1, 1) := by decide +kernel
theorem dX0_quarrelersOf_9 : decode cX0_quarrelersOf 9 = .ok (.iload_n 2, 1) := by decide +kernel
theorem dX0_quarrelersOf_10 : decode cX0_quarrelersOf 10 = .ok (.invokestatic 70, 3) := by decide +kernel
theorem dX0_quarrelersOf_13 : decode cX0_quarrelersOf 13 = .ok (.ifCond .ne 5, 3) := by decide +kernel
theorem dX0_quarrelersOf_16 : decode cX0_quarrelersOf 16 = .ok (.iconst 0, 1) := by decide +kernel
theorem dX0_quarrelersOf_17 : decode cX0_quarrelersOf 17 = .ok (.ireturn, 1) := by decide +kernel
theorem dX0_quarrelersOf_18 : decode cX0_quarrelersOf 18 = .ok (.aload_n 0, 1) := by decide +kernel
theorem dX0_quarrelersOf_19 : decode cX0_quarrelersOf 19 = .ok (.getfield 50, 3) := by decide +kernel
theorem dX0_quarrelersOf_22 : decode cX0_quarrelersOf 22 = .ok (.iload_n 2, 1) := by decide +kernel
theorem dX0_quarrelersOf_23 : decode cX0_quarrelersOf 23 = .ok (.iaload, 1) := by decide +kernel
theorem dX0_quarrelersOf_24 : decode cX0_quarrelersOf 24 = .ok (.iload_n 1, 1) := by decide +kernel
theorem dX0_quarrelersOf_25 : decode cX0_quarrelersOf 25 = .ok (.iand, 1) := by decide +kernel
theorem dX0_quarrelersOf_26 : decode cX0_quarrelersOf 26 = .ok (.istore_n 3, 1) := by decide +kernel
theorem dX0_quarrelersOf_27 : decode cX0_quarrelersOf 27 = .ok (.iconst 0, 1) := by decide +kernel
theorem dX0_quarrelersOf_28 : decode cX0_quarrelersOf 28 = .ok (.istore 4, 2) := by decide +kernel
theorem dX0_quarrelersOf_30 : decode cX0_quarrelersOf 30 = .ok (.iload 4, 2) := by decide +kernel
theorem dX0_quarrelersOf_32 : decode cX0_quarrelersOf 32 = .ok (.aload_n 0, 1) := by decide +kernel
theorem dX0_quarrelersOf_33 : decode cX0_quarrelersOf 33 = .ok (.getfield 15, 3) := by decide +kernel
theorem dX0_quarrelersOf_36 : decode cX0_quarrelersOf 36 = .ok (.if_icmp .ge 80, 3) := by decide +kernel
theorem dX0_quarrelersOf_39 : decode cX0_quarrelersOf 39 = .ok (.iload_n 3, 1) := by decide +kernel
theorem dX0_quarrelersOf_40 : decode cX0_quarrelersOf 40 = .ok (.ifCond .eq 76, 3) := by decide +kernel
theorem dX0_quarrelersOf_43 : decode cX0_quarrelersOf 43 = .ok (.aload_n 0, 1) := by decide +kernel
theorem dX0_quarrelersOf_44 : decode cX0_quarrelersOf 44 = .ok (.getfield 59, 3) := by decide +kernel
theorem dX0_quarrelersOf_47 : decode cX0_quarrelersOf 47 = .ok (.iload_n 1, 1) := by decide +kernel
theorem dX0_quarrelersOf_48 : decode cX0_quarrelersOf 48 = .ok (.iand, 1) := by decide +kernel
theorem dX0_quarrelersOf_49 : decode cX0_quarrelersOf 49 = .ok (.iload 4, 2) := by decide +kernel
theorem dX0_quarrelersOf_51 : decode cX0_quarrelersOf 51 = .ok (.invokestatic 70, 3) := by decide +kernel
theorem dX0_quarrelersOf_54 : decode cX0_quarrelersOf 54 = .ok (.ifCond .eq 56, 3) := by decide +kernel
theorem dX0_quarrelersOf_57 : decode cX0_quarrelersOf 57 = .ok (.aload_n 0, 1) := by decide +kernel
theorem dX0_quarrelersOf_58 : decode cX0_quarrelersOf 58 = .ok (.getfield 53, 3) := by decide +kernel
theorem dX0_quarrelersOf_61 : decode cX0_quarrelersOf 61 = .ok (.iload 4, 2) := by decide +kernel
theorem dX0_quarrelersOf_63 : decode cX0_quarrelersOf 63 = .ok (.iaload, 1) := by decide +kernel
theorem dX0_quarrelersOf_64 : decode cX0_quarrelersOf 64 = .ok (.iload_n 2, 1) := by decide +kernel
theorem dX0_quarrelersOf_65 : decode cX0_quarrelersOf 65 = .ok (.if_icmp .ne 20, 3) := by decide +kernel
theorem dX0_quarrelersOf_68 : decode cX0_quarrelersOf 68 = .ok (.iload_n 3, 1) := by decide +kernel
theorem dX0_quarrelersOf_69 : decode cX0_quarrelersOf 69 = .ok (.iconst 1, 1) := by decide +kernel
theorem dX0_quarrelersOf_70 : decode cX0_quarrelersOf 70 = .ok (.aload_n 0, 1) := by decide +kernel
theorem dX0_quarrelersOf_71 : decode cX0_quarrelersOf 71 = .ok (.getfield 56, 3) := by decide +kernel
theorem dX0_quarrelersOf_74 : decode cX0_quarrelersOf 74 = .ok (.iload 4, 2) := by decide +kernel
theorem dX0_quarrelersOf_76 : decode cX0_quarrelersOf 76 = .ok (.iaload, 1) := by decide +kernel
theorem dX0_quarrelersOf_77 : decode cX0_quarrelersOf 77 = .ok (.ishl, 1) := by decide +kernel
theorem dX0_quarrelersOf_78 : decode cX0_quarrelersOf 78 = .ok (.iconst (-1), 1) := by decide +kernel
theorem dX0_quarrelersOf_79 : decode cX0_quarrelersOf 79 = .ok (.ixor, 1) := by decide +kernel
theorem dX0_quarrelersOf_80 : decode cX0_quarrelersOf 80 = .ok (.iand, 1) := by decide +kernel
theorem dX0_quarrelersOf_81 : decode cX0_quarrelersOf 81 = .ok (.istore_n 3, 1) := by decide +kernel
theorem dX0_quarrelersOf_82 : decode cX0_quarrelersOf 82 = .ok (.goto 28, 3) := by decide +kernel
theorem dX0_quarrelersOf_85 : decode cX0_quarrelersOf 85 = .ok (.aload_n 0, 1) := by decide +kernel
theorem dX0_quarrelersOf_86 : decode cX0_quarrelersOf 86 = .ok (.getfield 56, 3) := by decide +kernel
theorem dX0_quarrelersOf_89 : decode cX0_quarrelersOf 89 = .ok (.iload 4, 2) := by decide +kernel
theorem dX0_quarrelersOf_91 : decode cX0_quarrelersOf 91 = .ok (.iaload, 1) := by decide +kernel
theorem dX0_quarrelersOf_92 : decode cX0_quarrelersOf 92 = .ok (.iload_n 2, 1) := by decide +kernel
theorem dX0_quarrelersOf_93 : decode cX0_quarrelersOf 93 = .ok (.if_icmp .ne 17, 3) := by decide +kernel
theorem dX0_quarrelersOf_96 : decode cX0_quarrelersOf 96 = .ok (.iload_n 3, 1) := by decide +kernel
theorem dX0_quarrelersOf_97 : decode cX0_quarrelersOf 97 = .ok (.iconst 1, 1) := by decide +kernel
theorem dX0_quarrelersOf_98 : decode cX0_quarrelersOf 98 = .ok (.aload_n 0, 1) := by decide +kernel
theorem dX0_quarrelersOf_99 : decode cX0_quarrelersOf 99 = .ok (.getfield 53, 3) := by decide +kernel
theorem dX0_quarrelersOf_102 : decode cX0_quarrelersOf 102 = .ok (.iload 4, 2) := by decide +kernel
theorem dX0_quarrelersOf_104 : decode cX0_quarrelersOf 104 = .ok (.iaload, 1) := by decide +kernel
theorem dX0_quarrelersOf_105 : decode cX0_quarrelersOf 105 = .ok (.ishl, 1) := by decide +kernel
theorem dX0_quarrelersOf_106 : decode cX0_quarrelersOf 106 = .ok (.iconst (-1), 1) := by decide +kernel
theorem dX0_quarrelersOf_107 : decode cX0_quarrelersOf 107 = .ok (.ixor, 1) := by decide +kernel
theorem dX0_quarrelersOf_108 : decode cX0_quarrelersOf 108 = .ok (.iand, 1) := by decide +kernel
theorem dX0_quarrelersOf_109 : decode cX0_quarrelersOf 109 = .ok (.istore_n 3, 1) := by decide +kernel
theorem dX0_quarrelersOf_110 : decode cX0_quarrelersOf 110 = .ok (.iinc 4 1, 3) := by decide +kernel
theorem dX0_quarrelersOf_113 : decode cX0_quarrelersOf 113 = .ok (.goto (-83), 3) := by decide +kernel
theorem dX0_quarrelersOf_116 : decode cX0_quarrelersOf 116 = .ok (.iload_n 3, 1) := by decide +kernel
theorem dX0_quarrelersOf_117 : decode cX0_quarrelersOf 117 = .ok (.ireturn, 1) := by decide +kernel
theorem dX0_countQuarrels_0 : decode cX0_countQuarrels 0 = .ok (.iconst 0, 1) := by decide +kernel
theorem dX0_countQuarrels_1 : decode cX0_countQuarrels 1 = .ok (.istore_n 2, 1) := by decide +kernel
theorem dX0_countQuarrels_2 : decode cX0_countQuarrels 2 = .ok (.iconst 0, 1) := by decide +kernel
theorem dX0_countQuarrels_3 : decode cX0_countQuarrels 3 = .ok (.istore_n 3, 1) := by decide +kernel
theorem dX0_countQuarrels_4 : decode cX0_countQuarrels 4 = .ok (.iload_n 3, 1) := by decide +kernel
theorem dX0_countQuarrels_5 : decode cX0_countQuarrels 5 = .ok (.aload_n 0, 1) := by decide +kernel
theorem dX0_countQuarrels_6 : decode cX0_countQuarrels 6 = .ok (.getfield 15, 3) := by decide +kernel
theorem dX0_countQuarrels_9 : decode cX0_countQuarrels 9 = .ok (.if_icmp .ge 21, 3) := by decide +kernel
theorem dX0_countQuarrels_12 : decode cX0_countQuarrels 12 = .ok (.iload_n 2, 1) := by decide +kernel
theorem dX0_countQuarrels_13 : decode cX0_countQuarrels 13 = .ok (.aload_n 0, 1) := by decide +kernel
theorem dX0_countQuarrels_14 : decode cX0_countQuarrels 14 = .ok (.iload_n 1, 1) := by decide +kernel
theorem dX0_countQuarrels_15 : decode cX0_countQuarrels 15 = .ok (.iload_n 3, 1) := by decide +kernel
theorem dX0_countQuarrels_16 : decode cX0_countQuarrels 16 = .ok (.invokevirtual 92, 3) := by decide +kernel
theorem dX0_countQuarrels_19 : decode cX0_countQuarrels 19 = .ok (.invokestatic 83, 3) := by decide +kernel
theorem dX0_countQuarrels_22 : decode cX0_countQuarrels 22 = .ok (.iadd, 1) := by decide +kernel
theorem dX0_countQuarrels_23 : decode cX0_countQuarrels 23 = .ok (.istore_n 2, 1) := by decide +kernel
theorem dX0_countQuarrels_24 : decode cX0_countQuarrels 24 = .ok (.iinc 3 1, 3) := by decide +kernel
theorem dX0_countQuarrels_27 : decode cX0_countQuarrels 27 = .ok (.goto (-23), 3) := by decide +kernel
theorem dX0_countQuarrels_30 : decode cX0_countQuarrels 30 = .ok (.iload_n 2, 1) := by decide +kernel
theorem dX0_countQuarrels_31 : decode cX0_countQuarrels 31 = .ok (.iconst 2, 1) := by decide +kernel
theorem dX0_countQuarrels_32 : decode cX0_countQuarrels 32 = .ok (.idiv, 1) := by decide +kernel
theorem dX0_countQuarrels_33 : decode cX0_countQuarrels 33 = .ok (.ireturn, 1) := by decide +kernel
theorem dX0_mostQuarrelling_0 : decode cX0_mostQuarrelling 0 = .ok (.iconst (-1), 1) := by decide +kernel
theorem dX0_mostQuarrelling_1 : decode cX0_mostQuarrelling 1 = .ok (.istore_n 2, 1) := by decide +kernel
theorem dX0_mostQuarrelling_2 : decode cX0_mostQuarrelling 2 = .ok (.iconst 0, 1) := by decide +kernel
theorem dX0_mostQuarrelling_3 : decode cX0_mostQuarrelling 3 = .ok (.istore_n 3, 1) := by decide +kernel
theorem dX0_mostQuarrelling_4 : decode cX0_mostQuarrelling 4 = .ok (.iconst 0, 1) := by decide +kernel
theorem dX0_mostQuarrelling_5 : decode cX0_mostQuarrelling 5 = .ok (.istore 4, 2) := by decide +kernel
theorem dX0_mostQuarrelling_7 : decode cX0_mostQuarrelling 7 = .ok (.iload 4, 2) := by decide +kernel
theorem dX0_mostQuarrelling_9 : decode cX0_mostQuarrelling 9 = .ok (.aload_n 0, 1) := by decide +kernel
theorem dX0_mostQuarrelling_10 : decode cX0_mostQuarrelling 10 = .ok (.getfield 15, 3) := by decide +kernel
theorem dX0_mostQuarrelling_13 : decode cX0_mostQuarrelling 13 = .ok (.if_icmp .ge 33, 3) := by decide +kernel
theorem dX0_mostQuarrelling_16 : decode cX0_mostQuarrelling 16 = .ok (.aload_n 0, 1) := by decide +kernel
theorem dX0_mostQuarrelling_17 : decode cX0_mostQuarrelling 17 = .ok (.iload_n 1, 1) := by decide +kernel
theorem dX0_mostQuarrelling_18 : decode cX0_mostQuarrelling 18 = .ok (.iload 4, 2) := by decide +kernel
theorem dX0_mostQuarrelling_20 : decode cX0_mostQuarrelling 20 = .ok (.invokevirtual 92, 3) := by decide +kernel
theorem dX0_mostQuarrelling_23 : decode cX0_mostQuarrelling 23 = .ok (.invokestatic 83, 3) := by decide +kernel
theorem dX0_mostQuarrelling_26 : decode cX0_mostQuarrelling 26 = .ok (.istore 5, 2) := by decide +kernel
theorem dX0_mostQuarrelling_28 : decode cX0_mostQuarrelling 28 = .ok (.iload 5, 2) := by decide +kernel
theorem dX0_mostQuarrelling_30 : decode cX0_mostQuarrelling 30 = .ok (.iload_n 3, 1) := by decide +kernel
theorem dX0_mostQuarrelling_31 : decode cX0_mostQuarrelling 31 = .ok (.if_icmp .le 9, 3) := by decide +kernel
theorem dX0_mostQuarrelling_34 : decode cX0_mostQuarrelling 34 = .ok (.iload 5, 2) := by decide +kernel
theorem dX0_mostQuarrelling_36 : decode cX0_mostQuarrelling 36 = .ok (.istore_n 3, 1) := by decide +kernel
theorem dX0_mostQuarrelling_37 : decode cX0_mostQuarrelling 37 = .ok (.iload 4, 2) := by decide +kernel
theorem dX0_mostQuarrelling_39 : decode cX0_mostQuarrelling 39 = .ok (.istore_n 2, 1) := by decide +kernel
theorem dX0_mostQuarrelling_40 : decode cX0_mostQuarrelling 40 = .ok (.iinc 4 1, 3) := by decide +kernel
theorem dX0_mostQuarrelling_43 : decode cX0_mostQuarrelling 43 = .ok (.goto (-36), 3) := by decide +kernel
theorem dX0_mostQuarrelling_46 : decode cX0_mostQuarrelling 46 = .ok (.iload_n 2, 1) := by decide +kernel
theorem dX0_mostQuarrelling_47 : decode cX0_mostQuarrelling 47 = .ok (.ireturn, 1) := by decide +kernel
theorem dX0_quarrelAlike_0 : decode cX0_quarrelAlike 0 = .ok (.iconst 0, 1) := by decide +kernel
theorem dX0_quarrelAlike_1 : decode cX0_quarrelAlike 1 = .ok (.istore_n 3, 1) := by decide +kernel
theorem dX0_quarrelAlike_2 : decode cX0_quarrelAlike 2 = .ok (.iload_n 3, 1) := by decide +kernel
theorem dX0_quarrelAlike_3 : decode cX0_quarrelAlike 3 = .ok (.aload_n 0, 1) := by decide +kernel
theorem dX0_quarrelAlike_4 : decode cX0_quarrelAlike 4 = .ok (.getfield 15, 3) := by decide +kernel
theorem dX0_quarrelAlike_7 : decode cX0_quarrelAlike 7 = .ok (.if_icmp .ge 26, 3) := by decide +kernel
theorem dX0_quarrelAlike_10 : decode cX0_quarrelAlike 10 = .ok (.aload_n 0, 1) := by decide +kernel
theorem dX0_quarrelAlike_11 : decode cX0_quarrelAlike 11 = .ok (.iload_n 1, 1) := by decide +kernel
theorem dX0_quarrelAlike_12 : decode cX0_quarrelAlike 12 = .ok (.iload_n 3, 1) := by decide +kernel
theorem dX0_quarrelAlike_13 : decode cX0_quarrelAlike 13 = .ok (.invokevirtual 92, 3) := by decide +kernel
theorem dX0_quarrelAlike_16 : decode cX0_quarrelAlike 16 = .ok (.aload_n 0, 1) := by decide +kernel
theorem dX0_quarrelAlike_17 : decode cX0_quarrelAlike 17 = .ok (.iload_n 2, 1) := by decide +kernel
theorem dX0_quarrelAlike_18 : decode cX0_quarrelAlike 18 = .ok (.iload_n 3, 1) := by decide +kernel
theorem dX0_quarrelAlike_19 : decode cX0_quarrelAlike 19 = .ok (.invokevirtual 92, 3) := by decide +kernel
theorem dX0_quarrelAlike_22 : decode cX0_quarrelAlike 22 = .ok (.if_icmp .eq 5, 3) := by decide +kernel
theorem dX0_quarrelAlike_25 : decode cX0_quarrelAlike 25 = .ok (.iconst 0, 1) := by decide +kernel
theorem dX0_quarrelAlike_26 : decode cX0_quarrelAlike 26 = .ok (.ireturn, 1) := by decide +kernel
theorem dX0_quarrelAlike_27 : decode cX0_quarrelAlike 27 = .ok (.iinc 3 1, 3) := by decide +kernel
theorem dX0_quarrelAlike_30 : decode cX0_quarrelAlike 30 = .ok (.goto (-28), 3) := by decide +kernel
theorem dX0_quarrelAlike_33 : decode cX0_quarrelAlike 33 = .ok (.iconst 1, 1) := by decide +kernel
theorem dX0_quarrelAlike_34 : decode cX0_quarrelAlike 34 = .ok (.ireturn, 1) := by decide +kernel
theorem dX0_leftOutIn_0 : decode cX0_leftOutIn 0 = .ok (.iconst 0, 1) := by decide +kernel
theorem dX0_leftOutIn_1 : decode cX0_leftOutIn 1 = .ok (.istore_n 2, 1) := by decide +kernel
theorem dX0_leftOutIn_2 : decode cX0_leftOutIn 2 = .ok (.iconst 0, 1) := by decide +kernel
theorem dX0_leftOutIn_3 : decode cX0_leftOutIn 3 = .ok (.istore_n 3, 1) := by decide +kernel
theorem dX0_leftOutIn_4 : decode cX0_leftOutIn 4 = .ok (.iload_n 3, 1) := by decide +kernel
theorem dX0_leftOutIn_5 : decode cX0_leftOutIn 5 = .ok (.aload_n 0, 1) := by decide +kernel
theorem dX0_leftOutIn_6 : decode cX0_leftOutIn 6 = .ok (.getfield 15, 3) := by decide +kernel
theorem dX0_leftOutIn_9 : decode cX0_leftOutIn 9 = .ok (.if_icmp .ge 33, 3) := by decide +kernel
theorem dX0_leftOutIn_12 : decode cX0_leftOutIn 12 = .ok (.aload_n 0, 1) := by decide +kernel
theorem dX0_leftOutIn_13 : decode cX0_leftOutIn 13 = .ok (.getfield 59, 3) := by decide +kernel
theorem dX0_leftOutIn_16 : decode cX0_leftOutIn 16 = .ok (.iload_n 1, 1) := by decide +kernel
theorem dX0_leftOutIn_17 : decode cX0_leftOutIn 17 = .ok (.iand, 1) := by decide +kernel
theorem dX0_leftOutIn_18 : decode cX0_leftOutIn 18 = .ok (.iload_n 3, 1) := by decide +kernel
theorem dX0_leftOutIn_19 : decode cX0_leftOutIn 19 = .ok (.invokestatic 70, 3) := by decide +kernel
theorem dX0_leftOutIn_22 : decode cX0_leftOutIn 22 = .ok (.ifCond .eq 14, 3) := by decide +kernel
theorem dX0_leftOutIn_25 : decode cX0_leftOutIn 25 = .ok (.iload_n 2, 1) := by decide +kernel
theorem dX0_leftOutIn_26 : decode cX0_leftOutIn 26 = .ok (.iconst 1, 1) := by decide +kernel
theorem dX0_leftOutIn_27 : decode cX0_leftOutIn 27 = .ok (.aload_n 0, 1) := by decide +kernel
theorem dX0_leftOutIn_28 : decode cX0_leftOutIn 28 = .ok (.getfield 56, 3) := by decide +kernel
theorem dX0_leftOutIn_31 : decode cX0_leftOutIn 31 = .ok (.iload_n 3, 1) := by decide +kernel
theorem dX0_leftOutIn_32 : decode cX0_leftOutIn 32 = .ok (.iaload, 1) := by decide +kernel
theorem dX0_leftOutIn_33 : decode cX0_leftOutIn 33 = .ok (.ishl, 1) := by decide +kernel
theorem dX0_leftOutIn_34 : decode cX0_leftOutIn 34 = .ok (.ior, 1) := by decide +kernel
theorem dX0_leftOutIn_35 : decode cX0_leftOutIn 35 = .ok (.istore_n 2, 1) := by decide +kernel
theorem dX0_leftOutIn_36 : decode cX0_leftOutIn 36 = .ok (.iinc 3 1, 3) := by decide +kernel
theorem dX0_leftOutIn_39 : decode cX0_leftOutIn 39 = .ok (.goto (-35), 3) := by decide +kernel
theorem dX0_leftOutIn_42 : decode cX0_leftOutIn 42 = .ok (.iload_n 2, 1) := by decide +kernel
theorem dX0_leftOutIn_43 : decode cX0_leftOutIn 43 = .ok (.ireturn, 1) := by decide +kernel
theorem dX0_ofThing_0 : decode cX0_ofThing 0 = .ok (.iconst 0, 1) := by decide +kernel
theorem dX0_ofThing_1 : decode cX0_ofThing 1 = .ok (.istore 4, 2) := by decide +kernel
theorem dX0_ofThing_3 : decode cX0_ofThing 3 = .ok (.iconst 0, 1) := by decide +kernel
theorem dX0_ofThing_4 : decode cX0_ofThing 4 = .ok (.istore 5, 2) := by decide +kernel
theorem dX0_ofThing_6 : decode cX0_ofThing 6 = .ok (.iload 5, 2) := by decide +kernel
theorem dX0_ofThing_8 : decode cX0_ofThing 8 = .ok (.aload_n 0, 1) := by decide +kernel
theorem dX0_ofThing_9 : decode cX0_ofThing 9 = .ok (.getfield 15, 3) := by decide +kernel
theorem dX0_ofThing_12 : decode cX0_ofThing 12 = .ok (.if_icmp .ge 49, 3) := by decide +kernel
theorem dX0_ofThing_15 : decode cX0_ofThing 15 = .ok (.iload_n 1, 1) := by decide +kernel
theorem dX0_ofThing_16 : decode cX0_ofThing 16 = .ok (.iload 5, 2) := by decide +kernel
theorem dX0_ofThing_18 : decode cX0_ofThing 18 = .ok (.invokestatic 70, 3) := by decide +kernel
theorem dX0_ofThing_21 : decode cX0_ofThing 21 = .ok (.ifCond .eq 34, 3) := by decide +kernel
theorem dX0_ofThing_24 : decode cX0_ofThing 24 = .ok (.aload_n 0, 1) := by decide +kernel
theorem dX0_ofThing_25 : decode cX0_ofThing 25 = .ok (.getfield 25, 3) := by decide +kernel
theorem dX0_ofThing_28 : decode cX0_ofThing 28 = .ok (.iload 5, 2) := by decide +kernel
theorem dX0_ofThing_30 : decode cX0_ofThing 30 = .ok (.iaload, 1) := by decide +kernel
theorem dX0_ofThing_31 : decode cX0_ofThing 31 = .ok (.iload_n 3, 1) := by decide +kernel
theorem dX0_ofThing_32 : decode cX0_ofThing 32 = .ok (.if_icmp .ne 23, 3) := by decide +kernel
theorem dX0_ofThing_35 : decode cX0_ofThing 35 = .ok (.aload_n 0, 1) := by decide +kernel
theorem dX0_ofThing_36 : decode cX0_ofThing 36 = .ok (.getfield 35, 3) := by decide +kernel
theorem dX0_ofThing_39 : decode cX0_ofThing 39 = .ok (.iload 5, 2) := by decide +kernel
theorem dX0_ofThing_41 : decode cX0_ofThing 41 = .ok (.iaload, 1) := by decide +kernel
theorem dX0_ofThing_42 : decode cX0_ofThing 42 = .ok (.iload_n 2, 1) := by decide +kernel
theorem dX0_ofThing_43 : decode cX0_ofThing 43 = .ok (.if_icmp .ne 12, 3) := by decide +kernel
theorem dX0_ofThing_46 : decode cX0_ofThing 46 = .ok (.iload 4, 2) := by decide +kernel
theorem dX0_ofThing_48 : decode cX0_ofThing 48 = .ok (.iconst 1, 1) := by decide +kernel
theorem dX0_ofThing_49 : decode cX0_ofThing 49 = .ok (.iload 5, 2) := by decide +kernel
theorem dX0_ofThing_51 : decode cX0_ofThing 51 = .ok (.ishl, 1) := by decide +kernel
theorem dX0_ofThing_52 : decode cX0_ofThing 52 = .ok (.ior, 1) := by decide +kernel
theorem dX0_ofThing_53 : decode cX0_ofThing 53 = .ok (.istore 4, 2) := by decide +kernel
theorem dX0_ofThing_55 : decode cX0_ofThing 55 = .ok (.iinc 5 1, 3) := by decide +kernel
theorem dX0_ofThing_58 : decode cX0_ofThing 58 = .ok (.goto (-52), 3) := by decide +kernel
theorem dX0_ofThing_61 : decode cX0_ofThing 61 = .ok (.iload 4, 2) := by decide +kernel
theorem dX0_ofThing_63 : decode cX0_ofThing 63 = .ok (.ireturn, 1) := by decide +kernel
theorem dX0_isGone_0 : decode cX0_isGone 0 = .ok (.aload_n 0, 1) := by decide +kernel
theorem dX0_isGone_1 : decode cX0_isGone 1 = .ok (.iload_n 1, 1) := by decide +kernel
theorem dX0_isGone_2 : decode cX0_isGone 2 = .ok (.iload_n 2, 1) := by decide +kernel
theorem dX0_isGone_3 : decode cX0_isGone 3 = .ok (.iconst (-1), 1) := by decide +kernel
theorem dX0_isGone_4 : decode cX0_isGone 4 = .ok (.ixor, 1) := by decide +kernel
theorem dX0_isGone_5 : decode cX0_isGone 5 = .ok (.iand, 1) := by decide +kernel
theorem dX0_isGone_6 : decode cX0_isGone 6 = .ok (.iload_n 3, 1) := by decide +kernel
theorem dX0_isGone_7 : decode cX0_isGone 7 = .ok (.iconst 1, 1) := by decide +kernel
theorem dX0_isGone_8 : decode cX0_isGone 8 = .ok (.invokevirtual 95, 3) := by decide +kernel
theorem dX0_isGone_11 : decode cX0_isGone 11 = .ok (.istore 4, 2) := by decide +kernel
theorem dX0_isGone_13 : decode cX0_isGone 13 = .ok (.iconst 0, 1) := by decide +kernel
theorem dX0_isGone_14 : decode cX0_isGone 14 = .ok (.istore 5, 2) := by decide +kernel
theorem dX0_isGone_16 : decode cX0_isGone 16 = .ok (.iload 5, 2) := by decide +kernel
theorem dX0_isGone_18 : decode cX0_isGone 18 = .ok (.aload_n 0, 1) := by decide +kernel
theorem dX0_isGone_19 : decode cX0_isGone 19 = .ok (.getfield 15, 3) := by decide +kernel
theorem dX0_isGone_22 : decode cX0_isGone 22 = .ok (.if_icmp .ge 31, 3) := by decide +kernel
theorem dX0_isGone_25 : decode cX0_isGone 25 = .ok (.iload 4, 2) := by decide +kernel
theorem dX0_isGone_27 : decode cX0_isGone 27 = .ok (.iload 5, 2) := by decide +kernel
theorem dX0_isGone_29 : decode cX0_isGone 29 = .ok (.invokestatic 70, 3) := by decide +kernel
theorem dX0_isGone_32 : decode cX0_isGone 32 = .ok (.ifCond .eq 15, 3) := by decide +kernel
theorem dX0_isGone_35 : decode cX0_isGone 35 = .ok (.aload_n 0, 1) := by decide +kernel
theorem dX0_isGone_36 : decode cX0_isGone 36 = .ok (.iload_n 1, 1) := by decide +kernel
theorem dX0_isGone_37 : decode cX0_isGone 37 = .ok (.iload 5, 2) := by decide +kernel
theorem dX0_isGone_39 : decode cX0_isGone 39 = .ok (.invokevirtual 92, 3) := by decide +kernel
theorem dX0_isGone_42 : decode cX0_isGone 42 = .ok (.ifCond .ne 5, 3) := by decide +kernel
theorem dX0_isGone_45 : decode cX0_isGone 45 = .ok (.iconst 1, 1) := by decide +kernel
theorem dX0_isGone_46 : decode cX0_isGone 46 = .ok (.ireturn, 1) := by decide +kernel
theorem dX0_isGone_47 : decode cX0_isGone 47 = .ok (.iinc 5 1, 3) := by decide +kernel
theorem dX0_isGone_50 : decode cX0_isGone 50 = .ok (.goto (-34), 3) := by decide +kernel
theorem dX0_isGone_53 : decode cX0_isGone 53 = .ok (.iconst 0, 1) := by decide +kernel
theorem dX0_isGone_54 : decode cX0_isGone 54 = .ok (.ireturn, 1) := by decide +kernel
theorem dX0_toldNumber_0 : decode cX0_toldNumber 0 = .ok (.aload_n 0, 1) := by decide +kernel
theorem dX0_toldNumber_1 : decode cX0_toldNumber 1 = .ok (.iload_n 1, 1) := by decide +kernel
theorem dX0_toldNumber_2 : decode cX0_toldNumber 2 = .ok (.iload_n 2, 1) := by decide +kernel
theorem dX0_toldNumber_3 : decode cX0_toldNumber 3 = .ok (.iconst (-1), 1) := by decide +kernel
theorem dX0_toldNumber_4 : decode cX0_toldNumber 4 = .ok (.ixor, 1) := by decide +kernel
theorem dX0_toldNumber_5 : decode cX0_toldNumber 5 = .ok (.iand, 1) := by decide +kernel
theorem dX0_toldNumber_6 : decode cX0_toldNumber 6 = .ok (.iload_n 3, 1) := by decide +kernel
theorem dX0_toldNumber_7 : decode cX0_toldNumber 7 = .ok (.iload 4, 2) := by decide +kernel
theorem dX0_toldNumber_9 : decode cX0_toldNumber 9 = .ok (.invokevirtual 95, 3) := by decide +kernel
theorem dX0_toldNumber_12 : decode cX0_toldNumber 12 = .ok (.istore 5, 2) := by decide +kernel
theorem dX0_toldNumber_14 : decode cX0_toldNumber 14 = .ok (.iload 5, 2) := by decide +kernel
theorem dX0_toldNumber_16 : decode cX0_toldNumber 16 = .ok (.iconst 1, 1) := by decide +kernel
theorem dX0_toldNumber_17 : decode cX0_toldNumber 17 = .ok (.iload_n 3, 1) := by decide +kernel
theorem dX0_toldNumber_18 : decode cX0_toldNumber 18 = .ok (.ishl, 1) := by decide +kernel
theorem dX0_toldNumber_19 : decode cX0_toldNumber 19 = .ok (.ior, 1) := by decide +kernel
theorem dX0_toldNumber_20 : decode cX0_toldNumber 20 = .ok (.istore 6, 2) := by decide +kernel
theorem dX0_toldNumber_22 : decode cX0_toldNumber 22 = .ok (.iconst 0, 1) := by decide +kernel
theorem dX0_toldNumber_23 : decode cX0_toldNumber 23 = .ok (.istore 7, 2) := by decide +kernel
theorem dX0_toldNumber_25 : decode cX0_toldNumber 25 = .ok (.iload_n 3, 1) := by decide +kernel
theorem dX0_toldNumber_26 : decode cX0_toldNumber 26 = .ok (.istore 8, 2) := by decide +kernel
theorem dX0_toldNumber_28 : decode cX0_toldNumber 28 = .ok (.iconst 0, 1) := by decide +kernel
theorem dX0_toldNumber_29 : decode cX0_toldNumber 29 = .ok (.istore 9, 2) := by decide +kernel
theorem dX0_toldNumber_31 : decode cX0_toldNumber 31 = .ok (.iload 9, 2) := by decide +kernel
theorem dX0_toldNumber_33 : decode cX0_toldNumber 33 = .ok (.aload_n 0, 1) := by decide +kernel
theorem dX0_toldNumber_34 : decode cX0_toldNumber 34 = .ok (.getfield 15, 3) := by decide +kernel
theorem dX0_toldNumber_37 : decode cX0_toldNumber 37 = .ok (.if_icmp .ge 51, 3) := by decide +kernel
theorem dX0_toldNumber_40 : decode cX0_toldNumber 40 = .ok (.iload 5, 2) := by decide +kernel
theorem dX0_toldNumber_42 : decode cX0_toldNumber 42 = .ok (.iload 9, 2) := by decide +kernel
theorem dX0_toldNumber_44 : decode cX0_toldNumber 44 = .ok (.invokestatic 70, 3) := by decide +kernel
theorem dX0_toldNumber_47 : decode cX0_toldNumber 47 = .ok (.ifCond .eq 35, 3) := by decide +kernel
theorem dX0_toldNumber_50 : decode cX0_toldNumber 50 = .ok (.aload_n 0, 1) := by decide +kernel
theorem dX0_toldNumber_51 : decode cX0_toldNumber 51 = .ok (.getfield 47, 3) := by decide +kernel
theorem dX0_toldNumber_54 : decode cX0_toldNumber 54 = .ok (.iload 9, 2) := by decide +kernel
theorem dX0_toldNumber_56 : decode cX0_toldNumber 56 = .ok (.iaload, 1) := by decide +kernel
theorem dX0_toldNumber_57 : decode cX0_toldNumber 57 = .ok (.iload 5, 2) := by decide +kernel
theorem dX0_toldNumber_59 : decode cX0_toldNumber 59 = .ok (.iand, 1) := by decide +kernel
theorem dX0_toldNumber_60 : decode cX0_toldNumber 60 = .ok (.ifCond .ne 22, 3) := by decide +kernel
theorem dX0_toldNumber_63 : decode cX0_toldNumber 63 = .ok (.iinc 7 1, 3) := by decide +kernel
theorem dX0_toldNumber_66 : decode cX0_toldNumber 66 = .ok (.iload 9, 2) := by decide +kernel
theorem dX0_toldNumber_68 : decode cX0_toldNumber 68 = .ok (.istore 8, 2) := by decide +kernel
theorem dX0_toldNumber_70 : decode cX0_toldNumber 70 = .ok (.iload 6, 2) := by decide +kernel
theorem dX0_toldNumber_72 : decode cX0_toldNumber 72 = .ok (.aload_n 0, 1) := by decide +kernel
theorem dX0_toldNumber_73 : decode cX0_toldNumber 73 = .ok (.getfield 44, 3) := by decide +kernel
theorem dX0_toldNumber_76 : decode cX0_toldNumber 76 = .ok (.iload 9, 2) := by decide +kernel
theorem dX0_toldNumber_78 : decode cX0_toldNumber 78 = .ok (.iaload, 1) := by decide +kernel
theorem dX0_toldNumber_79 : decode cX0_toldNumber 79 = .ok (.iand, 1) := by decide +kernel
theorem dX0_toldNumber_80 : decode cX0_toldNumber 80 = .ok (.istore 6, 2) := by decide +kernel
theorem dX0_toldNumber_82 : decode cX0_toldNumber 82 = .ok (.iinc 9 1, 3) := by decide +kernel
theorem dX0_toldNumber_85 : decode cX0_toldNumber 85 = .ok (.goto (-54), 3) := by decide +kernel
theorem dX0_toldNumber_88 : decode cX0_toldNumber 88 = .ok (.iconst 0, 1) := by decide +kernel
theorem dX0_toldNumber_89 : decode cX0_toldNumber 89 = .ok (.istore 9, 2) := by decide +kernel
theorem dX0_toldNumber_91 : decode cX0_toldNumber 91 = .ok (.iload 9, 2) := by decide +kernel
theorem dX0_toldNumber_93 : decode cX0_toldNumber 93 = .ok (.aload_n 0, 1) := by decide +kernel
theorem dX0_toldNumber_94 : decode cX0_toldNumber 94 = .ok (.getfield 15, 3) := by decide +kernel
theorem dX0_toldNumber_97 : decode cX0_toldNumber 97 = .ok (.if_icmp .ge 29, 3) := by decide +kernel
theorem dX0_toldNumber_100 : decode cX0_toldNumber 100 = .ok (.iload 7, 2) := by decide +kernel
theorem dX0_toldNumber_102 : decode cX0_toldNumber 102 = .ok (.iconst 1, 1) := by decide +kernel
theorem dX0_toldNumber_103 : decode cX0_toldNumber 103 = .ok (.if_icmp .le 23, 3) := by decide +kernel
theorem dX0_toldNumber_106 : decode cX0_toldNumber 106 = .ok (.iload 6, 2) := by decide +kernel
theorem dX0_toldNumber_108 : decode cX0_toldNumber 108 = .ok (.iload 9, 2) := by decide +kernel
theorem dX0_toldNumber_110 : decode cX0_toldNumber 110 = .ok (.invokestatic 70, 3) := by decide +kernel
theorem dX0_toldNumber_113 : decode cX0_toldNumber 113 = .ok (.ifCond .eq 7, 3) := by decide +kernel
theorem dX0_toldNumber_116 : decode cX0_toldNumber 116 = .ok (.iload 9, 2) := by decide +kernel
theorem dX0_toldNumber_118 : decode cX0_toldNumber 118 = .ok (.istore 8, 2) := by decide +kernel
theorem dX0_toldNumber_120 : decode cX0_toldNumber 120 = .ok (.iinc 9 1, 3) := by decide +kernel
theorem dX0_toldNumber_123 : decode cX0_toldNumber 123 = .ok (.goto (-32), 3) := by decide +kernel
theorem dX0_toldNumber_126 : decode cX0_toldNumber 126 = .ok (.iload 4, 2) := by decide +kernel
theorem dX0_toldNumber_128 : decode cX0_toldNumber 128 = .ok (.iconst 2, 1) := by decide +kernel
theorem dX0_toldNumber_129 : decode cX0_toldNumber 129 = .ok (.if_icmp .ne 22, 3) := by decide +kernel
theorem dX0_toldNumber_132 : decode cX0_toldNumber 132 = .ok (.aload_n 0, 1) := by decide +kernel
theorem dX0_toldNumber_133 : decode cX0_toldNumber 133 = .ok (.iload 8, 2) := by decide +kernel
theorem dX0_toldNumber_135 : decode cX0_toldNumber 135 = .ok (.invokevirtual 99, 3) := by decide +kernel
theorem dX0_toldNumber_138 : decode cX0_toldNumber 138 = .ok (.ifCond .eq 13, 3) := by decide +kernel
theorem dX0_toldNumber_141 : decode cX0_toldNumber 141 = .ok (.aload_n 0, 1) := by decide +kernel
theorem dX0_toldNumber_142 : decode cX0_toldNumber 142 = .ok (.getfield 32, 3) := by decide +kernel
theorem dX0_toldNumber_145 : decode cX0_toldNumber 145 = .ok (.iload 8, 2) := by decide +kernel
theorem dX0_toldNumber_147 : decode cX0_toldNumber 147 = .ok (.iaload, 1) := by decide +kernel
theorem dX0_toldNumber_148 : decode cX0_toldNumber 148 = .ok (.goto 10, 3) := by decide +kernel
theorem dX0_toldNumber_151 : decode cX0_toldNumber 151 = .ok (.aload_n 0, 1) := by decide +kernel
theorem dX0_toldNumber_152 : decode cX0_toldNumber 152 = .ok (.getfield 29, 3) := by decide +kernel
theorem dX0_toldNumber_155 : decode cX0_toldNumber 155 = .ok (.iload 8, 2) := by decide +kernel
theorem dX0_toldNumber_157 : decode cX0_toldNumber 157 = .ok (.iaload, 1) := by decide +kernel
theorem dX0_toldNumber_158 : decode cX0_toldNumber 158 = .ok (.ireturn, 1) := by decide +kernel
theorem dX1_init_0 : decode cX1_init 0 = .ok (.aload_n 0, 1) := by decide +kernel
theorem dX1_init_1 : decode cX1_init 1 = .ok (.invokespecial 3, 3) := by decide +kernel
theorem dX1_init_4 : decode cX1_init 4 = .ok (.aload_n 0, 1) := by decide +kernel
theorem dX1_init_5 : decode cX1_init 5 = .ok (.new 9, 3) := by decide +kernel
theorem dX1_init_8 : decode cX1_init 8 = .ok (.dup, 1) := by decide +kernel
theorem dX1_init_9 : decode cX1_init 9 = .ok (.invokespecial 11, 3) := by decide +kernel
theorem dX1_init_12 : decode cX1_init 12 = .ok (.putfield 12, 3) := by decide +kernel
theorem dX1_init_15 : decode cX1_init 15 = .ok (.aload_n 0, 1) := by decide +kernel
theorem dX1_init_16 : decode cX1_init 16 = .ok (.aload_n 1, 1) := by decide +kernel
theorem dX1_init_17 : decode cX1_init 17 = .ok (.putfield 18, 3) := by decide +kernel
theorem dX1_init_20 : decode cX1_init 20 = .ok (.return_, 1) := by decide +kernel
theorem dX1_readBook_0 : decode cX1_readBook 0 = .ok (.aload_n 0, 1) := by decide +kernel
theorem dX1_readBook_1 : decode cX1_readBook 1 = .ok (.getfield 18, 3) := by decide +kernel
theorem dX1_readBook_4 : decode cX1_readBook 4 = .ok (.iload_n 1, 1) := by decide +kernel
theorem dX1_readBook_5 : decode cX1_readBook 5 = .ok (.invokevirtual 22, 3) := by decide +kernel
theorem dX1_readBook_8 : decode cX1_readBook 8 = .ok (.iconst 1, 1) := by decide +kernel
theorem dX1_readBook_9 : decode cX1_readBook 9 = .ok (.istore_n 2, 1) := by decide +kernel
theorem dX1_readBook_10 : decode cX1_readBook 10 = .ok (.iconst 0, 1) := by decide +kernel
theorem dX1_readBook_11 : decode cX1_readBook 11 = .ok (.istore_n 3, 1) := by decide +kernel
theorem dX1_readBook_12 : decode cX1_readBook 12 = .ok (.iload_n 3, 1) := by decide +kernel
theorem dX1_readBook_13 : decode cX1_readBook 13 = .ok (.sipush 900, 3) := by decide +kernel
theorem dX1_readBook_16 : decode cX1_readBook 16 = .ok (.if_icmp .ge 45, 3) := by decide +kernel
theorem dX1_readBook_19 : decode cX1_readBook 19 = .ok (.iload_n 2, 1) := by decide +kernel
theorem dX1_readBook_20 : decode cX1_readBook 20 = .ok (.ifCond .eq 41, 3) := by decide +kernel
theorem dX1_readBook_23 : decode cX1_readBook 23 = .ok (.aload_n 0, 1) := by decide +kernel
theorem dX1_readBook_24 : decode cX1_readBook 24 = .ok (.getfield 18, 3) := by decide +kernel
theorem dX1_readBook_27 : decode cX1_readBook 27 = .ok (.invokevirtual 28, 3) := by decide +kernel
theorem dX1_readBook_30 : decode cX1_readBook 30 = .ok (.ifCond .ne 31, 3) := by decide +kernel
theorem dX1_readBook_33 : decode cX1_readBook 33 = .ok (.aload_n 0, 1) := by decide +kernel
theorem dX1_readBook_34 : decode cX1_readBook 34 = .ok (.getfield 18, 3) := by decide +kernel
theorem dX1_readBook_37 : decode cX1_readBook 37 = .ok (.invokevirtual 32, 3) := by decide +kernel
theorem dX1_readBook_40 : decode cX1_readBook 40 = .ok (.ifCond .ne 10, 3) := by decide +kernel
theorem dX1_readBook_43 : decode cX1_readBook 43 = .ok (.aload_n 0, 1) := by decide +kernel
theorem dX1_readBook_44 : decode cX1_readBook 44 = .ok (.invokevirtual 36, 3) := by decide +kernel
theorem dX1_readBook_47 : decode cX1_readBook 47 = .ok (.goto 7, 3) := by decide +kernel
theorem dX1_readBook_50 : decode cX1_readBook 50 = .ok (.aload_n 0, 1) := by decide +kernel
theorem dX1_readBook_51 : decode cX1_readBook 51 = .ok (.invokevirtual 39, 3) := by decide +kernel
theorem dX1_readBook_54 : decode cX1_readBook 54 = .ok (.istore_n 2, 1) := by decide +kernel
theorem dX1_readBook_55 : decode cX1_readBook 55 = .ok (.iinc 3 1, 3) := by decide +kernel
theorem dX1_readBook_58 : decode cX1_readBook 58 = .ok (.goto (-46), 3) := by decide +kernel
theorem dX1_readBook_61 : decode cX1_readBook 61 = .ok (.aload_n 0, 1) := by decide +kernel
theorem dX1_readBook_62 : decode cX1_readBook 62 = .ok (.getfield 12, 3) := by decide +kernel
theorem dX1_readBook_65 : decode cX1_readBook 65 = .ok (.areturn, 1) := by decide +kernel
theorem dX1_readIsland_0 : decode cX1_readIsland 0 = .ok (.aload_n 0, 1) := by decide +kernel
theorem dX1_readIsland_1 : decode cX1_readIsland 1 = .ok (.getfield 12, 3) := by decide +kernel
theorem dX1_readIsland_4 : decode cX1_readIsland 4 = .ok (.getfield 42, 3) := by decide +kernel
theorem dX1_readIsland_7 : decode cX1_readIsland 7 = .ok (.iconst 4, 1) := by decide +kernel
theorem dX1_readIsland_8 : decode cX1_readIsland 8 = .ok (.if_icmp .lt 13, 3) := by decide +kernel
theorem dX1_readIsland_11 : decode cX1_readIsland 11 = .ok (.aload_n 0, 1) := by decide +kernel
theorem dX1_readIsland_12 : decode cX1_readIsland 12 = .ok (.getfield 18, 3) := by decide +kernel
theorem dX1_readIsland_15 : decode cX1_readIsland 15 = .ok (.bipush 6, 2) := by decide +kernel
theorem dX1_readIsland_17 : decode cX1_readIsland 17 = .ok (.invokevirtual 46, 3) := by decide +kernel
theorem dX1_readIsland_20 : decode cX1_readIsland 20 = .ok (.ireturn, 1) := by decide +kernel
theorem dX1_readIsland_21 : decode cX1_readIsland 21 = .ok (.aload_n 0, 1) := by decide +kernel
theorem dX1_readIsland_22 : decode cX1_readIsland 22 = .ok (.getfield 18, 3) := by decide +kernel
theorem dX1_readIsland_25 : decode cX1_readIsland 25 = .ok (.invokevirtual 50, 3) := by decide +kernel
theorem dX1_readIsland_28 : decode cX1_readIsland 28 = .ok (.aload_n 0, 1) := by decide +kernel
theorem dX1_readIsland_29 : decode cX1_readIsland 29 = .ok (.invokevirtual 53, 3) := by decide +kernel
theorem dX1_readIsland_32 : decode cX1_readIsland 32 = .ok (.ifCond .ne 5, 3) := by decide +kernel
theorem dX1_readIsland_35 : decode cX1_readIsland 35 = .ok (.iconst 0, 1) := by decide +kernel
theorem dX1_readIsland_36 : decode cX1_readIsland 36 = .ok (.ireturn, 1) := by decide +kernel
theorem dX1_readIsland_37 : decode cX1_readIsland 37 = .ok (.aload_n 0, 1) := by decide +kernel
theorem dX1_readIsland_38 : decode cX1_readIsland 38 = .ok (.getfield 12, 3) := by decide +kernel
theorem dX1_readIsland_41 : decode cX1_readIsland 41 = .ok (.aload_n 0, 1) := by decide +kernel
theorem dX1_readIsland_42 : decode cX1_readIsland 42 = .ok (.getfield 18, 3) := by decide +kernel
theorem dX1_readIsland_45 : decode cX1_readIsland 45 = .ok (.invokevirtual 56, 3) := by decide +kernel
theorem dX1_readIsland_48 : decode cX1_readIsland 48 = .ok (.invokevirtual 60, 3) := by decide +kernel
theorem dX1_readIsland_51 : decode cX1_readIsland 51 = .ok (.aload_n 0, 1) := by decide +kernel
theorem dX1_readIsland_52 : decode cX1_readIsland 52 = .ok (.getfield 18, 3) := by decide +kernel
theorem dX1_readIsland_55 : decode cX1_readIsland 55 = .ok (.invokevirtual 50, 3) := by decide +kernel
theorem dX1_readIsland_58 : decode cX1_readIsland 58 = .ok (.aload_n 0, 1) := by decide +kernel
theorem dX1_readIsland_59 : decode cX1_readIsland 59 = .ok (.getfield 18, 3) := by decide +kernel
theorem dX1_readIsland_62 : decode cX1_readIsland 62 = .ok (.bipush 31, 2) := by decide +kernel
theorem dX1_readIsland_64 : decode cX1_readIsland 64 = .ok (.invokevirtual 64, 3) := by decide +kernel
theorem dX1_readIsland_67 : decode cX1_readIsland 67 = .ok (.ireturn, 1) := by decide +kernel
theorem dX1_isNewName_0 : decode cX1_isNewName 0 = .ok (.aload_n 0, 1) := by decide +kernel
theorem dX1_isNewName_1 : decode cX1_isNewName 1 = .ok (.getfield 18, 3) := by decide +kernel
theorem dX1_isNewName_4 : decode cX1_isNewName 4 = .ok (.invokevirtual 67, 3) := by decide +kernel
theorem dX1_isNewName_7 : decode cX1_isNewName 7 = .ok (.ifCond .ne 11, 3) := by decide +kernel
theorem dX1_isNewName_10 : decode cX1_isNewName 10 = .ok (.aload_n 0, 1) := by decide +kernel
theorem dX1_isNewName_11 : decode cX1_isNewName 11 = .ok (.getfield 18, 3) := by decide +kernel
theorem dX1_isNewName_14 : decode cX1_isNewName 14 = .ok (.invokevirtual 70, 3) := by decide +kernel
theorem dX1_isNewName_17 : decode cX1_isNewName 17 = .ok (.ireturn, 1) := by decide +kernel
theorem dX1_isNewName_18 : decode cX1_isNewName 18 = .ok (.aload_n 0, 1) := by decide +kernel
theorem dX1_isNewName_19 : decode cX1_isNewName 19 = .ok (.getfield 18, 3) := by decide +kernel
theorem dX1_isNewName_22 : decode cX1_isNewName 22 = .ok (.invokevirtual 56, 3) := by decide +kernel
theorem dX1_isNewName_25 : decode cX1_isNewName 25 = .ok (.lstore_n 1, 1) := by decide +kernel
theorem dX1_isNewName_26 : decode cX1_isNewName 26 = .ok (.aload_n 0, 1) := by decide +kernel
theorem dX1_isNewName_27 : decode cX1_isNewName 27 = .ok (.getfield 12, 3) := by decide +kernel
theorem dX1_isNewName_30 : decode cX1_isNewName 30 = .ok (.lload_n 1, 1) := by decide +kernel
theorem dX1_isNewName_31 : decode cX1_isNewName 31 = .ok (.invokevirtual 73, 3) := by decide +kernel
theorem dX1_isNewName_34 : decode cX1_isNewName 34 = .ok (.iconst (-1), 1) := by decide +kernel
theorem dX1_isNewName_35 : decode cX1_isNewName 35 = .ok (.if_icmp .ne 15, 3) := by decide +kernel
theorem dX1_isNewName_38 : decode cX1_isNewName 38 = .ok (.aload_n 0, 1) := by decide +kernel
theorem dX1_isNewName_39 : decode cX1_isNewName 39 = .ok (.getfield 12, 3) := by decide +kernel
theorem dX1_isNewName_42 : decode cX1_isNewName 42 = .ok (.lload_n 1, 1) := by decide +kernel
theorem dX1_isNewName_43 : decode cX1_isNewName 43 = .ok (.invokevirtual 77, 3) := by decide +kernel
theorem dX1_isNewName_46 : decode cX1_isNewName 46 = .ok (.iconst (-1), 1) := by decide +kernel
theorem dX1_isNewName_47 : decode cX1_isNewName 47 = .ok (.if_icmp .eq 7, 3) := by decide +kernel
theorem dX1_isNewName_50 : decode cX1_isNewName 50 = .ok (.iconst 1, 1) := by decide +kernel
theorem dX1_isNewName_51 : decode cX1_isNewName 51 = .ok (.goto 4, 3) := by decide +kernel
theorem dX1_isNewName_54 : decode cX1_isNewName 54 = .ok (.iconst 0, 1) := by decide +kernel
theorem dX1_isNewName_55 : decode cX1_isNewName 55 = .ok (.istore_n 3, 1) := by decide +kernel
theorem dX1_isNewName_56 : decode cX1_isNewName 56 = .ok (.iload_n 3, 1) := by decide +kernel
theorem dX1_isNewName_57 : decode cX1_isNewName 57 = .ok (.ifCond .eq 14, 3) := by decide +kernel
theorem dX1_isNewName_60 : decode cX1_isNewName 60 = .ok (.aload_n 0, 1) := by decide +kernel
theorem dX1_isNewName_61 : decode cX1_isNewName 61 = .ok (.getfield 18, 3) := by decide +kernel
theorem dX1_isNewName_64 : decode cX1_isNewName 64 = .ok (.iconst 3, 1) := by decide +kernel
theorem dX1_isNewName_65 : decode cX1_isNewName 65 = .ok (.invokevirtual 46, 3) := by decide +kernel
theorem dX1_isNewName_68 : decode cX1_isNewName 68 = .ok (.ifCond .eq 7, 3) := by decide +kernel
theorem dX1_isNewName_71 : decode cX1_isNewName 71 = .ok (.iconst 1, 1) := by decide +kernel
theorem dX1_isNewName_72 : decode cX1_isNewName 72 = .ok (.goto 4, 3) := by decide +kernel
theorem dX1_isNewName_75 : decode cX1_isNewName 75 = .ok (.iconst 0, 1) := by decide +kernel
theorem dX1_isNewName_76 : decode cX1_isNewName 76 = .ok (.ireturn, 1) := by decide +kernel
theorem dX1_kindOf_0 : decode cX1_kindOf 0 = .ok (.iload_n 0, 1) := by decide +kernel
theorem dX1_kindOf_1 : decode cX1_kindOf 1 = .ok (.tableswitch 57 1 8 #[47, 57, 57, 49, 57, 51, 53, 55], 47) := by decide +kernel
theorem dX1_kindOf_48 : decode cX1_kindOf 48 = .ok (.iconst 0, 1) := by decide +kernel
theorem dX1_kindOf_49 : decode cX1_kindOf 49 = .ok (.ireturn, 1) := by decide +kernel
theorem dX1_kindOf_50 : decode cX1_kindOf 50 = .ok (.iconst 1, 1) := by decide +kernel
theorem dX1_kindOf_51 : decode cX1_kindOf 51 = .ok (.ireturn, 1) := by decide +kernel
theorem dX1_kindOf_52 : decode cX1_kindOf 52 = .ok (.iconst 2, 1) := by decide +kernel
theorem dX1_kindOf_53 : decode cX1_kindOf 53 = .ok (.ireturn, 1) := by decide +kernel
theorem dX1_kindOf_54 : decode cX1_kindOf 54 = .ok (.iconst 3, 1) := by decide +kernel
theorem dX1_kindOf_55 : decode cX1_kindOf 55 = .ok (.ireturn, 1) := by decide +kernel
theorem dX1_kindOf_56 : decode cX1_kindOf 56 = .ok (.iconst 4, 1) := by decide +kernel
theorem dX1_kindOf_57 : decode cX1_kindOf 57 = .ok (.ireturn, 1) := by decide +kernel
theorem dX1_kindOf_58 : decode cX1_kindOf 58 = .ok (.iconst (-1), 1) := by decide +kernel
theorem dX1_kindOf_59 : decode cX1_kindOf 59 = .ok (.ireturn, 1) := by decide +kernel
theorem dX1_readChange_0 : decode cX1_readChange 0 = .ok (.aload_n 0, 1) := by decide +kernel
theorem dX1_readChange_1 : decode cX1_readChange 1 = .ok (.getfield 18, 3) := by decide +kernel
theorem dX1_readChange_4 : decode cX1_readChange 4 = .ok (.invokevirtual 32, 3) := by decide +kernel
theorem dX1_readChange_7 : decode cX1_readChange 7 = .ok (.invokestatic 80, 3) := by decide +kernel
theorem dX1_readChange_10 : decode cX1_readChange 10 = .ok (.istore_n 1, 1) := by decide +kernel
theorem dX1_readChange_11 : decode cX1_readChange 11 = .ok (.iload_n 1, 1) := by decide +kernel
theorem dX1_readChange_12 : decode cX1_readChange 12 = .ok (.iconst (-1), 1) := by decide +kernel
theorem dX1_readChange_13 : decode cX1_readChange 13 = .ok (.if_icmp .ne 11, 3) := by decide +kernel
theorem dX1_readChange_16 : decode cX1_readChange 16 = .ok (.aload_n 0, 1) := by decide +kernel
theorem dX1_readChange_17 : decode cX1_readChange 17 = .ok (.getfield 18, 3) := by decide +kernel
theorem dX1_readChange_20 : decode cX1_readChange 20 = .ok (.invokevirtual 70, 3) := by decide +kernel
theorem dX1_readChange_23 : decode cX1_readChange 23 = .ok (.ireturn, 1) := by decide +kernel
theorem dX1_readChange_24 : decode cX1_readChange 24 = .ok (.aload_n 0, 1) := by decide +kernel
theorem dX1_readChange_25 : decode cX1_readChange 25 = .ok (.getfield 12, 3) := by decide +kernel
theorem dX1_readChange_28 : decode cX1_readChange 28 = .ok (.getfield 84, 3) := by decide +kernel
theorem dX1_readChange_31 : decode cX1_readChange 31 = .ok (.istore_n 2, 1) := by decide +kernel
theorem dX1_readChange_32 : decode cX1_readChange 32 = .ok (.iload_n 2, 1) := by decide +kernel
theorem dX1_readChange_33 : decode cX1_readChange 33 = .ok (.bipush 16, 2) := by decide +kernel
theorem dX1_readChange_35 : decode cX1_readChange 35 = .ok (.if_icmp .lt 13, 3) := by decide +kernel
theorem dX1_readChange_38 : decode cX1_readChange 38 = .ok (.aload_n 0, 1) := by decide +kernel
theorem dX1_readChange_39 : decode cX1_readChange 39 = .ok (.getfield 18, 3) := by decide +kernel
theorem dX1_readChange_42 : decode cX1_readChange 42 = .ok (.bipush 6, 2) := by decide +kernel
theorem dX1_readChange_44 : decode cX1_readChange 44 = .ok (.invokevirtual 46, 3) := by decide +kernel
theorem dX1_readChange_47 : decode cX1_readChange 47 = .ok (.ireturn, 1) := by decide +kernel
theorem dX1_readChange_48 : decode cX1_readChange 48 = .ok (.aload_n 0, 1) := by decide +kernel
theorem dX1_readChange_49 : decode cX1_readChange 49 = .ok (.getfield 18, 3) := by decide +kernel
theorem dX1_readChange_52 : decode cX1_readChange 52 = .ok (.invokevirtual 50, 3) := by decide +kernel
theorem dX1_readChange_55 : decode cX1_readChange 55 = .ok (.aload_n 0, 1) := by decide +kernel
theorem dX1_readChange_56 : decode cX1_readChange 56 = .ok (.invokevirtual 53, 3) := by decide +kernel
theorem dX1_readChange_59 : decode cX1_readChange 59 = .ok (.ifCond .ne 5, 3) := by decide +kernel
theorem dX1_readChange_62 : decode cX1_readChange 62 = .ok (.iconst 0, 1) := by decide +kernel
theorem dX1_readChange_63 : decode cX1_readChange 63 = .ok (.ireturn, 1) := by decide +kernel
theorem dX1_readChange_64 : decode cX1_readChange 64 = .ok (.aload_n 0, 1) := by decide +kernel
theorem dX1_readChange_65 : decode cX1_readChange 65 = .ok (.getfield 12, 3) := by decide +kernel
theorem dX1_readChange_68 : decode cX1_readChange 68 = .ok (.getfield 87, 3) := by decide +kernel
theorem dX1_readChange_71 : decode cX1_readChange 71 = .ok (.iload_n 2, 1) := by decide +kernel
theorem dX1_readChange_72 : decode cX1_readChange 72 = .ok (.aload_n 0, 1) := by decide +kernel
theorem dX1_readChange_73 : decode cX1_readChange 73 = .ok (.getfield 18, 3) := by decide +kernel
theorem dX1_readChange_76 : decode cX1_readChange 76 = .ok (.invokevirtual 56, 3) := by decide +kernel
theorem dX1_readChange_79 : decode cX1_readChange 79 = .ok (.lastore, 1) := by decide +kernel
theorem dX1_readChange_80 : decode cX1_readChange 80 = .ok (.aload_n 0, 1) := by decide +kernel
theorem dX1_readChange_81 : decode cX1_readChange 81 = .ok (.getfield 12, 3) := by decide +kernel
theorem dX1_readChange_84 : decode cX1_readChange 84 = .ok (.getfield 91, 3) := by decide +kernel
theorem dX1_readChange_87 : decode cX1_readChange 87 = .ok (.iload_n 2, 1) := by decide +kernel
theorem dX1_readChange_88 : decode cX1_readChange 88 = .ok (.iload_n 1, 1) := by decide +kernel
theorem dX1_readChange_89 : decode cX1_readChange 89 = .ok (.iastore, 1) := by decide +kernel
theorem dX1_readChange_90 : decode cX1_readChange 90 = .ok (.aload_n 0, 1) := by decide +kernel
theorem dX1_readChange_91 : decode cX1_readChange 91 = .ok (.getfield 12, 3) := by decide +kernel
theorem dX1_readChange_94 : decode cX1_readChange 94 = .ok (.getfield 95, 3) := by decide +kernel
theorem dX1_readChange_97 : decode cX1_readChange 97 = .ok (.iload_n 2, 1) := by decide +kernel
theorem dX1_readChange_98 : decode cX1_readChange 98 = .ok (.iconst (-1), 1) := by decide +kernel
theorem dX1_readChange_99 : decode cX1_readChange 99 = .ok (.iastore, 1) := by decide +kernel
theorem dX1_readChange_100 : decode cX1_readChange 100 = .ok (.aload_n 0, 1) := by decide +kernel
theorem dX1_readChange_101 : decode cX1_readChange 101 = .ok (.getfield 18, 3) := by decide +kernel
theorem dX1_readChange_104 : decode cX1_readChange 104 = .ok (.invokevirtual 50, 3) := by decide +kernel
theorem dX1_readChange_107 : decode cX1_readChange 107 = .ok (.aload_n 0, 1) := by decide +kernel
theorem dX1_readChange_108 : decode cX1_readChange 108 = .ok (.iload_n 2, 1) := by decide +kernel
theorem dX1_readChange_109 : decode cX1_readChange 109 = .ok (.iload_n 1, 1) := by decide +kernel
theorem dX1_readChange_110 : decode cX1_readChange 110 = .ok (.invokevirtual 98, 3) := by decide +kernel
theorem dX1_readChange_113 : decode cX1_readChange 113 = .ok (.ifCond .eq 23, 3) := by decide +kernel
theorem dX1_readChange_116 : decode cX1_readChange 116 = .ok (.aload_n 0, 1) := by decide +kernel
theorem dX1_readChange_117 : decode cX1_readChange 117 = .ok (.iload_n 2, 1) := by decide +kernel
theorem dX1_readChange_118 : decode cX1_readChange 118 = .ok (.invokevirtual 102, 3) := by decide +kernel
theorem dX1_readChange_121 : decode cX1_readChange 121 = .ok (.ifCond .eq 15, 3) := by decide +kernel
theorem dX1_readChange_124 : decode cX1_readChange 124 = .ok (.aload_n 0, 1) := by decide +kernel
theorem dX1_readChange_125 : decode cX1_readChange 125 = .ok (.getfield 18, 3) := by decide +kernel
theorem dX1_readChange_128 : decode cX1_readChange 128 = .ok (.bipush 31, 2) := by decide +kernel
theorem dX1_readChange_130 : decode cX1_readChange 130 = .ok (.invokevirtual 64, 3) := by decide +kernel
theorem dX1_readChange_133 : decode cX1_readChange 133 = .ok (.ifCond .ne 5, 3) := by decide +kernel
theorem dX1_readChange_136 : decode cX1_readChange 136 = .ok (.iconst 0, 1) := by decide +kernel
theorem dX1_readChange_137 : decode cX1_readChange 137 = .ok (.ireturn, 1) := by decide +kernel
theorem dX1_readChange_138 : decode cX1_readChange 138 = .ok (.aload_n 0, 1) := by decide +kernel
theorem dX1_readChange_139 : decode cX1_readChange 139 = .ok (.getfield 12, 3) := by decide +kernel
theorem dX1_readChange_142 : decode cX1_readChange 142 = .ok (.invokevirtual 105, 3) := by decide +kernel
theorem dX1_readChange_145 : decode cX1_readChange 145 = .ok (.iconst 1, 1) := by decide +kernel
theorem dX1_readChange_146 : decode cX1_readChange 146 = .ok (.ireturn, 1) := by decide +kernel
theorem dX1_readBody_0 : decode cX1_readBody 0 = .ok (.iload_n 2, 1) := by decide +kernel
theorem dX1_readBody_1 : decode cX1_readBody 1 = .ok (.tableswitch 116 0 3 #[31, 64, 70, 93], 31) := by decide +kernel
theorem dX1_readBody_32 : decode cX1_readBody 32 = .ok (.aload_n 0, 1) := by decide +kernel
theorem dX1_readBody_33 : decode cX1_readBody 33 = .ok (.getfield 12, 3) := by decide +kernel
theorem dX1_readBody_36 : decode cX1_readBody 36 = .ok (.getfield 108, 3) := by decide +kernel
theorem dX1_readBody_39 : decode cX1_readBody 39 = .ok (.iload_n 1, 1) := by decide +kernel
theorem dX1_readBody_40 : decode cX1_readBody 40 = .ok (.iload_n 1, 1) := by decide +kernel
theorem dX1_readBody_41 : decode cX1_readBody 41 = .ok (.iastore, 1) := by decide +kernel
theorem dX1_readBody_42 : decode cX1_readBody 42 = .ok (.aload_n 0, 1) := by decide +kernel
theorem dX1_readBody_43 : decode cX1_readBody 43 = .ok (.iload_n 1, 1) := by decide +kernel
theorem dX1_readBody_44 : decode cX1_readBody 44 = .ok (.iconst 2, 1) := by decide +kernel
theorem dX1_readBody_45 : decode cX1_readBody 45 = .ok (.invokevirtual 111, 3) := by decide +kernel
theorem dX1_readBody_48 : decode cX1_readBody 48 = .ok (.ifCond .eq 15, 3) := by decide +kernel
theorem dX1_readBody_51 : decode cX1_readBody 51 = .ok (.aload_n 0, 1) := by decide +kernel
theorem dX1_readBody_52 : decode cX1_readBody 52 = .ok (.iload_n 1, 1) := by decide +kernel
theorem dX1_readBody_53 : decode cX1_readBody 53 = .ok (.invokevirtual 114, 3) := by decide +kernel
theorem dX1_readBody_56 : decode cX1_readBody 56 = .ok (.ifCond .eq 7, 3) := by decide +kernel
theorem dX1_readBody_59 : decode cX1_readBody 59 = .ok (.iconst 1, 1) := by decide +kernel
theorem dX1_readBody_60 : decode cX1_readBody 60 = .ok (.goto 4, 3) := by decide +kernel
theorem dX1_readBody_63 : decode cX1_readBody 63 = .ok (.iconst 0, 1) := by decide +kernel
theorem dX1_readBody_64 : decode cX1_readBody 64 = .ok (.ireturn, 1) := by decide +kernel
theorem dX1_readBody_65 : decode cX1_readBody 65 = .ok (.aload_n 0, 1) := by decide +kernel
theorem dX1_readBody_66 : decode cX1_readBody 66 = .ok (.iload_n 1, 1) := by decide +kernel
theorem dX1_readBody_67 : decode cX1_readBody 67 = .ok (.invokevirtual 117, 3) := by decide +kernel
theorem dX1_readBody_70 : decode cX1_readBody 70 = .ok (.ireturn, 1) := by decide +kernel
theorem dX1_readBody_71 : decode cX1_readBody 71 = .ok (.aload_n 0, 1) := by decide +kernel
theorem dX1_readBody_72 : decode cX1_readBody 72 = .ok (.iload_n 1, 1) := by decide +kernel
theorem dX1_readBody_73 : decode cX1_readBody 73 = .ok (.invokevirtual 117, 3) := by decide +kernel
theorem dX1_readBody_76 : decode cX1_readBody 76 = .ok (.ifCond .eq 16, 3) := by decide +kernel
theorem dX1_readBody_79 : decode cX1_readBody 79 = .ok (.aload_n 0, 1) := by decide +kernel
theorem dX1_readBody_80 : decode cX1_readBody 80 = .ok (.iload_n 1, 1) := by decide +kernel
theorem dX1_readBody_81 : decode cX1_readBody 81 = .ok (.iconst 3, 1) := by decide +kernel
theorem dX1_readBody_82 : decode cX1_readBody 82 = .ok (.invokevirtual 111, 3) := by decide +kernel
theorem dX1_readBody_85 : decode cX1_readBody 85 = .ok (.ifCond .eq 7, 3) := by decide +kernel
theorem dX1_readBody_88 : decode cX1_readBody 88 = .ok (.iconst 1, 1) := by decide +kernel
theorem dX1_readBody_89 : decode cX1_readBody 89 = .ok (.goto 4, 3) := by decide +kernel
theorem dX1_readBody_92 : decode cX1_readBody 92 = .ok (.iconst 0, 1) := by decide +kernel
theorem dX1_readBody_93 : decode cX1_readBody 93 = .ok (.ireturn, 1) := by decide +kernel
theorem dX1_readBody_94 : decode cX1_readBody 94 = .ok (.aload_n 0, 1) := by decide +kernel
theorem dX1_readBody_95 : decode cX1_readBody 95 = .ok (.iload_n 1, 1) := by decide +kernel
theorem dX1_readBody_96 : decode cX1_readBody 96 = .ok (.invokevirtual 117, 3) := by decide +kernel
theorem dX1_readBody_99 : decode cX1_readBody 99 = .ok (.ifCond .eq 16, 3) := by decide +kernel
theorem dX1_readBody_102 : decode cX1_readBody 102 = .ok (.aload_n 0, 1) := by decide +kernel
theorem dX1_readBody_103 : decode cX1_readBody 103 = .ok (.iload_n 1, 1) := by decide +kernel
theorem dX1_readBody_104 : decode cX1_readBody 104 = .ok (.iconst 2, 1) := by decide +kernel
theorem dX1_readBody_105 : decode cX1_readBody 105 = .ok (.invokevirtual 111, 3) := by decide +kernel
theorem dX1_readBody_108 : decode cX1_readBody 108 = .ok (.ifCond .eq 7, 3) := by decide +kernel
theorem dX1_readBody_111 : decode cX1_readBody 111 = .ok (.iconst 1, 1) := by decide +kernel
theorem dX1_readBody_112 : decode cX1_readBody 112 = .ok (.goto 4, 3) := by decide +kernel
theorem dX1_readBody_115 : decode cX1_readBody 115 = .ok (.iconst 0, 1) := by decide +kernel
theorem dX1_readBody_116 : decode cX1_readBody 116 = .ok (.ireturn, 1) := by decide +kernel
theorem dX1_readBody_117 : decode cX1_readBody 117 = .ok (.aload_n 0, 1) := by decide +kernel
theorem dX1_readBody_118 : decode cX1_readBody 118 = .ok (.iload_n 1, 1) := by decide +kernel
theorem dX1_readBody_119 : decode cX1_readBody 119 = .ok (.invokevirtual 120, 3) := by decide +kernel
theorem dX1_readBody_122 : decode cX1_readBody 122 = .ok (.ireturn, 1) := by decide +kernel
theorem dX1_readNumber_0 : decode cX1_readNumber 0 = .ok (.aload_n 0, 1) := by decide +kernel
theorem dX1_readNumber_1 : decode cX1_readNumber 1 = .ok (.getfield 18, 3) := by decide +kernel
theorem dX1_readNumber_4 : decode cX1_readNumber 4 = .ok (.iload_n 2, 1) := by decide +kernel
theorem dX1_readNumber_5 : decode cX1_readNumber 5 = .ok (.invokevirtual 64, 3) := by decide +kernel
theorem dX1_readNumber_8 : decode cX1_readNumber 8 = .ok (.ifCond .ne 5, 3) := by decide +kernel
theorem dX1_readNumber_11 : decode cX1_readNumber 11 = .ok (.iconst 0, 1) := by decide +kernel
theorem dX1_readNumber_12 : decode cX1_readNumber 12 = .ok (.ireturn, 1) := by decide +kernel
theorem dX1_readNumber_13 : decode cX1_readNumber 13 = .ok (.aload_n 0, 1) := by decide +kernel
theorem dX1_readNumber_14 : decode cX1_readNumber 14 = .ok (.getfield 12, 3) := by decide +kernel
theorem dX1_readNumber_17 : decode cX1_readNumber 17 = .ok (.getfield 95, 3) := by decide +kernel
theorem dX1_readNumber_20 : decode cX1_readNumber 20 = .ok (.iload_n 1, 1) := by decide +kernel
theorem dX1_readNumber_21 : decode cX1_readNumber 21 = .ok (.aload_n 0, 1) := by decide +kernel
theorem dX1_readNumber_22 : decode cX1_readNumber 22 = .ok (.getfield 18, 3) := by decide +kernel
theorem dX1_readNumber_25 : decode cX1_readNumber 25 = .ok (.iconst 0, 1) := by decide +kernel
theorem dX1_readNumber_26 : decode cX1_readNumber 26 = .ok (.sipush 9999, 3) := by decide +kernel
theorem dX1_readNumber_29 : decode cX1_readNumber 29 = .ok (.invokevirtual 123, 3) := by decide +kernel
theorem dX1_readNumber_32 : decode cX1_readNumber 32 = .ok (.iastore, 1) := by decide +kernel
theorem dX1_readNumber_33 : decode cX1_readNumber 33 = .ok (.aload_n 0, 1) := by decide +kernel
theorem dX1_readNumber_34 : decode cX1_readNumber 34 = .ok (.getfield 12, 3) := by decide +kernel
theorem dX1_readNumber_37 : decode cX1_readNumber 37 = .ok (.getfield 95, 3) := by decide +kernel
theorem dX1_readNumber_40 : decode cX1_readNumber 40 = .ok (.iload_n 1, 1) := by decide +kernel
theorem dX1_readNumber_41 : decode cX1_readNumber 41 = .ok (.iaload, 1) := by decide +kernel
theorem dX1_readNumber_42 : decode cX1_readNumber 42 = .ok (.iconst (-1), 1) := by decide +kernel
theorem dX1_readNumber_43 : decode cX1_readNumber 43 = .ok (.if_icmp .eq 7, 3) := by decide +kernel
theorem dX1_readNumber_46 : decode cX1_readNumber 46 = .ok (.iconst 1, 1) := by decide +kernel
theorem dX1_readNumber_47 : decode cX1_readNumber 47 = .ok (.goto 4, 3) := by decide +kernel
theorem dX1_readNumber_50 : decode cX1_readNumber 50 = .ok (.iconst 0, 1) := by decide +kernel
theorem dX1_readNumber_51 : decode cX1_readNumber 51 = .ok (.ireturn, 1) := by decide +kernel
theorem dX1_readSaying_0 : decode cX1_readSaying 0 = .ok (.aload_n 0, 1) := by decide +kernel
theorem dX1_readSaying_1 : decode cX1_readSaying 1 = .ok (.getfield 18, 3) := by decide +kernel
theorem dX1_readSaying_4 : decode cX1_readSaying 4 = .ok (.iconst 3, 1) := by decide +kernel
theorem dX1_readSaying_5 : decode cX1_readSaying 5 = .ok (.invokevirtual 64, 3) := by decide +kernel
theorem dX1_readSaying_8 : decode cX1_readSaying 8 = .ok (.ifCond .ne 5, 3) := by decide +kernel
theorem dX1_readSaying_11 : decode cX1_readSaying 11 = .ok (.iconst 0, 1) := by decide +kernel
theorem dX1_readSaying_12 : decode cX1_readSaying 12 = .ok (.ireturn, 1) := by decide +kernel
theorem dX1_readSaying_13 : decode cX1_readSaying 13 = .ok (.aload_n 0, 1) := by decide +kernel
theorem dX1_readSaying_14 : decode cX1_readSaying 14 = .ok (.getfield 12, 3) := by decide +kernel
theorem dX1_readSaying_17 : decode cX1_readSaying 17 = .ok (.getfield 127, 3) := by decide +kernel
theorem dX1_readSaying_20 : decode cX1_readSaying 20 = .ok (.iload_n 1, 1) := by decide +kernel
theorem dX1_readSaying_21 : decode cX1_readSaying 21 = .ok (.aload_n 0, 1) := by decide +kernel
theorem dX1_readSaying_22 : decode cX1_readSaying 22 = .ok (.getfield 18, 3) := by decide +kernel
theorem dX1_readSaying_25 : decode cX1_readSaying 25 = .ok (.iconst 0, 1) := by decide +kernel
theorem dX1_readSaying_26 : decode cX1_readSaying 26 = .ok (.sipush 9999, 3) := by decide +kernel
theorem dX1_readSaying_29 : decode cX1_readSaying 29 = .ok (.invokevirtual 123, 3) := by decide +kernel
theorem dX1_readSaying_32 : decode cX1_readSaying 32 = .ok (.iastore, 1) := by decide +kernel
theorem dX1_readSaying_33 : decode cX1_readSaying 33 = .ok (.aload_n 0, 1) := by decide +kernel
theorem dX1_readSaying_34 : decode cX1_readSaying 34 = .ok (.getfield 12, 3) := by decide +kernel
theorem dX1_readSaying_37 : decode cX1_readSaying 37 = .ok (.getfield 127, 3) := by decide +kernel
theorem dX1_readSaying_40 : decode cX1_readSaying 40 = .ok (.iload_n 1, 1) := by decide +kernel
theorem dX1_readSaying_41 : decode cX1_readSaying 41 = .ok (.iaload, 1) := by decide +kernel
theorem dX1_readSaying_42 : decode cX1_readSaying 42 = .ok (.iconst (-1), 1) := by decide +kernel
theorem dX1_readSaying_43 : decode cX1_readSaying 43 = .ok (.if_icmp .eq 7, 3) := by decide +kernel
theorem dX1_readSaying_46 : decode cX1_readSaying 46 = .ok (.iconst 1, 1) := by decide +kernel
theorem dX1_readSaying_47 : decode cX1_readSaying 47 = .ok (.goto 4, 3) := by decide +kernel
theorem dX1_readSaying_50 : decode cX1_readSaying 50 = .ok (.iconst 0, 1) := by decide +kernel
theorem dX1_readSaying_51 : decode cX1_readSaying 51 = .ok (.ireturn, 1) := by decide +kernel
theorem dX1_readOf_0 : decode cX1_readOf 0 = .ok (.aload_n 0, 1) := by decide +kernel
theorem dX1_readOf_1 : decode cX1_readOf 1 = .ok (.getfield 18, 3) := by decide +kernel
theorem dX1_readOf_4 : decode cX1_readOf 4 = .ok (.iconst 5, 1) := by decide +kernel
theorem dX1_readOf_5 : decode cX1_readOf 5 = .ok (.invokevirtual 64, 3) := by decide +kernel
theorem dX1_readOf_8 : decode cX1_readOf 8 = .ok (.ifCond .ne 5, 3) := by decide +kernel
theorem dX1_readOf_11 : decode cX1_readOf 11 = .ok (.iconst 0, 1) := by decide +kernel
theorem dX1_readOf_12 : decode cX1_readOf 12 = .ok (.ireturn, 1) := by decide +kernel
theorem dX1_readOf_13 : decode cX1_readOf 13 = .ok (.aload_n 0, 1) := by decide +kernel
theorem dX1_readOf_14 : decode cX1_readOf 14 = .ok (.getfield 18, 3) := by decide +kernel
theorem dX1_readOf_17 : decode cX1_readOf 17 = .ok (.aload_n 0, 1) := by decide +kernel
theorem dX1_readOf_18 : decode cX1_readOf 18 = .ok (.getfield 12, 3) := by decide +kernel
theorem dX1_readOf_21 : decode cX1_readOf 21 = .ok (.invokevirtual 130, 3) := by decide +kernel
theorem dX1_readOf_24 : decode cX1_readOf 24 = .ok (.istore_n 2, 1) := by decide +kernel
theorem dX1_readOf_25 : decode cX1_readOf 25 = .ok (.iload_n 2, 1) := by decide +kernel
theorem dX1_readOf_26 : decode cX1_readOf 26 = .ok (.iconst (-1), 1) := by decide +kernel
theorem dX1_readOf_27 : decode cX1_readOf 27 = .ok (.if_icmp .ne 5, 3) := by decide +kernel
theorem dX1_readOf_30 : decode cX1_readOf 30 = .ok (.iconst 0, 1) := by decide +kernel
theorem dX1_readOf_31 : decode cX1_readOf 31 = .ok (.ireturn, 1) := by decide +kernel
theorem dX1_readOf_32 : decode cX1_readOf 32 = .ok (.aload_n 0, 1) := by decide +kernel
theorem dX1_readOf_33 : decode cX1_readOf 33 = .ok (.getfield 12, 3) := by decide +kernel
theorem dX1_readOf_36 : decode cX1_readOf 36 = .ok (.getfield 91, 3) := by decide +kernel
theorem dX1_readOf_39 : decode cX1_readOf 39 = .ok (.iload_n 2, 1) := by decide +kernel
theorem dX1_readOf_40 : decode cX1_readOf 40 = .ok (.iaload, 1) := by decide +kernel
theorem dX1_readOf_41 : decode cX1_readOf 41 = .ok (.iconst 1, 1) := by decide +kernel
theorem dX1_readOf_42 : decode cX1_readOf 42 = .ok (.if_icmp .eq 16, 3) := by decide +kernel
theorem dX1_readOf_45 : decode cX1_readOf 45 = .ok (.aload_n 0, 1) := by decide +kernel
theorem dX1_readOf_46 : decode cX1_readOf 46 = .ok (.getfield 12, 3) := by decide +kernel
theorem dX1_readOf_49 : decode cX1_readOf 49 = .ok (.getfield 91, 3) := by decide +kernel
theorem dX1_readOf_52 : decode cX1_readOf 52 = .ok (.iload_n 2, 1) := by decide +kernel
theorem dX1_readOf_53 : decode cX1_readOf 53 = .ok (.iaload, 1) := by decide +kernel
theorem dX1_readOf_54 : decode cX1_readOf 54 = .ok (.iconst 4, 1) := by decide +kernel
theorem dX1_readOf_55 : decode cX1_readOf 55 = .ok (.if_icmp .ne 12, 3) := by decide +kernel
theorem dX1_readOf_58 : decode cX1_readOf 58 = .ok (.aload_n 0, 1) := by decide +kernel
theorem dX1_readOf_59 : decode cX1_readOf 59 = .ok (.getfield 18, 3) := by decide +kernel
theorem dX1_readOf_62 : decode cX1_readOf 62 = .ok (.iconst 5, 1) := by decide +kernel
theorem dX1_readOf_63 : decode cX1_readOf 63 = .ok (.invokevirtual 46, 3) := by decide +kernel
theorem dX1_readOf_66 : decode cX1_readOf 66 = .ok (.ireturn, 1) := by decide +kernel
theorem dX1_readOf_67 : decode cX1_readOf 67 = .ok (.aload_n 0, 1) := by decide +kernel
theorem dX1_readOf_68 : decode cX1_readOf 68 = .ok (.getfield 18, 3) := by decide +kernel
theorem dX1_readOf_71 : decode cX1_readOf 71 = .ok (.invokevirtual 50, 3) := by decide +kernel
theorem dX1_readOf_74 : decode cX1_readOf 74 = .ok (.aload_n 0, 1) := by decide +kernel
theorem dX1_readOf_75 : decode cX1_readOf 75 = .ok (.getfield 12, 3) := by decide +kernel
theorem dX1_readOf_78 : decode cX1_readOf 78 = .ok (.getfield 108, 3) := by decide +kernel
theorem dX1_readOf_81 : decode cX1_readOf 81 = .ok (.iload_n 1, 1) := by decide +kernel
theorem dX1_readOf_82 : decode cX1_readOf 82 = .ok (.aload_n 0, 1) := by decide +kernel
theorem dX1_readOf_83 : decode cX1_readOf 83 = .ok (.getfield 12, 3) := by decide +kernel
theorem dX1_readOf_86 : decode cX1_readOf 86 = .ok (.getfield 108, 3) := by decide +kernel
theorem dX1_readOf_89 : decode cX1_readOf 89 = .ok (.iload_n 2, 1) := by decide +kernel
theorem dX1_readOf_90 : decode cX1_readOf 90 = .ok (.iaload, 1) := by decide +kernel
theorem dX1_readOf_91 : decode cX1_readOf 91 = .ok (.iastore, 1) := by decide +kernel
theorem dX1_readOf_92 : decode cX1_readOf 92 = .ok (.aload_n 0, 1) := by decide +kernel
theorem dX1_readOf_93 : decode cX1_readOf 93 = .ok (.getfield 12, 3) := by decide +kernel
theorem dX1_readOf_96 : decode cX1_readOf 96 = .ok (.getfield 134, 3) := by decide +kernel
theorem dX1_readOf_99 : decode cX1_readOf 99 = .ok (.iload_n 1, 1) := by decide +kernel
theorem dX1_readOf_100 : decode cX1_readOf 100 = .ok (.iconst 1, 1) := by decide +kernel
theorem dX1_readOf_101 : decode cX1_readOf 101 = .ok (.iload_n 2, 1) := by decide +kernel
theorem dX1_readOf_102 : decode cX1_readOf 102 = .ok (.ishl, 1) := by decide +kernel
theorem dX1_readOf_103 : decode cX1_readOf 103 = .ok (.iastore, 1) := by decide +kernel
theorem dX1_readOf_104 : decode cX1_readOf 104 = .ok (.iconst 1, 1) := by decide +kernel
theorem dX1_readOf_105 : decode cX1_readOf 105 = .ok (.ireturn, 1) := by decide +kernel
theorem dX1_readSettled_0 : decode cX1_readSettled 0 = .ok (.aload_n 0, 1) := by decide +kernel
theorem dX1_readSettled_1 : decode cX1_readSettled 1 = .ok (.getfield 18, 3) := by decide +kernel
theorem dX1_readSettled_4 : decode cX1_readSettled 4 = .ok (.iconst 5, 1) := by decide +kernel
theorem dX1_readSettled_5 : decode cX1_readSettled 5 = .ok (.invokevirtual 64, 3) := by decide +kernel
theorem dX1_readSettled_8 : decode cX1_readSettled 8 = .ok (.ifCond .ne 5, 3) := by decide +kernel
theorem dX1_readSettled_11 : decode cX1_readSettled 11 = .ok (.iconst 0, 1) := by decide +kernel
theorem dX1_readSettled_12 : decode cX1_readSettled 12 = .ok (.ireturn, 1) := by decide +kernel
theorem dX1_readSettled_13 : decode cX1_readSettled 13 = .ok (.aload_n 0, 1) := by decide +kernel
theorem dX1_readSettled_14 : decode cX1_readSettled 14 = .ok (.getfield 18, 3) := by decide +kernel
theorem dX1_readSettled_17 : decode cX1_readSettled 17 = .ok (.aload_n 0, 1) := by decide +kernel
theorem dX1_readSettled_18 : decode cX1_readSettled 18 = .ok (.getfield 12, 3) := by decide +kernel
theorem dX1_readSettled_21 : decode cX1_readSettled 21 = .ok (.invokevirtual 130, 3) := by decide +kernel
theorem dX1_readSettled_24 : decode cX1_readSettled 24 = .ok (.istore_n 2, 1) := by decide +kernel
theorem dX1_readSettled_25 : decode cX1_readSettled 25 = .ok (.iload_n 2, 1) := by decide +kernel
theorem dX1_readSettled_26 : decode cX1_readSettled 26 = .ok (.iconst (-1), 1) := by decide +kernel
theorem dX1_readSettled_27 : decode cX1_readSettled 27 = .ok (.if_icmp .ne 5, 3) := by decide +kernel
theorem dX1_readSettled_30 : decode cX1_readSettled 30 = .ok (.iconst 0, 1) := by decide +kernel
theorem dX1_readSettled_31 : decode cX1_readSettled 31 = .ok (.ireturn, 1) := by decide +kernel
theorem dX1_readSettled_32 : decode cX1_readSettled 32 = .ok (.aload_n 0, 1) := by decide +kernel
theorem dX1_readSettled_33 : decode cX1_readSettled 33 = .ok (.getfield 12, 3) := by decide +kernel
theorem dX1_readSettled_36 : decode cX1_readSettled 36 = .ok (.getfield 91, 3) := by decide +kernel
theorem dX1_readSettled_39 : decode cX1_readSettled 39 = .ok (.iload_n 2, 1) := by decide +kernel
theorem dX1_readSettled_40 : decode cX1_readSettled 40 = .ok (.iaload, 1) := by decide +kernel
theorem dX1_readSettled_41 : decode cX1_readSettled 41 = .ok (.ifCond .eq 16, 3) := by decide +kernel
theorem dX1_readSettled_44 : decode cX1_readSettled 44 = .ok (.aload_n 0, 1) := by decide +kernel
theorem dX1_readSettled_45 : decode cX1_readSettled 45 = .ok (.getfield 12, 3) := by decide +kernel
theorem dX1_readSettled_48 : decode cX1_readSettled 48 = .ok (.getfield 91, 3) := by decide +kernel
theorem dX1_readSettled_51 : decode cX1_readSettled 51 = .ok (.iload_n 2, 1) := by decide +kernel
theorem dX1_readSettled_52 : decode cX1_readSettled 52 = .ok (.iaload, 1) := by decide +kernel
theorem dX1_readSettled_53 : decode cX1_readSettled 53 = .ok (.iconst 4, 1) := by decide +kernel
theorem dX1_readSettled_54 : decode cX1_readSettled 54 = .ok (.if_icmp .ne 12, 3) := by decide +kernel
theorem dX1_readSettled_57 : decode cX1_readSettled 57 = .ok (.aload_n 0, 1) := by decide +kernel
theorem dX1_readSettled_58 : decode cX1_readSettled 58 = .ok (.getfield 18, 3) := by decide +kernel
theorem dX1_readSettled_61 : decode cX1_readSettled 61 = .ok (.iconst 5, 1) := by decide +kernel
theorem dX1_readSettled_62 : decode cX1_readSettled 62 = .ok (.invokevirtual 46, 3) := by decide +kernel
theorem dX1_readSettled_65 : decode cX1_readSettled 65 = .ok (.ireturn, 1) := by decide +kernel
theorem dX1_readSettled_66 : decode cX1_readSettled 66 = .ok (.aload_n 0, 1) := by decide +kernel
theorem dX1_readSettled_67 : decode cX1_readSettled 67 = .ok (.getfield 18, 3) := by decide +kernel
theorem dX1_readSettled_70 : decode cX1_readSettled 70 = .ok (.invokevirtual 50, 3) := by decide +kernel
theorem dX1_readSettled_73 : decode cX1_readSettled 73 = .ok (.aload_n 0, 1) := by decide +kernel
theorem dX1_readSettled_74 : decode cX1_readSettled 74 = .ok (.getfield 18, 3) := by decide +kernel
theorem dX1_readSettled_77 : decode cX1_readSettled 77 = .ok (.bipush 9, 2) := by decide +kernel
theorem dX1_readSettled_79 : decode cX1_readSettled 79 = .ok (.invokevirtual 64, 3) := by decide +kernel
theorem dX1_readSettled_82 : decode cX1_readSettled 82 = .ok (.ifCond .ne 5, 3) := by decide +kernel
theorem dX1_readSettled_85 : decode cX1_readSettled 85 = .ok (.iconst 0, 1) := by decide +kernel
theorem dX1_readSettled_86 : decode cX1_readSettled 86 = .ok (.ireturn, 1) := by decide +kernel
theorem dX1_readSettled_87 : decode cX1_readSettled 87 = .ok (.aload_n 0, 1) := by decide +kernel
theorem dX1_readSettled_88 : decode cX1_readSettled 88 = .ok (.getfield 18, 3) := by decide +kernel
theorem dX1_readSettled_91 : decode cX1_readSettled 91 = .ok (.aload_n 0, 1) := by decide +kernel
theorem dX1_readSettled_92 : decode cX1_readSettled 92 = .ok (.getfield 12, 3) := by decide +kernel
theorem dX1_readSettled_95 : decode cX1_readSettled 95 = .ok (.invokevirtual 130, 3) := by decide +kernel
theorem dX1_readSettled_98 : decode cX1_readSettled 98 = .ok (.istore_n 3, 1) := by decide +kernel
theorem dX1_readSettled_99 : decode cX1_readSettled 99 = .ok (.iload_n 3, 1) := by decide +kernel
theorem dX1_readSettled_100 : decode cX1_readSettled 100 = .ok (.iconst (-1), 1) := by decide +kernel
theorem dX1_readSettled_101 : decode cX1_readSettled 101 = .ok (.if_icmp .ne 5, 3) := by decide +kernel
theorem dX1_readSettled_104 : decode cX1_readSettled 104 = .ok (.iconst 0, 1) := by decide +kernel
theorem dX1_readSettled_105 : decode cX1_readSettled 105 = .ok (.ireturn, 1) := by decide +kernel
theorem dX1_readSettled_106 : decode cX1_readSettled 106 = .ok (.aload_n 0, 1) := by decide +kernel
theorem dX1_readSettled_107 : decode cX1_readSettled 107 = .ok (.getfield 12, 3) := by decide +kernel
theorem dX1_readSettled_110 : decode cX1_readSettled 110 = .ok (.getfield 137, 3) := by decide +kernel
theorem dX1_readSettled_113 : decode cX1_readSettled 113 = .ok (.iload_n 2, 1) := by decide +kernel
theorem dX1_readSettled_114 : decode cX1_readSettled 114 = .ok (.iaload, 1) := by decide +kernel
theorem dX1_readSettled_115 : decode cX1_readSettled 115 = .ok (.iload_n 3, 1) := by decide +kernel
theorem dX1_readSettled_116 : decode cX1_readSettled 116 = .ok (.invokestatic 140, 3) := by decide +kernel
theorem dX1_readSettled_119 : decode cX1_readSettled 119 = .ok (.ifCond .ne 12, 3) := by decide +kernel
theorem dX1_readSettled_122 : decode cX1_readSettled 122 = .ok (.aload_n 0, 1) := by decide +kernel
theorem dX1_readSettled_123 : decode cX1_readSettled 123 = .ok (.getfield 18, 3) := by decide +kernel
theorem dX1_readSettled_126 : decode cX1_readSettled 126 = .ok (.iconst 5, 1) := by decide +kernel
theorem dX1_readSettled_127 : decode cX1_readSettled 127 = .ok (.invokevirtual 46, 3) := by decide +kernel
theorem dX1_readSettled_130 : decode cX1_readSettled 130 = .ok (.ireturn, 1) := by decide +kernel
theorem dX1_readSettled_131 : decode cX1_readSettled 131 = .ok (.aload_n 0, 1) := by decide +kernel
theorem dX1_readSettled_132 : decode cX1_readSettled 132 = .ok (.getfield 18, 3) := by decide +kernel
theorem dX1_readSettled_135 : decode cX1_readSettled 135 = .ok (.invokevirtual 50, 3) := by decide +kernel
theorem dX1_readSettled_138 : decode cX1_readSettled 138 = .ok (.aload_n 0, 1) := by decide +kernel
theorem dX1_readSettled_139 : decode cX1_readSettled 139 = .ok (.getfield 12, 3) := by decide +kernel
theorem dX1_readSettled_142 : decode cX1_readSettled 142 = .ok (.getfield 108, 3) := by decide +kernel
theorem dX1_readSettled_145 : decode cX1_readSettled 145 = .ok (.iload_n 1, 1) := by decide +kernel
theorem dX1_readSettled_146 : decode cX1_readSettled 146 = .ok (.aload_n 0, 1) := by decide +kernel
theorem dX1_readSettled_147 : decode cX1_readSettled 147 = .ok (.getfield 12, 3) := by decide +kernel
theorem dX1_readSettled_150 : decode cX1_readSettled 150 = .ok (.getfield 108, 3) := by decide +kernel
theorem dX1_readSettled_153 : decode cX1_readSettled 153 = .ok (.iload_n 2, 1) := by decide +kernel
theorem dX1_readSettled_154 : decode cX1_readSettled 154 = .ok (.iaload, 1) := by decide +kernel
theorem dX1_readSettled_155 : decode cX1_readSettled 155 = .ok (.iastore, 1) := by decide +kernel
theorem dX1_readSettled_156 : decode cX1_readSettled 156 = .ok (.aload_n 0, 1) := by decide +kernel
theorem dX1_readSettled_157 : decode cX1_readSettled 157 = .ok (.getfield 12, 3) := by decide +kernel
theorem dX1_readSettled_160 : decode cX1_readSettled 160 = .ok (.getfield 143, 3) := by decide +kernel
theorem dX1_readSettled_163 : decode cX1_readSettled 163 = .ok (.iload_n 1, 1) := by decide +kernel
theorem dX1_readSettled_164 : decode cX1_readSettled 164 = .ok (.iload_n 2, 1) := by decide +kernel
theorem dX1_readSettled_165 : decode cX1_readSettled 165 = .ok (.iastore, 1) := by decide +kernel
theorem dX1_readSettled_166 : decode cX1_readSettled 166 = .ok (.aload_n 0, 1) := by decide +kernel
theorem dX1_readSettled_167 : decode cX1_readSettled 167 = .ok (.getfield 12, 3) := by decide +kernel
theorem dX1_readSettled_170 : decode cX1_readSettled 170 = .ok (.getfield 146, 3) := by decide +kernel
theorem dX1_readSettled_173 : decode cX1_readSettled 173 = .ok (.iload_n 1, 1) := by decide +kernel
theorem dX1_readSettled_174 : decode cX1_readSettled 174 = .ok (.iload_n 3, 1) := by decide +kernel
theorem dX1_readSettled_175 : decode cX1_readSettled 175 = .ok (.iastore, 1) := by decide +kernel
theorem dX1_readSettled_176 : decode cX1_readSettled 176 = .ok (.aload_n 0, 1) := by decide +kernel
theorem dX1_readSettled_177 : decode cX1_readSettled 177 = .ok (.getfield 12, 3) := by decide +kernel
theorem dX1_readSettled_180 : decode cX1_readSettled 180 = .ok (.getfield 134, 3) := by decide +kernel
theorem dX1_readSettled_183 : decode cX1_readSettled 183 = .ok (.iload_n 1, 1) := by decide +kernel
theorem dX1_readSettled_184 : decode cX1_readSettled 184 = .ok (.iconst 1, 1) := by decide +kernel
theorem dX1_readSettled_185 : decode cX1_readSettled 185 = .ok (.iload_n 2, 1) := by decide +kernel
theorem dX1_readSettled_186 : decode cX1_readSettled 186 = .ok (.ishl, 1) := by decide +kernel
theorem dX1_readSettled_187 : decode cX1_readSettled 187 = .ok (.iconst 1, 1) := by decide +kernel
theorem dX1_readSettled_188 : decode cX1_readSettled 188 = .ok (.iload_n 3, 1) := by decide +kernel
theorem dX1_readSettled_189 : decode cX1_readSettled 189 = .ok (.ishl, 1) := by decide +kernel
theorem dX1_readSettled_190 : decode cX1_readSettled 190 = .ok (.ior, 1) := by decide +kernel
theorem dX1_readSettled_191 : decode cX1_readSettled 191 = .ok (.iastore, 1) := by decide +kernel
theorem dX1_readSettled_192 : decode cX1_readSettled 192 = .ok (.iconst 1, 1) := by decide +kernel
theorem dX1_readSettled_193 : decode cX1_readSettled 193 = .ok (.ireturn, 1) := by decide +kernel
theorem dX1_readAfter_0 : decode cX1_readAfter 0 = .ok (.aload_n 0, 1) := by decide +kernel
theorem dX1_readAfter_1 : decode cX1_readAfter 1 = .ok (.getfield 18, 3) := by decide +kernel
theorem dX1_readAfter_4 : decode cX1_readAfter 4 = .ok (.invokevirtual 32, 3) := by decide +kernel
theorem dX1_readAfter_7 : decode cX1_readAfter 7 = .ok (.bipush 10, 2) := by decide +kernel
theorem dX1_readAfter_9 : decode cX1_readAfter 9 = .ok (.if_icmp .eq 5, 3) := by decide +kernel
theorem dX1_readAfter_12 : decode cX1_readAfter 12 = .ok (.iconst 1, 1) := by decide +kernel
theorem dX1_readAfter_13 : decode cX1_readAfter 13 = .ok (.ireturn, 1) := by decide +kernel
theorem dX1_readAfter_14 : decode cX1_readAfter 14 = .ok (.aload_n 0, 1) := by decide +kernel
theorem dX1_readAfter_15 : decode cX1_readAfter 15 = .ok (.getfield 18, 3) := by decide +kernel
theorem dX1_readAfter_18 : decode cX1_readAfter 18 = .ok (.invokevirtual 50, 3) := by decide +kernel
theorem dX1_readAfter_21 : decode cX1_readAfter 21 = .ok (.iconst 0, 1) := by decide +kernel
theorem dX1_readAfter_22 : decode cX1_readAfter 22 = .ok (.istore_n 2, 1) := by decide +kernel
theorem dX1_readAfter_23 : decode cX1_readAfter 23 = .ok (.iconst 0, 1) := by decide +kernel
theorem dX1_readAfter_24 : decode cX1_readAfter 24 = .ok (.istore_n 3, 1) := by decide +kernel
theorem dX1_readAfter_25 : decode cX1_readAfter 25 = .ok (.iload_n 3, 1) := by decide +kernel
theorem dX1_readAfter_26 : decode cX1_readAfter 26 = .ok (.bipush 16, 2) := by decide +kernel
theorem dX1_readAfter_28 : decode cX1_readAfter 28 = .ok (.if_icmp .gt 77, 3) := by decide +kernel
theorem dX1_readAfter_31 : decode cX1_readAfter 31 = .ok (.aload_n 0, 1) := by decide +kernel
theorem dX1_readAfter_32 : decode cX1_readAfter 32 = .ok (.getfield 18, 3) := by decide +kernel
theorem dX1_readAfter_35 : decode cX1_readAfter 35 = .ok (.aload_n 0, 1) := by decide +kernel
theorem dX1_readAfter_36 : decode cX1_readAfter 36 = .ok (.getfield 12, 3) := by decide +kernel
theorem dX1_readAfter_39 : decode cX1_readAfter 39 = .ok (.invokevirtual 130, 3) := by decide +kernel
theorem dX1_readAfter_42 : decode cX1_readAfter 42 = .ok (.istore 4, 2) := by decide +kernel
theorem dX1_readAfter_44 : decode cX1_readAfter 44 = .ok (.iload 4, 2) := by decide +kernel
theorem dX1_readAfter_46 : decode cX1_readAfter 46 = .ok (.iconst (-1), 1) := by decide +kernel
theorem dX1_readAfter_47 : decode cX1_readAfter 47 = .ok (.if_icmp .ne 5, 3) := by decide +kernel
theorem dX1_readAfter_50 : decode cX1_readAfter 50 = .ok (.iconst 0, 1) := by decide +kernel
theorem dX1_readAfter_51 : decode cX1_readAfter 51 = .ok (.ireturn, 1) := by decide +kernel
theorem dX1_readAfter_52 : decode cX1_readAfter 52 = .ok (.iload_n 2, 1) := by decide +kernel
theorem dX1_readAfter_53 : decode cX1_readAfter 53 = .ok (.iload 4, 2) := by decide +kernel
theorem dX1_readAfter_55 : decode cX1_readAfter 55 = .ok (.invokestatic 140, 3) := by decide +kernel
theorem dX1_readAfter_58 : decode cX1_readAfter 58 = .ok (.ifCond .eq 12, 3) := by decide +kernel
theorem dX1_readAfter_61 : decode cX1_readAfter 61 = .ok (.aload_n 0, 1) := by decide +kernel
theorem dX1_readAfter_62 : decode cX1_readAfter 62 = .ok (.getfield 18, 3) := by decide +kernel
theorem dX1_readAfter_65 : decode cX1_readAfter 65 = .ok (.iconst 5, 1) := by decide +kernel
theorem dX1_readAfter_66 : decode cX1_readAfter 66 = .ok (.invokevirtual 46, 3) := by decide +kernel
theorem dX1_readAfter_69 : decode cX1_readAfter 69 = .ok (.ireturn, 1) := by decide +kernel
theorem dX1_readAfter_70 : decode cX1_readAfter 70 = .ok (.iload_n 2, 1) := by decide +kernel
theorem dX1_readAfter_71 : decode cX1_readAfter 71 = .ok (.iconst 1, 1) := by decide +kernel
theorem dX1_readAfter_72 : decode cX1_readAfter 72 = .ok (.iload 4, 2) := by decide +kernel
theorem dX1_readAfter_74 : decode cX1_readAfter 74 = .ok (.ishl, 1) := by decide +kernel
theorem dX1_readAfter_75 : decode cX1_readAfter 75 = .ok (.ior, 1) := by decide +kernel
theorem dX1_readAfter_76 : decode cX1_readAfter 76 = .ok (.istore_n 2, 1) := by decide +kernel
theorem dX1_readAfter_77 : decode cX1_readAfter 77 = .ok (.aload_n 0, 1) := by decide +kernel
theorem dX1_readAfter_78 : decode cX1_readAfter 78 = .ok (.getfield 18, 3) := by decide +kernel
theorem dX1_readAfter_81 : decode cX1_readAfter 81 = .ok (.invokevirtual 50, 3) := by decide +kernel
theorem dX1_readAfter_84 : decode cX1_readAfter 84 = .ok (.aload_n 0, 1) := by decide +kernel
theorem dX1_readAfter_85 : decode cX1_readAfter 85 = .ok (.getfield 18, 3) := by decide +kernel
theorem dX1_readAfter_88 : decode cX1_readAfter 88 = .ok (.invokevirtual 32, 3) := by decide +kernel
theorem dX1_readAfter_91 : decode cX1_readAfter 91 = .ok (.bipush 31, 2) := by decide +kernel
theorem dX1_readAfter_93 : decode cX1_readAfter 93 = .ok (.if_icmp .ne 6, 3) := by decide +kernel
theorem dX1_readAfter_96 : decode cX1_readAfter 96 = .ok (.goto 9, 3) := by decide +kernel
theorem dX1_readAfter_99 : decode cX1_readAfter 99 = .ok (.iinc 3 1, 3) := by decide +kernel
theorem dX1_readAfter_102 : decode cX1_readAfter 102 = .ok (.goto (-77), 3) := by decide +kernel
theorem dX1_readAfter_105 : decode cX1_readAfter 105 = .ok (.aload_n 0, 1) := by decide +kernel
theorem dX1_readAfter_106 : decode cX1_readAfter 106 = .ok (.getfield 12, 3) := by decide +kernel
theorem dX1_readAfter_109 : decode cX1_readAfter 109 = .ok (.getfield 134, 3) := by decide +kernel
theorem dX1_readAfter_112 : decode cX1_readAfter 112 = .ok (.iload_n 1, 1) := by decide +kernel
theorem dX1_readAfter_113 : decode cX1_readAfter 113 = .ok (.dup2, 1) := by decide +kernel
theorem dX1_readAfter_114 : decode cX1_readAfter 114 = .ok (.iaload, 1) := by decide +kernel
theorem dX1_readAfter_115 : decode cX1_readAfter 115 = .ok (.iload_n 2, 1) := by decide +kernel
theorem dX1_readAfter_116 : decode cX1_readAfter 116 = .ok (.ior, 1) := by decide +kernel
theorem dX1_readAfter_117 : decode cX1_readAfter 117 = .ok (.iastore, 1) := by decide +kernel
theorem dX1_readAfter_118 : decode cX1_readAfter 118 = .ok (.iconst 1, 1) := by decide +kernel
theorem dX1_readAfter_119 : decode cX1_readAfter 119 = .ok (.ireturn, 1) := by decide +kernel
theorem dX2_init_0 : decode cX2_init 0 = .ok (.aload_n 0, 1) := by decide +kernel
theorem dX2_init_1 : decode cX2_init 1 = .ok (.invokespecial 3, 3) := by decide +kernel
theorem dX2_init_4 : decode cX2_init 4 = .ok (.aload_n 0, 1) := by decide +kernel
theorem dX2_init_5 : decode cX2_init 5 = .ok (.iconst 0, 1) := by decide +kernel
theorem dX2_init_6 : decode cX2_init 6 = .ok (.putfield 9, 3) := by decide +kernel
theorem dX2_init_9 : decode cX2_init 9 = .ok (.aload_n 0, 1) := by decide +kernel
theorem dX2_init_10 : decode cX2_init 10 = .ok (.bipush 16, 2) := by decide +kernel
theorem dX2_init_12 : decode cX2_init 12 = .ok (.newarray .int, 2) := by decide +kernel
theorem dX2_init_14 : decode cX2_init 14 = .ok (.putfield 15, 3) := by decide +kernel
theorem dX2_init_17 : decode cX2_init 17 = .ok (.aload_n 0, 1) := by decide +kernel
theorem dX2_init_18 : decode cX2_init 18 = .ok (.bipush 16, 2) := by decide +kernel
theorem dX2_init_20 : decode cX2_init 20 = .ok (.newarray .int, 2) := by decide +kernel
theorem dX2_init_22 : decode cX2_init 22 = .ok (.putfield 19, 3) := by decide +kernel
theorem dX2_init_25 : decode cX2_init 25 = .ok (.aload_n 0, 1) := by decide +kernel
theorem dX2_init_26 : decode cX2_init 26 = .ok (.bipush 16, 2) := by decide +kernel
theorem dX2_init_28 : decode cX2_init 28 = .ok (.newarray .int, 2) := by decide +kernel
theorem dX2_init_30 : decode cX2_init 30 = .ok (.putfield 22, 3) := by decide +kernel
theorem dX2_init_33 : decode cX2_init 33 = .ok (.return_, 1) := by decide +kernel
theorem dX2_fill_0 : decode cX2_fill 0 = .ok (.aload_n 0, 1) := by decide +kernel
theorem dX2_fill_1 : decode cX2_fill 1 = .ok (.iconst 0, 1) := by decide +kernel
theorem dX2_fill_2 : decode cX2_fill 2 = .ok (.putfield 9, 3) := by decide +kernel
theorem dX2_fill_5 : decode cX2_fill 5 = .ok (.aload_n 1, 1) := by decide +kernel
theorem dX2_fill_6 : decode cX2_fill 6 = .ok (.iload_n 2, 1) := by decide +kernel
theorem dX2_fill_7 : decode cX2_fill 7 = .ok (.invokevirtual 25, 3) := by decide +kernel
theorem dX2_fill_10 : decode cX2_fill 10 = .ok (.istore_n 3, 1) := by decide +kernel
theorem dX2_fill_11 : decode cX2_fill 11 = .ok (.iconst 0, 1) := by decide +kernel
theorem dX2_fill_12 : decode cX2_fill 12 = .ok (.istore 4, 2) := by decide +kernel
theorem dX2_fill_14 : decode cX2_fill 14 = .ok (.iload 4, 2) := by decide +kernel
theorem dX2_fill_16 : decode cX2_fill 16 = .ok (.aload_n 1, 1) := by decide +kernel
theorem dX2_fill_17 : decode cX2_fill 17 = .ok (.getfield 31, 3) := by decide +kernel
theorem dX2_fill_20 : decode cX2_fill 20 = .ok (.if_icmp .ge 66, 3) := by decide +kernel
theorem dX2_fill_23 : decode cX2_fill 23 = .ok (.aload_n 1, 1) := by decide +kernel
theorem dX2_fill_24 : decode cX2_fill 24 = .ok (.iload 4, 2) := by decide +kernel
theorem dX2_fill_26 : decode cX2_fill 26 = .ok (.invokevirtual 34, 3) := by decide +kernel
theorem dX2_fill_29 : decode cX2_fill 29 = .ok (.ifCond .eq 51, 3) := by decide +kernel
theorem dX2_fill_32 : decode cX2_fill 32 = .ok (.iload_n 2, 1) := by decide +kernel
theorem dX2_fill_33 : decode cX2_fill 33 = .ok (.iload 4, 2) := by decide +kernel
theorem dX2_fill_35 : decode cX2_fill 35 = .ok (.invokestatic 38, 3) := by decide +kernel
theorem dX2_fill_38 : decode cX2_fill 38 = .ok (.ifCond .eq 42, 3) := by decide +kernel
theorem dX2_fill_41 : decode cX2_fill 41 = .ok (.aload_n 1, 1) := by decide +kernel
theorem dX2_fill_42 : decode cX2_fill 42 = .ok (.iload_n 2, 1) := by decide +kernel
theorem dX2_fill_43 : decode cX2_fill 43 = .ok (.iload_n 3, 1) := by decide +kernel
theorem dX2_fill_44 : decode cX2_fill 44 = .ok (.iload 4, 2) := by decide +kernel
theorem dX2_fill_46 : decode cX2_fill 46 = .ok (.invokevirtual 42, 3) := by decide +kernel
theorem dX2_fill_49 : decode cX2_fill 49 = .ok (.ifCond .ne 31, 3) := by decide +kernel
theorem dX2_fill_52 : decode cX2_fill 52 = .ok (.aload_n 1, 1) := by decide +kernel
theorem dX2_fill_53 : decode cX2_fill 53 = .ok (.iload_n 2, 1) := by decide +kernel
theorem dX2_fill_54 : decode cX2_fill 54 = .ok (.iload_n 3, 1) := by decide +kernel
theorem dX2_fill_55 : decode cX2_fill 55 = .ok (.iload 4, 2) := by decide +kernel
theorem dX2_fill_57 : decode cX2_fill 57 = .ok (.iconst 2, 1) := by decide +kernel
theorem dX2_fill_58 : decode cX2_fill 58 = .ok (.invokevirtual 46, 3) := by decide +kernel
theorem dX2_fill_61 : decode cX2_fill 61 = .ok (.istore 5, 2) := by decide +kernel
theorem dX2_fill_63 : decode cX2_fill 63 = .ok (.aload_n 0, 1) := by decide +kernel
theorem dX2_fill_64 : decode cX2_fill 64 = .ok (.iload 4, 2) := by decide +kernel
theorem dX2_fill_66 : decode cX2_fill 66 = .ok (.iload 5, 2) := by decide +kernel
theorem dX2_fill_68 : decode cX2_fill 68 = .ok (.aload_n 1, 1) := by decide +kernel
theorem dX2_fill_69 : decode cX2_fill 69 = .ok (.iload_n 2, 1) := by decide +kernel
theorem dX2_fill_70 : decode cX2_fill 70 = .ok (.iload_n 3, 1) := by decide +kernel
theorem dX2_fill_71 : decode cX2_fill 71 = .ok (.iload 4, 2) := by decide +kernel
theorem dX2_fill_73 : decode cX2_fill 73 = .ok (.iconst 3, 1) := by decide +kernel
theorem dX2_fill_74 : decode cX2_fill 74 = .ok (.invokevirtual 46, 3) := by decide +kernel
theorem dX2_fill_77 : decode cX2_fill 77 = .ok (.invokevirtual 50, 3) := by decide +kernel
theorem dX2_fill_80 : decode cX2_fill 80 = .ok (.iinc 4 1, 3) := by decide +kernel
theorem dX2_fill_83 : decode cX2_fill 83 = .ok (.goto (-69), 3) := by decide +kernel
theorem dX2_fill_86 : decode cX2_fill 86 = .ok (.return_, 1) := by decide +kernel
theorem dX2_insert_0 : decode cX2_insert 0 = .ok (.aload_n 0, 1) := by decide +kernel
theorem dX2_insert_1 : decode cX2_insert 1 = .ok (.getfield 9, 3) := by decide +kernel
theorem dX2_insert_4 : decode cX2_insert 4 = .ok (.bipush 16, 2) := by decide +kernel
theorem dX2_insert_6 : decode cX2_insert 6 = .ok (.if_icmp .lt 4, 3) := by decide +kernel
theorem dX2_insert_9 : decode cX2_insert 9 = .ok (.return_, 1) := by decide +kernel
theorem dX2_insert_10 : decode cX2_insert 10 = .ok (.aload_n 0, 1) := by decide +kernel
theorem dX2_insert_11 : decode cX2_insert 11 = .ok (.getfield 9, 3) := by decide +kernel
theorem dX2_insert_14 : decode cX2_insert 14 = .ok (.istore 4, 2) := by decide +kernel
theorem dX2_insert_16 : decode cX2_insert 16 = .ok (.iload 4, 2) := by decide +kernel
theorem dX2_insert_18 : decode cX2_insert 18 = .ok (.ifCond .le 70, 3) := by decide +kernel
theorem dX2_insert_21 : decode cX2_insert 21 = .ok (.aload_n 0, 1) := by decide +kernel
theorem dX2_insert_22 : decode cX2_insert 22 = .ok (.getfield 22, 3) := by decide +kernel
theorem dX2_insert_25 : decode cX2_insert 25 = .ok (.iload 4, 2) := by decide +kernel
theorem dX2_insert_27 : decode cX2_insert 27 = .ok (.iconst 1, 1) := by decide +kernel
theorem dX2_insert_28 : decode cX2_insert 28 = .ok (.isub, 1) := by decide +kernel
theorem dX2_insert_29 : decode cX2_insert 29 = .ok (.iaload, 1) := by decide +kernel
theorem dX2_insert_30 : decode cX2_insert 30 = .ok (.iload_n 3, 1) := by decide +kernel
theorem dX2_insert_31 : decode cX2_insert 31 = .ok (.if_icmp .le 57, 3) := by decide +kernel
theorem dX2_insert_34 : decode cX2_insert 34 = .ok (.aload_n 0, 1) := by decide +kernel
theorem dX2_insert_35 : decode cX2_insert 35 = .ok (.getfield 15, 3) := by decide +kernel
theorem dX2_insert_38 : decode cX2_insert 38 = .ok (.iload 4, 2) := by decide +kernel
theorem dX2_insert_40 : decode cX2_insert 40 = .ok (.aload_n 0, 1) := by decide +kernel
theorem dX2_insert_41 : decode cX2_insert 41 = .ok (.getfield 15, 3) := by decide +kernel
theorem dX2_insert_44 : decode cX2_insert 44 = .ok (.iload 4, 2) := by decide +kernel
theorem dX2_insert_46 : decode cX2_insert 46 = .ok (.iconst 1, 1) := by decide +kernel
theorem dX2_insert_47 : decode cX2_insert 47 = .ok (.isub, 1) := by decide +kernel
theorem dX2_insert_48 : decode cX2_insert 48 = .ok (.iaload, 1) := by decide +kernel
theorem dX2_insert_49 : decode cX2_insert 49 = .ok (.iastore, 1) := by decide +kernel
theorem dX2_insert_50 : decode cX2_insert 50 = .ok (.aload_n 0, 1) := by decide +kernel
theorem dX2_insert_51 : decode cX2_insert 51 = .ok (.getfield 19, 3) := by decide +kernel
theorem dX2_insert_54 : decode cX2_insert 54 = .ok (.iload 4, 2) := by decide +kernel
theorem dX2_insert_56 : decode cX2_insert 56 = .ok (.aload_n 0, 1) := by decide +kernel
theorem dX2_insert_57 : decode cX2_insert 57 = .ok (.getfield 19, 3) := by decide +kernel
theorem dX2_insert_60 : decode cX2_insert 60 = .ok (.iload 4, 2) := by decide +kernel
theorem dX2_insert_62 : decode cX2_insert 62 = .ok (.iconst 1, 1) := by decide +kernel
theorem dX2_insert_63 : decode cX2_insert 63 = .ok (.isub, 1) := by decide +kernel
theorem dX2_insert_64 : decode cX2_insert 64 = .ok (.iaload, 1) := by decide +kernel
theorem dX2_insert_65 : decode cX2_insert 65 = .ok (.iastore, 1) := by decide +kernel
theorem dX2_insert_66 : decode cX2_insert 66 = .ok (.aload_n 0, 1) := by decide +kernel
theorem dX2_insert_67 : decode cX2_insert 67 = .ok (.getfield 22, 3) := by decide +kernel
theorem dX2_insert_70 : decode cX2_insert 70 = .ok (.iload 4, 2) := by decide +kernel
theorem dX2_insert_72 : decode cX2_insert 72 = .ok (.aload_n 0, 1) := by decide +kernel
theorem dX2_insert_73 : decode cX2_insert 73 = .ok (.getfield 22, 3) := by decide +kernel
theorem dX2_insert_76 : decode cX2_insert 76 = .ok (.iload 4, 2) := by decide +kernel
theorem dX2_insert_78 : decode cX2_insert 78 = .ok (.iconst 1, 1) := by decide +kernel
theorem dX2_insert_79 : decode cX2_insert 79 = .ok (.isub, 1) := by decide +kernel
theorem dX2_insert_80 : decode cX2_insert 80 = .ok (.iaload, 1) := by decide +kernel
