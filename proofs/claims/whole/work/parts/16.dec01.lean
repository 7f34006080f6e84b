theorem dX2_insert_81 : decode cX2_insert 81 = .ok (.iastore, 1) := by decide +kernel
theorem dX2_insert_82 : decode cX2_insert 82 = .ok (.iinc 4 (-1), 3) := by decide +kernel
theorem dX2_insert_85 : decode cX2_insert 85 = .ok (.goto (-69), 3) := by decide +kernel
theorem dX2_insert_88 : decode cX2_insert 88 = .ok (.aload_n 0, 1) := by decide +kernel
theorem dX2_insert_89 : decode cX2_insert 89 = .ok (.getfield 15, 3) := by decide +kernel
theorem dX2_insert_92 : decode cX2_insert 92 = .ok (.iload 4, 2) := by decide +kernel
theorem dX2_insert_94 : decode cX2_insert 94 = .ok (.iload_n 1, 1) := by decide +kernel
theorem dX2_insert_95 : decode cX2_insert 95 = .ok (.iastore, 1) := by decide +kernel
theorem dX2_insert_96 : decode cX2_insert 96 = .ok (.aload_n 0, 1) := by decide +kernel
theorem dX2_insert_97 : decode cX2_insert 97 = .ok (.getfield 19, 3) := by decide +kernel
theorem dX2_insert_100 : decode cX2_insert 100 = .ok (.iload 4, 2) := by decide +kernel
theorem dX2_insert_102 : decode cX2_insert 102 = .ok (.iload_n 2, 1) := by decide +kernel
theorem dX2_insert_103 : decode cX2_insert 103 = .ok (.iastore, 1) := by decide +kernel
theorem dX2_insert_104 : decode cX2_insert 104 = .ok (.aload_n 0, 1) := by decide +kernel
theorem dX2_insert_105 : decode cX2_insert 105 = .ok (.getfield 22, 3) := by decide +kernel
theorem dX2_insert_108 : decode cX2_insert 108 = .ok (.iload 4, 2) := by decide +kernel
theorem dX2_insert_110 : decode cX2_insert 110 = .ok (.iload_n 3, 1) := by decide +kernel
theorem dX2_insert_111 : decode cX2_insert 111 = .ok (.iastore, 1) := by decide +kernel
theorem dX2_insert_112 : decode cX2_insert 112 = .ok (.aload_n 0, 1) := by decide +kernel
theorem dX2_insert_113 : decode cX2_insert 113 = .ok (.dup, 1) := by decide +kernel
theorem dX2_insert_114 : decode cX2_insert 114 = .ok (.getfield 9, 3) := by decide +kernel
theorem dX2_insert_117 : decode cX2_insert 117 = .ok (.iconst 1, 1) := by decide +kernel
theorem dX2_insert_118 : decode cX2_insert 118 = .ok (.iadd, 1) := by decide +kernel
theorem dX2_insert_119 : decode cX2_insert 119 = .ok (.putfield 9, 3) := by decide +kernel
theorem dX2_insert_122 : decode cX2_insert 122 = .ok (.return_, 1) := by decide +kernel
theorem dX2_isPlace_0 : decode cX2_isPlace 0 = .ok (.iload_n 1, 1) := by decide +kernel
theorem dX2_isPlace_1 : decode cX2_isPlace 1 = .ok (.ifCond .lt 15, 3) := by decide +kernel
theorem dX2_isPlace_4 : decode cX2_isPlace 4 = .ok (.iload_n 1, 1) := by decide +kernel
theorem dX2_isPlace_5 : decode cX2_isPlace 5 = .ok (.aload_n 0, 1) := by decide +kernel
theorem dX2_isPlace_6 : decode cX2_isPlace 6 = .ok (.getfield 9, 3) := by decide +kernel
theorem dX2_isPlace_9 : decode cX2_isPlace 9 = .ok (.if_icmp .ge 7, 3) := by decide +kernel
theorem dX2_isPlace_12 : decode cX2_isPlace 12 = .ok (.iconst 1, 1) := by decide +kernel
theorem dX2_isPlace_13 : decode cX2_isPlace 13 = .ok (.goto 4, 3) := by decide +kernel
theorem dX2_isPlace_16 : decode cX2_isPlace 16 = .ok (.iconst 0, 1) := by decide +kernel
theorem dX2_isPlace_17 : decode cX2_isPlace 17 = .ok (.ireturn, 1) := by decide +kernel
theorem dX2_placeOf_0 : decode cX2_placeOf 0 = .ok (.iconst 0, 1) := by decide +kernel
theorem dX2_placeOf_1 : decode cX2_placeOf 1 = .ok (.istore_n 2, 1) := by decide +kernel
theorem dX2_placeOf_2 : decode cX2_placeOf 2 = .ok (.iload_n 2, 1) := by decide +kernel
theorem dX2_placeOf_3 : decode cX2_placeOf 3 = .ok (.aload_n 0, 1) := by decide +kernel
theorem dX2_placeOf_4 : decode cX2_placeOf 4 = .ok (.getfield 9, 3) := by decide +kernel
theorem dX2_placeOf_7 : decode cX2_placeOf 7 = .ok (.if_icmp .ge 21, 3) := by decide +kernel
theorem dX2_placeOf_10 : decode cX2_placeOf 10 = .ok (.aload_n 0, 1) := by decide +kernel
theorem dX2_placeOf_11 : decode cX2_placeOf 11 = .ok (.getfield 15, 3) := by decide +kernel
theorem dX2_placeOf_14 : decode cX2_placeOf 14 = .ok (.iload_n 2, 1) := by decide +kernel
theorem dX2_placeOf_15 : decode cX2_placeOf 15 = .ok (.iaload, 1) := by decide +kernel
theorem dX2_placeOf_16 : decode cX2_placeOf 16 = .ok (.iload_n 1, 1) := by decide +kernel
theorem dX2_placeOf_17 : decode cX2_placeOf 17 = .ok (.if_icmp .ne 5, 3) := by decide +kernel
theorem dX2_placeOf_20 : decode cX2_placeOf 20 = .ok (.iload_n 2, 1) := by decide +kernel
theorem dX2_placeOf_21 : decode cX2_placeOf 21 = .ok (.ireturn, 1) := by decide +kernel
theorem dX2_placeOf_22 : decode cX2_placeOf 22 = .ok (.iinc 2 1, 3) := by decide +kernel
theorem dX2_placeOf_25 : decode cX2_placeOf 25 = .ok (.goto (-23), 3) := by decide +kernel
theorem dX2_placeOf_28 : decode cX2_placeOf 28 = .ok (.iconst (-1), 1) := by decide +kernel
theorem dX2_placeOf_29 : decode cX2_placeOf 29 = .ok (.ireturn, 1) := by decide +kernel
theorem dX2_firstDifference_0 : decode cX2_firstDifference 0 = .ok (.aload_n 0, 1) := by decide +kernel
theorem dX2_firstDifference_1 : decode cX2_firstDifference 1 = .ok (.getfield 9, 3) := by decide +kernel
theorem dX2_firstDifference_4 : decode cX2_firstDifference 4 = .ok (.aload_n 1, 1) := by decide +kernel
theorem dX2_firstDifference_5 : decode cX2_firstDifference 5 = .ok (.getfield 9, 3) := by decide +kernel
theorem dX2_firstDifference_8 : decode cX2_firstDifference 8 = .ok (.invokestatic 54, 3) := by decide +kernel
theorem dX2_firstDifference_11 : decode cX2_firstDifference 11 = .ok (.istore_n 2, 1) := by decide +kernel
theorem dX2_firstDifference_12 : decode cX2_firstDifference 12 = .ok (.iconst 0, 1) := by decide +kernel
theorem dX2_firstDifference_13 : decode cX2_firstDifference 13 = .ok (.istore_n 3, 1) := by decide +kernel
theorem dX2_firstDifference_14 : decode cX2_firstDifference 14 = .ok (.iload_n 3, 1) := by decide +kernel
theorem dX2_firstDifference_15 : decode cX2_firstDifference 15 = .ok (.iload_n 2, 1) := by decide +kernel
theorem dX2_firstDifference_16 : decode cX2_firstDifference 16 = .ok (.if_icmp .ge 41, 3) := by decide +kernel
theorem dX2_firstDifference_19 : decode cX2_firstDifference 19 = .ok (.aload_n 0, 1) := by decide +kernel
theorem dX2_firstDifference_20 : decode cX2_firstDifference 20 = .ok (.getfield 15, 3) := by decide +kernel
theorem dX2_firstDifference_23 : decode cX2_firstDifference 23 = .ok (.iload_n 3, 1) := by decide +kernel
theorem dX2_firstDifference_24 : decode cX2_firstDifference 24 = .ok (.iaload, 1) := by decide +kernel
theorem dX2_firstDifference_25 : decode cX2_firstDifference 25 = .ok (.aload_n 1, 1) := by decide +kernel
theorem dX2_firstDifference_26 : decode cX2_firstDifference 26 = .ok (.getfield 15, 3) := by decide +kernel
theorem dX2_firstDifference_29 : decode cX2_firstDifference 29 = .ok (.iload_n 3, 1) := by decide +kernel
theorem dX2_firstDifference_30 : decode cX2_firstDifference 30 = .ok (.iaload, 1) := by decide +kernel
theorem dX2_firstDifference_31 : decode cX2_firstDifference 31 = .ok (.if_icmp .ne 18, 3) := by decide +kernel
theorem dX2_firstDifference_34 : decode cX2_firstDifference 34 = .ok (.aload_n 0, 1) := by decide +kernel
theorem dX2_firstDifference_35 : decode cX2_firstDifference 35 = .ok (.getfield 19, 3) := by decide +kernel
theorem dX2_firstDifference_38 : decode cX2_firstDifference 38 = .ok (.iload_n 3, 1) := by decide +kernel
theorem dX2_firstDifference_39 : decode cX2_firstDifference 39 = .ok (.iaload, 1) := by decide +kernel
theorem dX2_firstDifference_40 : decode cX2_firstDifference 40 = .ok (.aload_n 1, 1) := by decide +kernel
theorem dX2_firstDifference_41 : decode cX2_firstDifference 41 = .ok (.getfield 19, 3) := by decide +kernel
theorem dX2_firstDifference_44 : decode cX2_firstDifference 44 = .ok (.iload_n 3, 1) := by decide +kernel
theorem dX2_firstDifference_45 : decode cX2_firstDifference 45 = .ok (.iaload, 1) := by decide +kernel
theorem dX2_firstDifference_46 : decode cX2_firstDifference 46 = .ok (.if_icmp .eq 5, 3) := by decide +kernel
theorem dX2_firstDifference_49 : decode cX2_firstDifference 49 = .ok (.iload_n 3, 1) := by decide +kernel
theorem dX2_firstDifference_50 : decode cX2_firstDifference 50 = .ok (.ireturn, 1) := by decide +kernel
theorem dX2_firstDifference_51 : decode cX2_firstDifference 51 = .ok (.iinc 3 1, 3) := by decide +kernel
theorem dX2_firstDifference_54 : decode cX2_firstDifference 54 = .ok (.goto (-40), 3) := by decide +kernel
theorem dX2_firstDifference_57 : decode cX2_firstDifference 57 = .ok (.aload_n 0, 1) := by decide +kernel
theorem dX2_firstDifference_58 : decode cX2_firstDifference 58 = .ok (.getfield 9, 3) := by decide +kernel
theorem dX2_firstDifference_61 : decode cX2_firstDifference 61 = .ok (.aload_n 1, 1) := by decide +kernel
theorem dX2_firstDifference_62 : decode cX2_firstDifference 62 = .ok (.getfield 9, 3) := by decide +kernel
theorem dX2_firstDifference_65 : decode cX2_firstDifference 65 = .ok (.if_icmp .ne 7, 3) := by decide +kernel
theorem dX2_firstDifference_68 : decode cX2_firstDifference 68 = .ok (.iconst (-1), 1) := by decide +kernel
theorem dX2_firstDifference_69 : decode cX2_firstDifference 69 = .ok (.goto 4, 3) := by decide +kernel
theorem dX2_firstDifference_72 : decode cX2_firstDifference 72 = .ok (.iload_n 2, 1) := by decide +kernel
theorem dX2_firstDifference_73 : decode cX2_firstDifference 73 = .ok (.ireturn, 1) := by decide +kernel
theorem dX2_isLike_0 : decode cX2_isLike 0 = .ok (.aload_n 0, 1) := by decide +kernel
theorem dX2_isLike_1 : decode cX2_isLike 1 = .ok (.aload_n 1, 1) := by decide +kernel
theorem dX2_isLike_2 : decode cX2_isLike 2 = .ok (.invokevirtual 60, 3) := by decide +kernel
theorem dX2_isLike_5 : decode cX2_isLike 5 = .ok (.iconst (-1), 1) := by decide +kernel
theorem dX2_isLike_6 : decode cX2_isLike 6 = .ok (.if_icmp .eq 5, 3) := by decide +kernel
theorem dX2_isLike_9 : decode cX2_isLike 9 = .ok (.iconst 0, 1) := by decide +kernel
theorem dX2_isLike_10 : decode cX2_isLike 10 = .ok (.ireturn, 1) := by decide +kernel
theorem dX2_isLike_11 : decode cX2_isLike 11 = .ok (.iconst 0, 1) := by decide +kernel
theorem dX2_isLike_12 : decode cX2_isLike 12 = .ok (.istore_n 2, 1) := by decide +kernel
theorem dX2_isLike_13 : decode cX2_isLike 13 = .ok (.iload_n 2, 1) := by decide +kernel
theorem dX2_isLike_14 : decode cX2_isLike 14 = .ok (.aload_n 0, 1) := by decide +kernel
theorem dX2_isLike_15 : decode cX2_isLike 15 = .ok (.getfield 9, 3) := by decide +kernel
theorem dX2_isLike_18 : decode cX2_isLike 18 = .ok (.if_icmp .ge 26, 3) := by decide +kernel
theorem dX2_isLike_21 : decode cX2_isLike 21 = .ok (.aload_n 0, 1) := by decide +kernel
theorem dX2_isLike_22 : decode cX2_isLike 22 = .ok (.getfield 22, 3) := by decide +kernel
theorem dX2_isLike_25 : decode cX2_isLike 25 = .ok (.iload_n 2, 1) := by decide +kernel
theorem dX2_isLike_26 : decode cX2_isLike 26 = .ok (.iaload, 1) := by decide +kernel
theorem dX2_isLike_27 : decode cX2_isLike 27 = .ok (.aload_n 1, 1) := by decide +kernel
theorem dX2_isLike_28 : decode cX2_isLike 28 = .ok (.getfield 22, 3) := by decide +kernel
theorem dX2_isLike_31 : decode cX2_isLike 31 = .ok (.iload_n 2, 1) := by decide +kernel
theorem dX2_isLike_32 : decode cX2_isLike 32 = .ok (.iaload, 1) := by decide +kernel
theorem dX2_isLike_33 : decode cX2_isLike 33 = .ok (.if_icmp .eq 5, 3) := by decide +kernel
theorem dX2_isLike_36 : decode cX2_isLike 36 = .ok (.iconst 0, 1) := by decide +kernel
theorem dX2_isLike_37 : decode cX2_isLike 37 = .ok (.ireturn, 1) := by decide +kernel
theorem dX2_isLike_38 : decode cX2_isLike 38 = .ok (.iinc 2 1, 3) := by decide +kernel
theorem dX2_isLike_41 : decode cX2_isLike 41 = .ok (.goto (-28), 3) := by decide +kernel
theorem dX2_isLike_44 : decode cX2_isLike 44 = .ok (.iconst 1, 1) := by decide +kernel
theorem dX2_isLike_45 : decode cX2_isLike 45 = .ok (.ireturn, 1) := by decide +kernel
theorem dX3_init_0 : decode cX3_init 0 = .ok (.aload_n 0, 1) := by decide +kernel
theorem dX3_init_1 : decode cX3_init 1 = .ok (.invokespecial 1, 3) := by decide +kernel
theorem dX3_init_4 : decode cX3_init 4 = .ok (.aload_n 0, 1) := by decide +kernel
theorem dX3_init_5 : decode cX3_init 5 = .ok (.iconst 0, 1) := by decide +kernel
theorem dX3_init_6 : decode cX3_init 6 = .ok (.putfield 7, 3) := by decide +kernel
theorem dX3_init_9 : decode cX3_init 9 = .ok (.aload_n 0, 1) := by decide +kernel
theorem dX3_init_10 : decode cX3_init 10 = .ok (.iconst 0, 1) := by decide +kernel
theorem dX3_init_11 : decode cX3_init 11 = .ok (.putfield 13, 3) := by decide +kernel
theorem dX3_init_14 : decode cX3_init 14 = .ok (.aload_n 0, 1) := by decide +kernel
theorem dX3_init_15 : decode cX3_init 15 = .ok (.bipush 60, 2) := by decide +kernel
theorem dX3_init_17 : decode cX3_init 17 = .ok (.newarray .int, 2) := by decide +kernel
theorem dX3_init_19 : decode cX3_init 19 = .ok (.putfield 16, 3) := by decide +kernel
theorem dX3_init_22 : decode cX3_init 22 = .ok (.aload_n 0, 1) := by decide +kernel
theorem dX3_init_23 : decode cX3_init 23 = .ok (.bipush 60, 2) := by decide +kernel
theorem dX3_init_25 : decode cX3_init 25 = .ok (.newarray .int, 2) := by decide +kernel
theorem dX3_init_27 : decode cX3_init 27 = .ok (.putfield 20, 3) := by decide +kernel
theorem dX3_init_30 : decode cX3_init 30 = .ok (.aload_n 0, 1) := by decide +kernel
theorem dX3_init_31 : decode cX3_init 31 = .ok (.bipush 60, 2) := by decide +kernel
theorem dX3_init_33 : decode cX3_init 33 = .ok (.newarray .int, 2) := by decide +kernel
theorem dX3_init_35 : decode cX3_init 35 = .ok (.putfield 23, 3) := by decide +kernel
theorem dX3_init_38 : decode cX3_init 38 = .ok (.aload_n 0, 1) := by decide +kernel
theorem dX3_init_39 : decode cX3_init 39 = .ok (.bipush 60, 2) := by decide +kernel
theorem dX3_init_41 : decode cX3_init 41 = .ok (.newarray .int, 2) := by decide +kernel
theorem dX3_init_43 : decode cX3_init 43 = .ok (.putfield 26, 3) := by decide +kernel
theorem dX3_init_46 : decode cX3_init 46 = .ok (.aload_n 0, 1) := by decide +kernel
theorem dX3_init_47 : decode cX3_init 47 = .ok (.bipush 60, 2) := by decide +kernel
theorem dX3_init_49 : decode cX3_init 49 = .ok (.newarray .boolean, 2) := by decide +kernel
theorem dX3_init_51 : decode cX3_init 51 = .ok (.putfield 29, 3) := by decide +kernel
theorem dX3_init_54 : decode cX3_init 54 = .ok (.aload_n 0, 1) := by decide +kernel
theorem dX3_init_55 : decode cX3_init 55 = .ok (.bipush 60, 2) := by decide +kernel
theorem dX3_init_57 : decode cX3_init 57 = .ok (.newarray .int, 2) := by decide +kernel
theorem dX3_init_59 : decode cX3_init 59 = .ok (.putfield 33, 3) := by decide +kernel
theorem dX3_init_62 : decode cX3_init 62 = .ok (.return_, 1) := by decide +kernel
theorem dX4_init_0 : decode cX4_init 0 = .ok (.aload_n 0, 1) := by decide +kernel
theorem dX4_init_1 : decode cX4_init 1 = .ok (.invokespecial 3, 3) := by decide +kernel
theorem dX4_init_4 : decode cX4_init 4 = .ok (.aload_n 0, 1) := by decide +kernel
theorem dX4_init_5 : decode cX4_init 5 = .ok (.new 9, 3) := by decide +kernel
theorem dX4_init_8 : decode cX4_init 8 = .ok (.dup, 1) := by decide +kernel
theorem dX4_init_9 : decode cX4_init 9 = .ok (.invokespecial 11, 3) := by decide +kernel
theorem dX4_init_12 : decode cX4_init 12 = .ok (.putfield 12, 3) := by decide +kernel
theorem dX4_init_15 : decode cX4_init 15 = .ok (.aload_n 0, 1) := by decide +kernel
theorem dX4_init_16 : decode cX4_init 16 = .ok (.iconst 3, 1) := by decide +kernel
theorem dX4_init_17 : decode cX4_init 17 = .ok (.newarray .int, 2) := by decide +kernel
theorem dX4_init_19 : decode cX4_init 19 = .ok (.putfield 18, 3) := by decide +kernel
theorem dX4_init_22 : decode cX4_init 22 = .ok (.aload_n 0, 1) := by decide +kernel
theorem dX4_init_23 : decode cX4_init 23 = .ok (.iconst 0, 1) := by decide +kernel
theorem dX4_init_24 : decode cX4_init 24 = .ok (.putfield 22, 3) := by decide +kernel
theorem dX4_init_27 : decode cX4_init 27 = .ok (.aload_n 0, 1) := by decide +kernel
theorem dX4_init_28 : decode cX4_init 28 = .ok (.aload_n 1, 1) := by decide +kernel
theorem dX4_init_29 : decode cX4_init 29 = .ok (.putfield 26, 3) := by decide +kernel
theorem dX4_init_32 : decode cX4_init 32 = .ok (.aload_n 0, 1) := by decide +kernel
theorem dX4_init_33 : decode cX4_init 33 = .ok (.aload_n 2, 1) := by decide +kernel
theorem dX4_init_34 : decode cX4_init 34 = .ok (.putfield 30, 3) := by decide +kernel
theorem dX4_init_37 : decode cX4_init 37 = .ok (.return_, 1) := by decide +kernel
theorem dX4_readLog_0 : decode cX4_readLog 0 = .ok (.aload_n 0, 1) := by decide +kernel
theorem dX4_readLog_1 : decode cX4_readLog 1 = .ok (.getfield 26, 3) := by decide +kernel
theorem dX4_readLog_4 : decode cX4_readLog 4 = .ok (.iload_n 1, 1) := by decide +kernel
theorem dX4_readLog_5 : decode cX4_readLog 5 = .ok (.invokevirtual 34, 3) := by decide +kernel
theorem dX4_readLog_8 : decode cX4_readLog 8 = .ok (.iconst 1, 1) := by decide +kernel
theorem dX4_readLog_9 : decode cX4_readLog 9 = .ok (.istore_n 2, 1) := by decide +kernel
theorem dX4_readLog_10 : decode cX4_readLog 10 = .ok (.iconst 0, 1) := by decide +kernel
theorem dX4_readLog_11 : decode cX4_readLog 11 = .ok (.istore_n 3, 1) := by decide +kernel
theorem dX4_readLog_12 : decode cX4_readLog 12 = .ok (.iload_n 3, 1) := by decide +kernel
theorem dX4_readLog_13 : decode cX4_readLog 13 = .ok (.sipush 300, 3) := by decide +kernel
theorem dX4_readLog_16 : decode cX4_readLog 16 = .ok (.if_icmp .gt 99, 3) := by decide +kernel
theorem dX4_readLog_19 : decode cX4_readLog 19 = .ok (.iload_n 2, 1) := by decide +kernel
theorem dX4_readLog_20 : decode cX4_readLog 20 = .ok (.ifCond .eq 95, 3) := by decide +kernel
theorem dX4_readLog_23 : decode cX4_readLog 23 = .ok (.aload_n 0, 1) := by decide +kernel
theorem dX4_readLog_24 : decode cX4_readLog 24 = .ok (.getfield 26, 3) := by decide +kernel
theorem dX4_readLog_27 : decode cX4_readLog 27 = .ok (.invokevirtual 40, 3) := by decide +kernel
theorem dX4_readLog_30 : decode cX4_readLog 30 = .ok (.ifCond .ne 85, 3) := by decide +kernel
theorem dX4_readLog_33 : decode cX4_readLog 33 = .ok (.aload_n 0, 1) := by decide +kernel
theorem dX4_readLog_34 : decode cX4_readLog 34 = .ok (.getfield 12, 3) := by decide +kernel
theorem dX4_readLog_37 : decode cX4_readLog 37 = .ok (.getfield 44, 3) := by decide +kernel
theorem dX4_readLog_40 : decode cX4_readLog 40 = .ok (.istore 4, 2) := by decide +kernel
theorem dX4_readLog_42 : decode cX4_readLog 42 = .ok (.aload_n 0, 1) := by decide +kernel
theorem dX4_readLog_43 : decode cX4_readLog 43 = .ok (.getfield 26, 3) := by decide +kernel
theorem dX4_readLog_46 : decode cX4_readLog 46 = .ok (.invokevirtual 47, 3) := by decide +kernel
theorem dX4_readLog_49 : decode cX4_readLog 49 = .ok (.istore 5, 2) := by decide +kernel
theorem dX4_readLog_51 : decode cX4_readLog 51 = .ok (.iload 5, 2) := by decide +kernel
theorem dX4_readLog_53 : decode cX4_readLog 53 = .ok (.bipush 26, 2) := by decide +kernel
theorem dX4_readLog_55 : decode cX4_readLog 55 = .ok (.if_icmp .ne 12, 3) := by decide +kernel
theorem dX4_readLog_58 : decode cX4_readLog 58 = .ok (.aload_n 0, 1) := by decide +kernel
theorem dX4_readLog_59 : decode cX4_readLog 59 = .ok (.iload 4, 2) := by decide +kernel
theorem dX4_readLog_61 : decode cX4_readLog 61 = .ok (.invokevirtual 51, 3) := by decide +kernel
theorem dX4_readLog_64 : decode cX4_readLog 64 = .ok (.goto 11, 3) := by decide +kernel
theorem dX4_readLog_67 : decode cX4_readLog 67 = .ok (.aload_n 0, 1) := by decide +kernel
theorem dX4_readLog_68 : decode cX4_readLog 68 = .ok (.iload 4, 2) := by decide +kernel
theorem dX4_readLog_70 : decode cX4_readLog 70 = .ok (.iload 5, 2) := by decide +kernel
theorem dX4_readLog_72 : decode cX4_readLog 72 = .ok (.invokevirtual 55, 3) := by decide +kernel
theorem dX4_readLog_75 : decode cX4_readLog 75 = .ok (.istore_n 2, 1) := by decide +kernel
theorem dX4_readLog_76 : decode cX4_readLog 76 = .ok (.iload_n 2, 1) := by decide +kernel
theorem dX4_readLog_77 : decode cX4_readLog 77 = .ok (.ifCond .eq 30, 3) := by decide +kernel
theorem dX4_readLog_80 : decode cX4_readLog 80 = .ok (.aload_n 0, 1) := by decide +kernel
theorem dX4_readLog_81 : decode cX4_readLog 81 = .ok (.iload 4, 2) := by decide +kernel
theorem dX4_readLog_83 : decode cX4_readLog 83 = .ok (.iload 5, 2) := by decide +kernel
theorem dX4_readLog_85 : decode cX4_readLog 85 = .ok (.invokevirtual 59, 3) := by decide +kernel
theorem dX4_readLog_88 : decode cX4_readLog 88 = .ok (.ifCond .eq 19, 3) := by decide +kernel
theorem dX4_readLog_91 : decode cX4_readLog 91 = .ok (.aload_n 0, 1) := by decide +kernel
theorem dX4_readLog_92 : decode cX4_readLog 92 = .ok (.getfield 26, 3) := by decide +kernel
theorem dX4_readLog_95 : decode cX4_readLog 95 = .ok (.bipush 31, 2) := by decide +kernel
theorem dX4_readLog_97 : decode cX4_readLog 97 = .ok (.invokevirtual 62, 3) := by decide +kernel
theorem dX4_readLog_100 : decode cX4_readLog 100 = .ok (.ifCond .eq 7, 3) := by decide +kernel
theorem dX4_readLog_103 : decode cX4_readLog 103 = .ok (.iconst 1, 1) := by decide +kernel
theorem dX4_readLog_104 : decode cX4_readLog 104 = .ok (.goto 4, 3) := by decide +kernel
theorem dX4_readLog_107 : decode cX4_readLog 107 = .ok (.iconst 0, 1) := by decide +kernel
theorem dX4_readLog_108 : decode cX4_readLog 108 = .ok (.istore_n 2, 1) := by decide +kernel
theorem dX4_readLog_109 : decode cX4_readLog 109 = .ok (.iinc 3 1, 3) := by decide +kernel
theorem dX4_readLog_112 : decode cX4_readLog 112 = .ok (.goto (-100), 3) := by decide +kernel
theorem dX4_readLog_115 : decode cX4_readLog 115 = .ok (.iload_n 2, 1) := by decide +kernel
theorem dX4_readLog_116 : decode cX4_readLog 116 = .ok (.ifCond .eq 18, 3) := by decide +kernel
theorem dX4_readLog_119 : decode cX4_readLog 119 = .ok (.aload_n 0, 1) := by decide +kernel
theorem dX4_readLog_120 : decode cX4_readLog 120 = .ok (.getfield 22, 3) := by decide +kernel
theorem dX4_readLog_123 : decode cX4_readLog 123 = .ok (.ifCond .le 11, 3) := by decide +kernel
theorem dX4_readLog_126 : decode cX4_readLog 126 = .ok (.aload_n 0, 1) := by decide +kernel
theorem dX4_readLog_127 : decode cX4_readLog 127 = .ok (.getfield 26, 3) := by decide +kernel
theorem dX4_readLog_130 : decode cX4_readLog 130 = .ok (.invokevirtual 65, 3) := by decide +kernel
theorem dX4_readLog_133 : decode cX4_readLog 133 = .ok (.pop, 1) := by decide +kernel
theorem dX4_readLog_134 : decode cX4_readLog 134 = .ok (.aload_n 0, 1) := by decide +kernel
theorem dX4_readLog_135 : decode cX4_readLog 135 = .ok (.getfield 12, 3) := by decide +kernel
theorem dX4_readLog_138 : decode cX4_readLog 138 = .ok (.areturn, 1) := by decide +kernel
theorem dX4_isStep_0 : decode cX4_isStep 0 = .ok (.iload_n 0, 1) := by decide +kernel
theorem dX4_isStep_1 : decode cX4_isStep 1 = .ok (.tableswitch 85 11 27 #[83, 85, 83, 85, 85, 85, 83, 83, 83, 85, 85, 85, 83, 83, 83, 85, 83], 83) := by decide +kernel
theorem dX4_isStep_84 : decode cX4_isStep 84 = .ok (.iconst 1, 1) := by decide +kernel
theorem dX4_isStep_85 : decode cX4_isStep 85 = .ok (.ireturn, 1) := by decide +kernel
theorem dX4_isStep_86 : decode cX4_isStep 86 = .ok (.iconst 0, 1) := by decide +kernel
theorem dX4_isStep_87 : decode cX4_isStep 87 = .ok (.ireturn, 1) := by decide +kernel
theorem dX4_beginEnd_0 : decode cX4_beginEnd 0 = .ok (.aload_n 0, 1) := by decide +kernel
theorem dX4_beginEnd_1 : decode cX4_beginEnd 1 = .ok (.getfield 22, 3) := by decide +kernel
theorem dX4_beginEnd_4 : decode cX4_beginEnd 4 = .ok (.ifCond .le 9, 3) := by decide +kernel
theorem dX4_beginEnd_7 : decode cX4_beginEnd 7 = .ok (.iload_n 1, 1) := by decide +kernel
theorem dX4_beginEnd_8 : decode cX4_beginEnd 8 = .ok (.bipush 60, 2) := by decide +kernel
theorem dX4_beginEnd_10 : decode cX4_beginEnd 10 = .ok (.if_icmp .lt 11, 3) := by decide +kernel
theorem dX4_beginEnd_13 : decode cX4_beginEnd 13 = .ok (.aload_n 0, 1) := by decide +kernel
theorem dX4_beginEnd_14 : decode cX4_beginEnd 14 = .ok (.getfield 26, 3) := by decide +kernel
theorem dX4_beginEnd_17 : decode cX4_beginEnd 17 = .ok (.invokevirtual 65, 3) := by decide +kernel
theorem dX4_beginEnd_20 : decode cX4_beginEnd 20 = .ok (.ireturn, 1) := by decide +kernel
theorem dX4_beginEnd_21 : decode cX4_beginEnd 21 = .ok (.aload_n 0, 1) := by decide +kernel
theorem dX4_beginEnd_22 : decode cX4_beginEnd 22 = .ok (.dup, 1) := by decide +kernel
theorem dX4_beginEnd_23 : decode cX4_beginEnd 23 = .ok (.getfield 22, 3) := by decide +kernel
theorem dX4_beginEnd_26 : decode cX4_beginEnd 26 = .ok (.iconst 1, 1) := by decide +kernel
theorem dX4_beginEnd_27 : decode cX4_beginEnd 27 = .ok (.isub, 1) := by decide +kernel
theorem dX4_beginEnd_28 : decode cX4_beginEnd 28 = .ok (.putfield 22, 3) := by decide +kernel
theorem dX4_beginEnd_31 : decode cX4_beginEnd 31 = .ok (.aload_n 0, 1) := by decide +kernel
theorem dX4_beginEnd_32 : decode cX4_beginEnd 32 = .ok (.getfield 12, 3) := by decide +kernel
theorem dX4_beginEnd_35 : decode cX4_beginEnd 35 = .ok (.getfield 68, 3) := by decide +kernel
theorem dX4_beginEnd_38 : decode cX4_beginEnd 38 = .ok (.iload_n 1, 1) := by decide +kernel
theorem dX4_beginEnd_39 : decode cX4_beginEnd 39 = .ok (.bipush 26, 2) := by decide +kernel
theorem dX4_beginEnd_41 : decode cX4_beginEnd 41 = .ok (.iastore, 1) := by decide +kernel
theorem dX4_beginEnd_42 : decode cX4_beginEnd 42 = .ok (.aload_n 0, 1) := by decide +kernel
theorem dX4_beginEnd_43 : decode cX4_beginEnd 43 = .ok (.getfield 12, 3) := by decide +kernel
theorem dX4_beginEnd_46 : decode cX4_beginEnd 46 = .ok (.getfield 71, 3) := by decide +kernel
theorem dX4_beginEnd_49 : decode cX4_beginEnd 49 = .ok (.iload_n 1, 1) := by decide +kernel
theorem dX4_beginEnd_50 : decode cX4_beginEnd 50 = .ok (.aload_n 0, 1) := by decide +kernel
theorem dX4_beginEnd_51 : decode cX4_beginEnd 51 = .ok (.getfield 18, 3) := by decide +kernel
theorem dX4_beginEnd_54 : decode cX4_beginEnd 54 = .ok (.aload_n 0, 1) := by decide +kernel
theorem dX4_beginEnd_55 : decode cX4_beginEnd 55 = .ok (.getfield 22, 3) := by decide +kernel
theorem dX4_beginEnd_58 : decode cX4_beginEnd 58 = .ok (.iaload, 1) := by decide +kernel
theorem dX4_beginEnd_59 : decode cX4_beginEnd 59 = .ok (.iastore, 1) := by decide +kernel
theorem dX4_beginEnd_60 : decode cX4_beginEnd 60 = .ok (.aload_n 0, 1) := by decide +kernel
theorem dX4_beginEnd_61 : decode cX4_beginEnd 61 = .ok (.getfield 12, 3) := by decide +kernel
theorem dX4_beginEnd_64 : decode cX4_beginEnd 64 = .ok (.getfield 71, 3) := by decide +kernel
theorem dX4_beginEnd_67 : decode cX4_beginEnd 67 = .ok (.aload_n 0, 1) := by decide +kernel
theorem dX4_beginEnd_68 : decode cX4_beginEnd 68 = .ok (.getfield 18, 3) := by decide +kernel
theorem dX4_beginEnd_71 : decode cX4_beginEnd 71 = .ok (.aload_n 0, 1) := by decide +kernel
theorem dX4_beginEnd_72 : decode cX4_beginEnd 72 = .ok (.getfield 22, 3) := by decide +kernel
theorem dX4_beginEnd_75 : decode cX4_beginEnd 75 = .ok (.iaload, 1) := by decide +kernel
theorem dX4_beginEnd_76 : decode cX4_beginEnd 76 = .ok (.iload_n 1, 1) := by decide +kernel
theorem dX4_beginEnd_77 : decode cX4_beginEnd 77 = .ok (.iastore, 1) := by decide +kernel
theorem dX4_beginEnd_78 : decode cX4_beginEnd 78 = .ok (.aload_n 0, 1) := by decide +kernel
theorem dX4_beginEnd_79 : decode cX4_beginEnd 79 = .ok (.getfield 12, 3) := by decide +kernel
theorem dX4_beginEnd_82 : decode cX4_beginEnd 82 = .ok (.dup, 1) := by decide +kernel
theorem dX4_beginEnd_83 : decode cX4_beginEnd 83 = .ok (.getfield 44, 3) := by decide +kernel
theorem dX4_beginEnd_86 : decode cX4_beginEnd 86 = .ok (.iconst 1, 1) := by decide +kernel
theorem dX4_beginEnd_87 : decode cX4_beginEnd 87 = .ok (.iadd, 1) := by decide +kernel
theorem dX4_beginEnd_88 : decode cX4_beginEnd 88 = .ok (.putfield 44, 3) := by decide +kernel
theorem dX4_beginEnd_91 : decode cX4_beginEnd 91 = .ok (.aload_n 0, 1) := by decide +kernel
theorem dX4_beginEnd_92 : decode cX4_beginEnd 92 = .ok (.getfield 26, 3) := by decide +kernel
theorem dX4_beginEnd_95 : decode cX4_beginEnd 95 = .ok (.invokevirtual 74, 3) := by decide +kernel
theorem dX4_beginEnd_98 : decode cX4_beginEnd 98 = .ok (.iconst 1, 1) := by decide +kernel
theorem dX4_beginEnd_99 : decode cX4_beginEnd 99 = .ok (.ireturn, 1) := by decide +kernel
theorem dX4_beginStep_0 : decode cX4_beginStep 0 = .ok (.iload_n 2, 1) := by decide +kernel
theorem dX4_beginStep_1 : decode cX4_beginStep 1 = .ok (.invokestatic 77, 3) := by decide +kernel
theorem dX4_beginStep_4 : decode cX4_beginStep 4 = .ok (.ifCond .ne 11, 3) := by decide +kernel
theorem dX4_beginStep_7 : decode cX4_beginStep 7 = .ok (.aload_n 0, 1) := by decide +kernel
theorem dX4_beginStep_8 : decode cX4_beginStep 8 = .ok (.getfield 26, 3) := by decide +kernel
theorem dX4_beginStep_11 : decode cX4_beginStep 11 = .ok (.invokevirtual 65, 3) := by decide +kernel
theorem dX4_beginStep_14 : decode cX4_beginStep 14 = .ok (.ireturn, 1) := by decide +kernel
theorem dX4_beginStep_15 : decode cX4_beginStep 15 = .ok (.aload_n 0, 1) := by decide +kernel
theorem dX4_beginStep_16 : decode cX4_beginStep 16 = .ok (.getfield 12, 3) := by decide +kernel
theorem dX4_beginStep_19 : decode cX4_beginStep 19 = .ok (.getfield 80, 3) := by decide +kernel
theorem dX4_beginStep_22 : decode cX4_beginStep 22 = .ok (.bipush 30, 2) := by decide +kernel
theorem dX4_beginStep_24 : decode cX4_beginStep 24 = .ok (.if_icmp .ge 9, 3) := by decide +kernel
theorem dX4_beginStep_27 : decode cX4_beginStep 27 = .ok (.iload_n 1, 1) := by decide +kernel
theorem dX4_beginStep_28 : decode cX4_beginStep 28 = .ok (.bipush 60, 2) := by decide +kernel
theorem dX4_beginStep_30 : decode cX4_beginStep 30 = .ok (.if_icmp .lt 13, 3) := by decide +kernel
theorem dX4_beginStep_33 : decode cX4_beginStep 33 = .ok (.aload_n 0, 1) := by decide +kernel
theorem dX4_beginStep_34 : decode cX4_beginStep 34 = .ok (.getfield 26, 3) := by decide +kernel
theorem dX4_beginStep_37 : decode cX4_beginStep 37 = .ok (.bipush 6, 2) := by decide +kernel
theorem dX4_beginStep_39 : decode cX4_beginStep 39 = .ok (.invokevirtual 83, 3) := by decide +kernel
theorem dX4_beginStep_42 : decode cX4_beginStep 42 = .ok (.ireturn, 1) := by decide +kernel
theorem dX4_beginStep_43 : decode cX4_beginStep 43 = .ok (.iload_n 2, 1) := by decide +kernel
theorem dX4_beginStep_44 : decode cX4_beginStep 44 = .ok (.bipush 19, 2) := by decide +kernel
theorem dX4_beginStep_46 : decode cX4_beginStep 46 = .ok (.if_icmp .eq 9, 3) := by decide +kernel
theorem dX4_beginStep_49 : decode cX4_beginStep 49 = .ok (.iload_n 2, 1) := by decide +kernel
theorem dX4_beginStep_50 : decode cX4_beginStep 50 = .ok (.bipush 25, 2) := by decide +kernel
theorem dX4_beginStep_52 : decode cX4_beginStep 52 = .ok (.if_icmp .ne 41, 3) := by decide +kernel
theorem dX4_beginStep_55 : decode cX4_beginStep 55 = .ok (.aload_n 0, 1) := by decide +kernel
theorem dX4_beginStep_56 : decode cX4_beginStep 56 = .ok (.getfield 22, 3) := by decide +kernel
theorem dX4_beginStep_59 : decode cX4_beginStep 59 = .ok (.iconst 3, 1) := by decide +kernel
theorem dX4_beginStep_60 : decode cX4_beginStep 60 = .ok (.if_icmp .lt 13, 3) := by decide +kernel
theorem dX4_beginStep_63 : decode cX4_beginStep 63 = .ok (.aload_n 0, 1) := by decide +kernel
theorem dX4_beginStep_64 : decode cX4_beginStep 64 = .ok (.getfield 26, 3) := by decide +kernel
theorem dX4_beginStep_67 : decode cX4_beginStep 67 = .ok (.bipush 7, 2) := by decide +kernel
theorem dX4_beginStep_69 : decode cX4_beginStep 69 = .ok (.invokevirtual 83, 3) := by decide +kernel
theorem dX4_beginStep_72 : decode cX4_beginStep 72 = .ok (.ireturn, 1) := by decide +kernel
theorem dX4_beginStep_73 : decode cX4_beginStep 73 = .ok (.aload_n 0, 1) := by decide +kernel
theorem dX4_beginStep_74 : decode cX4_beginStep 74 = .ok (.getfield 18, 3) := by decide +kernel
theorem dX4_beginStep_77 : decode cX4_beginStep 77 = .ok (.aload_n 0, 1) := by decide +kernel
theorem dX4_beginStep_78 : decode cX4_beginStep 78 = .ok (.getfield 22, 3) := by decide +kernel
theorem dX4_beginStep_81 : decode cX4_beginStep 81 = .ok (.iload_n 1, 1) := by decide +kernel
theorem dX4_beginStep_82 : decode cX4_beginStep 82 = .ok (.iastore, 1) := by decide +kernel
theorem dX4_beginStep_83 : decode cX4_beginStep 83 = .ok (.aload_n 0, 1) := by decide +kernel
theorem dX4_beginStep_84 : decode cX4_beginStep 84 = .ok (.dup, 1) := by decide +kernel
theorem dX4_beginStep_85 : decode cX4_beginStep 85 = .ok (.getfield 22, 3) := by decide +kernel
theorem dX4_beginStep_88 : decode cX4_beginStep 88 = .ok (.iconst 1, 1) := by decide +kernel
theorem dX4_beginStep_89 : decode cX4_beginStep 89 = .ok (.iadd, 1) := by decide +kernel
theorem dX4_beginStep_90 : decode cX4_beginStep 90 = .ok (.putfield 22, 3) := by decide +kernel
theorem dX4_beginStep_93 : decode cX4_beginStep 93 = .ok (.aload_n 0, 1) := by decide +kernel
theorem dX4_beginStep_94 : decode cX4_beginStep 94 = .ok (.getfield 12, 3) := by decide +kernel
theorem dX4_beginStep_97 : decode cX4_beginStep 97 = .ok (.getfield 68, 3) := by decide +kernel
theorem dX4_beginStep_100 : decode cX4_beginStep 100 = .ok (.iload_n 1, 1) := by decide +kernel
theorem dX4_beginStep_101 : decode cX4_beginStep 101 = .ok (.iload_n 2, 1) := by decide +kernel
theorem dX4_beginStep_102 : decode cX4_beginStep 102 = .ok (.iastore, 1) := by decide +kernel
theorem dX4_beginStep_103 : decode cX4_beginStep 103 = .ok (.aload_n 0, 1) := by decide +kernel
theorem dX4_beginStep_104 : decode cX4_beginStep 104 = .ok (.getfield 12, 3) := by decide +kernel
theorem dX4_beginStep_107 : decode cX4_beginStep 107 = .ok (.dup, 1) := by decide +kernel
theorem dX4_beginStep_108 : decode cX4_beginStep 108 = .ok (.getfield 44, 3) := by decide +kernel
theorem dX4_beginStep_111 : decode cX4_beginStep 111 = .ok (.iconst 1, 1) := by decide +kernel
theorem dX4_beginStep_112 : decode cX4_beginStep 112 = .ok (.iadd, 1) := by decide +kernel
theorem dX4_beginStep_113 : decode cX4_beginStep 113 = .ok (.putfield 44, 3) := by decide +kernel
theorem dX4_beginStep_116 : decode cX4_beginStep 116 = .ok (.aload_n 0, 1) := by decide +kernel
theorem dX4_beginStep_117 : decode cX4_beginStep 117 = .ok (.getfield 12, 3) := by decide +kernel
theorem dX4_beginStep_120 : decode cX4_beginStep 120 = .ok (.dup, 1) := by decide +kernel
theorem dX4_beginStep_121 : decode cX4_beginStep 121 = .ok (.getfield 80, 3) := by decide +kernel
theorem dX4_beginStep_124 : decode cX4_beginStep 124 = .ok (.iconst 1, 1) := by decide +kernel
theorem dX4_beginStep_125 : decode cX4_beginStep 125 = .ok (.iadd, 1) := by decide +kernel
theorem dX4_beginStep_126 : decode cX4_beginStep 126 = .ok (.putfield 80, 3) := by decide +kernel
theorem dX4_beginStep_129 : decode cX4_beginStep 129 = .ok (.aload_n 0, 1) := by decide +kernel
theorem dX4_beginStep_130 : decode cX4_beginStep 130 = .ok (.getfield 26, 3) := by decide +kernel
theorem dX4_beginStep_133 : decode cX4_beginStep 133 = .ok (.invokevirtual 74, 3) := by decide +kernel
theorem dX4_beginStep_136 : decode cX4_beginStep 136 = .ok (.iconst 1, 1) := by decide +kernel
theorem dX4_beginStep_137 : decode cX4_beginStep 137 = .ok (.ireturn, 1) := by decide +kernel
theorem dX4_readBody_0 : decode cX4_readBody 0 = .ok (.iload_n 2, 1) := by decide +kernel
theorem dX4_readBody_1 : decode cX4_readBody 1 = .ok (.tableswitch 175 11 25 #[75, 175, 109, 175, 175, 175, 75, 75, 169, 175, 175, 175, 160, 151, 151], 75) := by decide +kernel
theorem dX4_readBody_76 : decode cX4_readBody 76 = .ok (.aload_n 0, 1) := by decide +kernel
theorem dX4_readBody_77 : decode cX4_readBody 77 = .ok (.iload_n 1, 1) := by decide +kernel
theorem dX4_readBody_78 : decode cX4_readBody 78 = .ok (.invokevirtual 86, 3) := by decide +kernel
theorem dX4_readBody_81 : decode cX4_readBody 81 = .ok (.ifCond .eq 27, 3) := by decide +kernel
theorem dX4_readBody_84 : decode cX4_readBody 84 = .ok (.aload_n 0, 1) := by decide +kernel
theorem dX4_readBody_85 : decode cX4_readBody 85 = .ok (.getfield 26, 3) := by decide +kernel
theorem dX4_readBody_88 : decode cX4_readBody 88 = .ok (.bipush 12, 2) := by decide +kernel
theorem dX4_readBody_90 : decode cX4_readBody 90 = .ok (.invokevirtual 62, 3) := by decide +kernel
theorem dX4_readBody_93 : decode cX4_readBody 93 = .ok (.ifCond .eq 15, 3) := by decide +kernel
theorem dX4_readBody_96 : decode cX4_readBody 96 = .ok (.aload_n 0, 1) := by decide +kernel
theorem dX4_readBody_97 : decode cX4_readBody 97 = .ok (.iload_n 1, 1) := by decide +kernel
theorem dX4_readBody_98 : decode cX4_readBody 98 = .ok (.invokevirtual 89, 3) := by decide +kernel
theorem dX4_readBody_101 : decode cX4_readBody 101 = .ok (.ifCond .eq 7, 3) := by decide +kernel
theorem dX4_readBody_104 : decode cX4_readBody 104 = .ok (.iconst 1, 1) := by decide +kernel
theorem dX4_readBody_105 : decode cX4_readBody 105 = .ok (.goto 4, 3) := by decide +kernel
theorem dX4_readBody_108 : decode cX4_readBody 108 = .ok (.iconst 0, 1) := by decide +kernel
theorem dX4_readBody_109 : decode cX4_readBody 109 = .ok (.ireturn, 1) := by decide +kernel
theorem dX4_readBody_110 : decode cX4_readBody 110 = .ok (.aload_n 0, 1) := by decide +kernel
theorem dX4_readBody_111 : decode cX4_readBody 111 = .ok (.iload_n 1, 1) := by decide +kernel
theorem dX4_readBody_112 : decode cX4_readBody 112 = .ok (.invokevirtual 89, 3) := by decide +kernel
theorem dX4_readBody_115 : decode cX4_readBody 115 = .ok (.ifCond .eq 35, 3) := by decide +kernel
theorem dX4_readBody_118 : decode cX4_readBody 118 = .ok (.aload_n 0, 1) := by decide +kernel
theorem dX4_readBody_119 : decode cX4_readBody 119 = .ok (.getfield 26, 3) := by decide +kernel
theorem dX4_readBody_122 : decode cX4_readBody 122 = .ok (.bipush 14, 2) := by decide +kernel
theorem dX4_readBody_124 : decode cX4_readBody 124 = .ok (.invokevirtual 62, 3) := by decide +kernel
theorem dX4_readBody_127 : decode cX4_readBody 127 = .ok (.ifCond .eq 23, 3) := by decide +kernel
theorem dX4_readBody_130 : decode cX4_readBody 130 = .ok (.aload_n 0, 1) := by decide +kernel
theorem dX4_readBody_131 : decode cX4_readBody 131 = .ok (.iload_n 1, 1) := by decide +kernel
theorem dX4_readBody_132 : decode cX4_readBody 132 = .ok (.invokevirtual 92, 3) := by decide +kernel
theorem dX4_readBody_135 : decode cX4_readBody 135 = .ok (.ifCond .eq 15, 3) := by decide +kernel
theorem dX4_readBody_138 : decode cX4_readBody 138 = .ok (.aload_n 0, 1) := by decide +kernel
theorem dX4_readBody_139 : decode cX4_readBody 139 = .ok (.iload_n 1, 1) := by decide +kernel
theorem dX4_readBody_140 : decode cX4_readBody 140 = .ok (.invokevirtual 95, 3) := by decide +kernel
theorem dX4_readBody_143 : decode cX4_readBody 143 = .ok (.ifCond .eq 7, 3) := by decide +kernel
theorem dX4_readBody_146 : decode cX4_readBody 146 = .ok (.iconst 1, 1) := by decide +kernel
theorem dX4_readBody_147 : decode cX4_readBody 147 = .ok (.goto 4, 3) := by decide +kernel
theorem dX4_readBody_150 : decode cX4_readBody 150 = .ok (.iconst 0, 1) := by decide +kernel
theorem dX4_readBody_151 : decode cX4_readBody 151 = .ok (.ireturn, 1) := by decide +kernel
theorem dX4_readBody_152 : decode cX4_readBody 152 = .ok (.aload_n 0, 1) := by decide +kernel
theorem dX4_readBody_153 : decode cX4_readBody 153 = .ok (.iload_n 1, 1) := by decide +kernel
theorem dX4_readBody_154 : decode cX4_readBody 154 = .ok (.iconst 1, 1) := by decide +kernel
theorem dX4_readBody_155 : decode cX4_readBody 155 = .ok (.bipush 99, 2) := by decide +kernel
theorem dX4_readBody_157 : decode cX4_readBody 157 = .ok (.invokevirtual 98, 3) := by decide +kernel
theorem dX4_readBody_160 : decode cX4_readBody 160 = .ok (.ireturn, 1) := by decide +kernel
theorem dX4_readBody_161 : decode cX4_readBody 161 = .ok (.aload_n 0, 1) := by decide +kernel
theorem dX4_readBody_162 : decode cX4_readBody 162 = .ok (.iload_n 1, 1) := by decide +kernel
theorem dX4_readBody_163 : decode cX4_readBody 163 = .ok (.iconst 0, 1) := by decide +kernel
theorem dX4_readBody_164 : decode cX4_readBody 164 = .ok (.bipush 16, 2) := by decide +kernel
theorem dX4_readBody_166 : decode cX4_readBody 166 = .ok (.invokevirtual 98, 3) := by decide +kernel
theorem dX4_readBody_169 : decode cX4_readBody 169 = .ok (.ireturn, 1) := by decide +kernel
theorem dX4_readBody_170 : decode cX4_readBody 170 = .ok (.aload_n 0, 1) := by decide +kernel
theorem dX4_readBody_171 : decode cX4_readBody 171 = .ok (.iload_n 1, 1) := by decide +kernel
theorem dX4_readBody_172 : decode cX4_readBody 172 = .ok (.invokevirtual 102, 3) := by decide +kernel
theorem dX4_readBody_175 : decode cX4_readBody 175 = .ok (.ireturn, 1) := by decide +kernel
theorem dX4_readBody_176 : decode cX4_readBody 176 = .ok (.iconst 1, 1) := by decide +kernel
theorem dX4_readBody_177 : decode cX4_readBody 177 = .ok (.ireturn, 1) := by decide +kernel
theorem dX4_readTest_0 : decode cX4_readTest 0 = .ok (.aload_n 0, 1) := by decide +kernel
theorem dX4_readTest_1 : decode cX4_readTest 1 = .ok (.getfield 26, 3) := by decide +kernel
theorem dX4_readTest_4 : decode cX4_readTest 4 = .ok (.invokevirtual 47, 3) := by decide +kernel
theorem dX4_readTest_7 : decode cX4_readTest 7 = .ok (.istore_n 2, 1) := by decide +kernel
theorem dX4_readTest_8 : decode cX4_readTest 8 = .ok (.aload_n 0, 1) := by decide +kernel
theorem dX4_readTest_9 : decode cX4_readTest 9 = .ok (.getfield 12, 3) := by decide +kernel
theorem dX4_readTest_12 : decode cX4_readTest 12 = .ok (.getfield 68, 3) := by decide +kernel
theorem dX4_readTest_15 : decode cX4_readTest 15 = .ok (.iload_n 1, 1) := by decide +kernel
theorem dX4_readTest_16 : decode cX4_readTest 16 = .ok (.iload_n 2, 1) := by decide +kernel
theorem dX4_readTest_17 : decode cX4_readTest 17 = .ok (.iastore, 1) := by decide +kernel
theorem dX4_readTest_18 : decode cX4_readTest 18 = .ok (.iload_n 2, 1) := by decide +kernel
theorem dX4_readTest_19 : decode cX4_readTest 19 = .ok (.tableswitch 84 20 22 #[25, 54, 67], 25) := by decide +kernel
theorem dX4_readTest_44 : decode cX4_readTest 44 = .ok (.aload_n 0, 1) := by decide +kernel
theorem dX4_readTest_45 : decode cX4_readTest 45 = .ok (.getfield 26, 3) := by decide +kernel
theorem dX4_readTest_48 : decode cX4_readTest 48 = .ok (.invokevirtual 74, 3) := by decide +kernel
theorem dX4_readTest_51 : decode cX4_readTest 51 = .ok (.aload_n 0, 1) := by decide +kernel
theorem dX4_readTest_52 : decode cX4_readTest 52 = .ok (.iload_n 1, 1) := by decide +kernel
theorem dX4_readTest_53 : decode cX4_readTest 53 = .ok (.invokevirtual 89, 3) := by decide +kernel
theorem dX4_readTest_56 : decode cX4_readTest 56 = .ok (.ifCond .eq 15, 3) := by decide +kernel
theorem dX4_readTest_59 : decode cX4_readTest 59 = .ok (.aload_n 0, 1) := by decide +kernel
theorem dX4_readTest_60 : decode cX4_readTest 60 = .ok (.iload_n 1, 1) := by decide +kernel
theorem dX4_readTest_61 : decode cX4_readTest 61 = .ok (.invokevirtual 86, 3) := by decide +kernel
theorem dX4_readTest_64 : decode cX4_readTest 64 = .ok (.ifCond .eq 7, 3) := by decide +kernel
theorem dX4_readTest_67 : decode cX4_readTest 67 = .ok (.iconst 1, 1) := by decide +kernel
theorem dX4_readTest_68 : decode cX4_readTest 68 = .ok (.goto 4, 3) := by decide +kernel
theorem dX4_readTest_71 : decode cX4_readTest 71 = .ok (.iconst 0, 1) := by decide +kernel
theorem dX4_readTest_72 : decode cX4_readTest 72 = .ok (.ireturn, 1) := by decide +kernel
theorem dX4_readTest_73 : decode cX4_readTest 73 = .ok (.aload_n 0, 1) := by decide +kernel
theorem dX4_readTest_74 : decode cX4_readTest 74 = .ok (.getfield 26, 3) := by decide +kernel
theorem dX4_readTest_77 : decode cX4_readTest 77 = .ok (.invokevirtual 74, 3) := by decide +kernel
theorem dX4_readTest_80 : decode cX4_readTest 80 = .ok (.aload_n 0, 1) := by decide +kernel
theorem dX4_readTest_81 : decode cX4_readTest 81 = .ok (.iload_n 1, 1) := by decide +kernel
theorem dX4_readTest_82 : decode cX4_readTest 82 = .ok (.invokevirtual 89, 3) := by decide +kernel
theorem dX4_readTest_85 : decode cX4_readTest 85 = .ok (.ireturn, 1) := by decide +kernel
theorem dX4_readTest_86 : decode cX4_readTest 86 = .ok (.aload_n 0, 1) := by decide +kernel
theorem dX4_readTest_87 : decode cX4_readTest 87 = .ok (.getfield 26, 3) := by decide +kernel
theorem dX4_readTest_90 : decode cX4_readTest 90 = .ok (.invokevirtual 74, 3) := by decide +kernel
theorem dX4_readTest_93 : decode cX4_readTest 93 = .ok (.aload_n 0, 1) := by decide +kernel
theorem dX4_readTest_94 : decode cX4_readTest 94 = .ok (.iload_n 1, 1) := by decide +kernel
theorem dX4_readTest_95 : decode cX4_readTest 95 = .ok (.iconst 0, 1) := by decide +kernel
theorem dX4_readTest_96 : decode cX4_readTest 96 = .ok (.sipush 999, 3) := by decide +kernel
theorem dX4_readTest_99 : decode cX4_readTest 99 = .ok (.invokevirtual 98, 3) := by decide +kernel
theorem dX4_readTest_102 : decode cX4_readTest 102 = .ok (.ireturn, 1) := by decide +kernel
theorem dX4_readTest_103 : decode cX4_readTest 103 = .ok (.aload_n 0, 1) := by decide +kernel
theorem dX4_readTest_104 : decode cX4_readTest 104 = .ok (.getfield 26, 3) := by decide +kernel
theorem dX4_readTest_107 : decode cX4_readTest 107 = .ok (.invokevirtual 65, 3) := by decide +kernel
theorem dX4_readTest_110 : decode cX4_readTest 110 = .ok (.ireturn, 1) := by decide +kernel
theorem dX4_readDelay_0 : decode cX4_readDelay 0 = .ok (.aload_n 0, 1) := by decide +kernel
theorem dX4_readDelay_1 : decode cX4_readDelay 1 = .ok (.getfield 26, 3) := by decide +kernel
theorem dX4_readDelay_4 : decode cX4_readDelay 4 = .ok (.invokevirtual 47, 3) := by decide +kernel
theorem dX4_readDelay_7 : decode cX4_readDelay 7 = .ok (.bipush 15, 2) := by decide +kernel
theorem dX4_readDelay_9 : decode cX4_readDelay 9 = .ok (.if_icmp .ne 23, 3) := by decide +kernel
theorem dX4_readDelay_12 : decode cX4_readDelay 12 = .ok (.aload_n 0, 1) := by decide +kernel
theorem dX4_readDelay_13 : decode cX4_readDelay 13 = .ok (.getfield 26, 3) := by decide +kernel
theorem dX4_readDelay_16 : decode cX4_readDelay 16 = .ok (.invokevirtual 74, 3) := by decide +kernel
theorem dX4_readDelay_19 : decode cX4_readDelay 19 = .ok (.aload_n 0, 1) := by decide +kernel
theorem dX4_readDelay_20 : decode cX4_readDelay 20 = .ok (.iload_n 1, 1) := by decide +kernel
theorem dX4_readDelay_21 : decode cX4_readDelay 21 = .ok (.iconst 0, 1) := by decide +kernel
theorem dX4_readDelay_22 : decode cX4_readDelay 22 = .ok (.bipush 9, 2) := by decide +kernel
theorem dX4_readDelay_24 : decode cX4_readDelay 24 = .ok (.invokevirtual 98, 3) := by decide +kernel
theorem dX4_readDelay_27 : decode cX4_readDelay 27 = .ok (.ifCond .ne 5, 3) := by decide +kernel
theorem dX4_readDelay_30 : decode cX4_readDelay 30 = .ok (.iconst 0, 1) := by decide +kernel
theorem dX4_readDelay_31 : decode cX4_readDelay 31 = .ok (.ireturn, 1) := by decide +kernel
theorem dX4_readDelay_32 : decode cX4_readDelay 32 = .ok (.aload_n 0, 1) := by decide +kernel
theorem dX4_readDelay_33 : decode cX4_readDelay 33 = .ok (.getfield 26, 3) := by decide +kernel
theorem dX4_readDelay_36 : decode cX4_readDelay 36 = .ok (.invokevirtual 47, 3) := by decide +kernel
theorem dX4_readDelay_39 : decode cX4_readDelay 39 = .ok (.bipush 16, 2) := by decide +kernel
theorem dX4_readDelay_41 : decode cX4_readDelay 41 = .ok (.if_icmp .ne 20, 3) := by decide +kernel
theorem dX4_readDelay_44 : decode cX4_readDelay 44 = .ok (.aload_n 0, 1) := by decide +kernel
theorem dX4_readDelay_45 : decode cX4_readDelay 45 = .ok (.getfield 12, 3) := by decide +kernel
theorem dX4_readDelay_48 : decode cX4_readDelay 48 = .ok (.getfield 105, 3) := by decide +kernel
theorem dX4_readDelay_51 : decode cX4_readDelay 51 = .ok (.iload_n 1, 1) := by decide +kernel
theorem dX4_readDelay_52 : decode cX4_readDelay 52 = .ok (.iconst 1, 1) := by decide +kernel
theorem dX4_readDelay_53 : decode cX4_readDelay 53 = .ok (.bastore, 1) := by decide +kernel
theorem dX4_readDelay_54 : decode cX4_readDelay 54 = .ok (.aload_n 0, 1) := by decide +kernel
theorem dX4_readDelay_55 : decode cX4_readDelay 55 = .ok (.getfield 26, 3) := by decide +kernel
theorem dX4_readDelay_58 : decode cX4_readDelay 58 = .ok (.invokevirtual 74, 3) := by decide +kernel
theorem dX4_readDelay_61 : decode cX4_readDelay 61 = .ok (.iconst 1, 1) := by decide +kernel
theorem dX4_readDelay_62 : decode cX4_readDelay 62 = .ok (.ireturn, 1) := by decide +kernel
theorem dX4_readChange_0 : decode cX4_readChange 0 = .ok (.aload_n 0, 1) := by decide +kernel
theorem dX4_readChange_1 : decode cX4_readChange 1 = .ok (.getfield 12, 3) := by decide +kernel
theorem dX4_readChange_4 : decode cX4_readChange 4 = .ok (.getfield 109, 3) := by decide +kernel
theorem dX4_readChange_7 : decode cX4_readChange 7 = .ok (.iload_n 1, 1) := by decide +kernel
theorem dX4_readChange_8 : decode cX4_readChange 8 = .ok (.aload_n 0, 1) := by decide +kernel
theorem dX4_readChange_9 : decode cX4_readChange 9 = .ok (.getfield 26, 3) := by decide +kernel
theorem dX4_readChange_12 : decode cX4_readChange 12 = .ok (.aload_n 0, 1) := by decide +kernel
theorem dX4_readChange_13 : decode cX4_readChange 13 = .ok (.getfield 30, 3) := by decide +kernel
theorem dX4_readChange_16 : decode cX4_readChange 16 = .ok (.invokevirtual 112, 3) := by decide +kernel
theorem dX4_readChange_19 : decode cX4_readChange 19 = .ok (.iastore, 1) := by decide +kernel
theorem dX4_readChange_20 : decode cX4_readChange 20 = .ok (.aload_n 0, 1) := by decide +kernel
theorem dX4_readChange_21 : decode cX4_readChange 21 = .ok (.aload_n 0, 1) := by decide +kernel
theorem dX4_readChange_22 : decode cX4_readChange 22 = .ok (.getfield 12, 3) := by decide +kernel
theorem dX4_readChange_25 : decode cX4_readChange 25 = .ok (.getfield 109, 3) := by decide +kernel
theorem dX4_readChange_28 : decode cX4_readChange 28 = .ok (.iload_n 1, 1) := by decide +kernel
theorem dX4_readChange_29 : decode cX4_readChange 29 = .ok (.iaload, 1) := by decide +kernel
theorem dX4_readChange_30 : decode cX4_readChange 30 = .ok (.invokevirtual 116, 3) := by decide +kernel
theorem dX4_readChange_33 : decode cX4_readChange 33 = .ok (.ireturn, 1) := by decide +kernel
theorem dX4_readTarget_0 : decode cX4_readTarget 0 = .ok (.aload_n 0, 1) := by decide +kernel
theorem dX4_readTarget_1 : decode cX4_readTarget 1 = .ok (.getfield 12, 3) := by decide +kernel
theorem dX4_readTarget_4 : decode cX4_readTarget 4 = .ok (.getfield 109, 3) := by decide +kernel
theorem dX4_readTarget_7 : decode cX4_readTarget 7 = .ok (.iload_n 1, 1) := by decide +kernel
theorem dX4_readTarget_8 : decode cX4_readTarget 8 = .ok (.aload_n 0, 1) := by decide +kernel
theorem dX4_readTarget_9 : decode cX4_readTarget 9 = .ok (.getfield 26, 3) := by decide +kernel
theorem dX4_readTarget_12 : decode cX4_readTarget 12 = .ok (.aload_n 0, 1) := by decide +kernel
theorem dX4_readTarget_13 : decode cX4_readTarget 13 = .ok (.getfield 30, 3) := by decide +kernel
theorem dX4_readTarget_16 : decode cX4_readTarget 16 = .ok (.invokevirtual 119, 3) := by decide +kernel
theorem dX4_readTarget_19 : decode cX4_readTarget 19 = .ok (.iastore, 1) := by decide +kernel
theorem dX4_readTarget_20 : decode cX4_readTarget 20 = .ok (.aload_n 0, 1) := by decide +kernel
theorem dX4_readTarget_21 : decode cX4_readTarget 21 = .ok (.aload_n 0, 1) := by decide +kernel
theorem dX4_readTarget_22 : decode cX4_readTarget 22 = .ok (.getfield 12, 3) := by decide +kernel
theorem dX4_readTarget_25 : decode cX4_readTarget 25 = .ok (.getfield 109, 3) := by decide +kernel
theorem dX4_readTarget_28 : decode cX4_readTarget 28 = .ok (.iload_n 1, 1) := by decide +kernel
theorem dX4_readTarget_29 : decode cX4_readTarget 29 = .ok (.iaload, 1) := by decide +kernel
theorem dX4_readTarget_30 : decode cX4_readTarget 30 = .ok (.invokevirtual 116, 3) := by decide +kernel
theorem dX4_readTarget_33 : decode cX4_readTarget 33 = .ok (.ireturn, 1) := by decide +kernel
theorem dX4_readIsland_0 : decode cX4_readIsland 0 = .ok (.aload_n 0, 1) := by decide +kernel
theorem dX4_readIsland_1 : decode cX4_readIsland 1 = .ok (.getfield 12, 3) := by decide +kernel
theorem dX4_readIsland_4 : decode cX4_readIsland 4 = .ok (.getfield 122, 3) := by decide +kernel
theorem dX4_readIsland_7 : decode cX4_readIsland 7 = .ok (.iload_n 1, 1) := by decide +kernel
theorem dX4_readIsland_8 : decode cX4_readIsland 8 = .ok (.aload_n 0, 1) := by decide +kernel
theorem dX4_readIsland_9 : decode cX4_readIsland 9 = .ok (.getfield 26, 3) := by decide +kernel
theorem dX4_readIsland_12 : decode cX4_readIsland 12 = .ok (.aload_n 0, 1) := by decide +kernel
theorem dX4_readIsland_13 : decode cX4_readIsland 13 = .ok (.getfield 30, 3) := by decide +kernel
theorem dX4_readIsland_16 : decode cX4_readIsland 16 = .ok (.invokevirtual 119, 3) := by decide +kernel
theorem dX4_readIsland_19 : decode cX4_readIsland 19 = .ok (.iastore, 1) := by decide +kernel
theorem dX4_readIsland_20 : decode cX4_readIsland 20 = .ok (.aload_n 0, 1) := by decide +kernel
theorem dX4_readIsland_21 : decode cX4_readIsland 21 = .ok (.aload_n 0, 1) := by decide +kernel
theorem dX4_readIsland_22 : decode cX4_readIsland 22 = .ok (.getfield 12, 3) := by decide +kernel
theorem dX4_readIsland_25 : decode cX4_readIsland 25 = .ok (.getfield 122, 3) := by decide +kernel
theorem dX4_readIsland_28 : decode cX4_readIsland 28 = .ok (.iload_n 1, 1) := by decide +kernel
theorem dX4_readIsland_29 : decode cX4_readIsland 29 = .ok (.iaload, 1) := by decide +kernel
theorem dX4_readIsland_30 : decode cX4_readIsland 30 = .ok (.invokevirtual 116, 3) := by decide +kernel
theorem dX4_readIsland_33 : decode cX4_readIsland 33 = .ok (.ireturn, 1) := by decide +kernel
theorem dX4_advanceBehind_0 : decode cX4_advanceBehind 0 = .ok (.iload_n 1, 1) := by decide +kernel
theorem dX4_advanceBehind_1 : decode cX4_advanceBehind 1 = .ok (.iconst (-1), 1) := by decide +kernel
theorem dX4_advanceBehind_2 : decode cX4_advanceBehind 2 = .ok (.if_icmp .ne 5, 3) := by decide +kernel
theorem dX4_advanceBehind_5 : decode cX4_advanceBehind 5 = .ok (.iconst 0, 1) := by decide +kernel
theorem dX4_advanceBehind_6 : decode cX4_advanceBehind 6 = .ok (.ireturn, 1) := by decide +kernel
theorem dX4_advanceBehind_7 : decode cX4_advanceBehind 7 = .ok (.aload_n 0, 1) := by decide +kernel
theorem dX4_advanceBehind_8 : decode cX4_advanceBehind 8 = .ok (.getfield 26, 3) := by decide +kernel
theorem dX4_advanceBehind_11 : decode cX4_advanceBehind 11 = .ok (.invokevirtual 74, 3) := by decide +kernel
theorem dX4_advanceBehind_14 : decode cX4_advanceBehind 14 = .ok (.iconst 1, 1) := by decide +kernel
theorem dX4_advanceBehind_15 : decode cX4_advanceBehind 15 = .ok (.ireturn, 1) := by decide +kernel
theorem dX4_readNumber_0 : decode cX4_readNumber 0 = .ok (.aload_n 0, 1) := by decide +kernel
theorem dX4_readNumber_1 : decode cX4_readNumber 1 = .ok (.getfield 12, 3) := by decide +kernel
theorem dX4_readNumber_4 : decode cX4_readNumber 4 = .ok (.getfield 125, 3) := by decide +kernel
theorem dX4_readNumber_7 : decode cX4_readNumber 7 = .ok (.iload_n 1, 1) := by decide +kernel
theorem dX4_readNumber_8 : decode cX4_readNumber 8 = .ok (.aload_n 0, 1) := by decide +kernel
theorem dX4_readNumber_9 : decode cX4_readNumber 9 = .ok (.getfield 26, 3) := by decide +kernel
theorem dX4_readNumber_12 : decode cX4_readNumber 12 = .ok (.iload_n 2, 1) := by decide +kernel
theorem dX4_readNumber_13 : decode cX4_readNumber 13 = .ok (.iload_n 3, 1) := by decide +kernel
theorem dX4_readNumber_14 : decode cX4_readNumber 14 = .ok (.invokevirtual 128, 3) := by decide +kernel
theorem dX4_readNumber_17 : decode cX4_readNumber 17 = .ok (.iastore, 1) := by decide +kernel
theorem dX4_readNumber_18 : decode cX4_readNumber 18 = .ok (.aload_n 0, 1) := by decide +kernel
theorem dX4_readNumber_19 : decode cX4_readNumber 19 = .ok (.getfield 12, 3) := by decide +kernel
theorem dX4_readNumber_22 : decode cX4_readNumber 22 = .ok (.getfield 125, 3) := by decide +kernel
theorem dX4_readNumber_25 : decode cX4_readNumber 25 = .ok (.iload_n 1, 1) := by decide +kernel
theorem dX4_readNumber_26 : decode cX4_readNumber 26 = .ok (.iaload, 1) := by decide +kernel
theorem dX4_readNumber_27 : decode cX4_readNumber 27 = .ok (.iconst (-1), 1) := by decide +kernel
theorem dX4_readNumber_28 : decode cX4_readNumber 28 = .ok (.if_icmp .eq 7, 3) := by decide +kernel
theorem dX4_readNumber_31 : decode cX4_readNumber 31 = .ok (.iconst 1, 1) := by decide +kernel
theorem dX4_readNumber_32 : decode cX4_readNumber 32 = .ok (.goto 4, 3) := by decide +kernel
theorem dX4_readNumber_35 : decode cX4_readNumber 35 = .ok (.iconst 0, 1) := by decide +kernel
theorem dX4_readNumber_36 : decode cX4_readNumber 36 = .ok (.ireturn, 1) := by decide +kernel
theorem dX5_init_0 : decode cX5_init 0 = .ok (.aload_n 0, 1) := by decide +kernel
theorem dX5_init_1 : decode cX5_init 1 = .ok (.invokespecial 5, 3) := by decide +kernel
theorem dX5_init_4 : decode cX5_init 4 = .ok (.aload_n 0, 1) := by decide +kernel
theorem dX5_init_5 : decode cX5_init 5 = .ok (.new 11, 3) := by decide +kernel
theorem dX5_init_8 : decode cX5_init 8 = .ok (.dup, 1) := by decide +kernel
theorem dX5_init_9 : decode cX5_init 9 = .ok (.invokespecial 13, 3) := by decide +kernel
theorem dX5_init_12 : decode cX5_init 12 = .ok (.putfield 14, 3) := by decide +kernel
theorem dX5_init_15 : decode cX5_init 15 = .ok (.aload_n 0, 1) := by decide +kernel
theorem dX5_init_16 : decode cX5_init 16 = .ok (.iconst 0, 1) := by decide +kernel
theorem dX5_init_17 : decode cX5_init 17 = .ok (.putfield 18, 3) := by decide +kernel
theorem dX5_init_20 : decode cX5_init 20 = .ok (.aload_n 0, 1) := by decide +kernel
theorem dX5_init_21 : decode cX5_init 21 = .ok (.iconst (-1), 1) := by decide +kernel
theorem dX5_init_22 : decode cX5_init 22 = .ok (.putfield 22, 3) := by decide +kernel
theorem dX5_init_25 : decode cX5_init 25 = .ok (.aload_n 0, 1) := by decide +kernel
theorem dX5_init_26 : decode cX5_init 26 = .ok (.iconst (-1), 1) := by decide +kernel
theorem dX5_init_27 : decode cX5_init 27 = .ok (.putfield 25, 3) := by decide +kernel
theorem dX5_init_30 : decode cX5_init 30 = .ok (.aload_n 0, 1) := by decide +kernel
theorem dX5_init_31 : decode cX5_init 31 = .ok (.iconst 0, 1) := by decide +kernel
theorem dX5_init_32 : decode cX5_init 32 = .ok (.putfield 28, 3) := by decide +kernel
theorem dX5_init_35 : decode cX5_init 35 = .ok (.aload_n 0, 1) := by decide +kernel
theorem dX5_init_36 : decode cX5_init 36 = .ok (.iconst 1, 1) := by decide +kernel
theorem dX5_init_37 : decode cX5_init 37 = .ok (.newarray .long, 2) := by decide +kernel
theorem dX5_init_39 : decode cX5_init 39 = .ok (.putfield 31, 3) := by decide +kernel
theorem dX5_init_42 : decode cX5_init 42 = .ok (.return_, 1) := by decide +kernel
theorem dX5_countOrders_0 : decode cX5_countOrders 0 = .ok (.aload_n 0, 1) := by decide +kernel
theorem dX5_countOrders_1 : decode cX5_countOrders 1 = .ok (.aload_n 1, 1) := by decide +kernel
theorem dX5_countOrders_2 : decode cX5_countOrders 2 = .ok (.iload_n 2, 1) := by decide +kernel
theorem dX5_countOrders_3 : decode cX5_countOrders 3 = .ok (.iconst (-1), 1) := by decide +kernel
theorem dX5_countOrders_4 : decode cX5_countOrders 4 = .ok (.iconst (-1), 1) := by decide +kernel
theorem dX5_countOrders_5 : decode cX5_countOrders 5 = .ok (.invokevirtual 35, 3) := by decide +kernel
theorem dX5_countOrders_8 : decode cX5_countOrders 8 = .ok (.lreturn, 1) := by decide +kernel
theorem dX5_countOrdersWith_0 : decode cX5_countOrdersWith 0 = .ok (.aload_n 0, 1) := by decide +kernel
theorem dX5_countOrdersWith_1 : decode cX5_countOrdersWith 1 = .ok (.aload_n 1, 1) := by decide +kernel
theorem dX5_countOrdersWith_2 : decode cX5_countOrdersWith 2 = .ok (.putfield 14, 3) := by decide +kernel
theorem dX5_countOrdersWith_5 : decode cX5_countOrdersWith 5 = .ok (.aload_n 0, 1) := by decide +kernel
theorem dX5_countOrdersWith_6 : decode cX5_countOrdersWith 6 = .ok (.iload_n 2, 1) := by decide +kernel
theorem dX5_countOrdersWith_7 : decode cX5_countOrdersWith 7 = .ok (.putfield 18, 3) := by decide +kernel
theorem dX5_countOrdersWith_10 : decode cX5_countOrdersWith 10 = .ok (.aload_n 0, 1) := by decide +kernel
theorem dX5_countOrdersWith_11 : decode cX5_countOrdersWith 11 = .ok (.iload_n 3, 1) := by decide +kernel
theorem dX5_countOrdersWith_12 : decode cX5_countOrdersWith 12 = .ok (.putfield 22, 3) := by decide +kernel
theorem dX5_countOrdersWith_15 : decode cX5_countOrdersWith 15 = .ok (.aload_n 0, 1) := by decide +kernel
theorem dX5_countOrdersWith_16 : decode cX5_countOrdersWith 16 = .ok (.iload 4, 2) := by decide +kernel
theorem dX5_countOrdersWith_18 : decode cX5_countOrdersWith 18 = .ok (.putfield 25, 3) := by decide +kernel
theorem dX5_countOrdersWith_21 : decode cX5_countOrdersWith 21 = .ok (.aload_n 0, 1) := by decide +kernel
theorem dX5_countOrdersWith_22 : decode cX5_countOrdersWith 22 = .ok (.dup, 1) := by decide +kernel
theorem dX5_countOrdersWith_23 : decode cX5_countOrdersWith 23 = .ok (.getfield 28, 3) := by decide +kernel
theorem dX5_countOrdersWith_26 : decode cX5_countOrdersWith 26 = .ok (.iconst 1, 1) := by decide +kernel
theorem dX5_countOrdersWith_27 : decode cX5_countOrdersWith 27 = .ok (.iadd, 1) := by decide +kernel
theorem dX5_countOrdersWith_28 : decode cX5_countOrdersWith 28 = .ok (.putfield 28, 3) := by decide +kernel
theorem dX5_countOrdersWith_31 : decode cX5_countOrdersWith 31 = .ok (.aload_n 0, 1) := by decide +kernel
theorem dX5_countOrdersWith_32 : decode cX5_countOrdersWith 32 = .ok (.getfield 18, 3) := by decide +kernel
theorem dX5_countOrdersWith_35 : decode cX5_countOrdersWith 35 = .ok (.aload_n 0, 1) := by decide +kernel
theorem dX5_countOrdersWith_36 : decode cX5_countOrdersWith 36 = .ok (.getfield 31, 3) := by decide +kernel
theorem dX5_countOrdersWith_39 : decode cX5_countOrdersWith 39 = .ok (.arraylength, 1) := by decide +kernel
theorem dX5_countOrdersWith_40 : decode cX5_countOrdersWith 40 = .ok (.if_icmp .ge 12, 3) := by decide +kernel
theorem dX5_countOrdersWith_43 : decode cX5_countOrdersWith 43 = .ok (.aload_n 0, 1) := by decide +kernel
theorem dX5_countOrdersWith_44 : decode cX5_countOrdersWith 44 = .ok (.getfield 28, 3) := by decide +kernel
theorem dX5_countOrdersWith_47 : decode cX5_countOrdersWith 47 = .ok (.ldc 39, 2) := by decide +kernel
theorem dX5_countOrdersWith_49 : decode cX5_countOrdersWith 49 = .ok (.if_icmp .lt 20, 3) := by decide +kernel
theorem dX5_countOrdersWith_52 : decode cX5_countOrdersWith 52 = .ok (.aload_n 0, 1) := by decide +kernel
theorem dX5_countOrdersWith_53 : decode cX5_countOrdersWith 53 = .ok (.iconst 1, 1) := by decide +kernel
theorem dX5_countOrdersWith_54 : decode cX5_countOrdersWith 54 = .ok (.aload_n 1, 1) := by decide +kernel
theorem dX5_countOrdersWith_55 : decode cX5_countOrdersWith 55 = .ok (.getfield 40, 3) := by decide +kernel
theorem dX5_countOrdersWith_58 : decode cX5_countOrdersWith 58 = .ok (.ishl, 1) := by decide +kernel
theorem dX5_countOrdersWith_59 : decode cX5_countOrdersWith 59 = .ok (.newarray .long, 2) := by decide +kernel
theorem dX5_countOrdersWith_61 : decode cX5_countOrdersWith 61 = .ok (.putfield 31, 3) := by decide +kernel
theorem dX5_countOrdersWith_64 : decode cX5_countOrdersWith 64 = .ok (.aload_n 0, 1) := by decide +kernel
theorem dX5_countOrdersWith_65 : decode cX5_countOrdersWith 65 = .ok (.iconst 1, 1) := by decide +kernel
theorem dX5_countOrdersWith_66 : decode cX5_countOrdersWith 66 = .ok (.putfield 28, 3) := by decide +kernel
theorem dX5_countOrdersWith_69 : decode cX5_countOrdersWith 69 = .ok (.aload_n 0, 1) := by decide +kernel
theorem dX5_countOrdersWith_70 : decode cX5_countOrdersWith 70 = .ok (.iconst 0, 1) := by decide +kernel
theorem dX5_countOrdersWith_71 : decode cX5_countOrdersWith 71 = .ok (.iconst 0, 1) := by decide +kernel
theorem dX5_countOrdersWith_72 : decode cX5_countOrdersWith 72 = .ok (.invokevirtual 43, 3) := by decide +kernel
theorem dX5_countOrdersWith_75 : decode cX5_countOrdersWith 75 = .ok (.lreturn, 1) := by decide +kernel
theorem dX5_isReady_0 : decode cX5_isReady 0 = .ok (.aload_n 0, 1) := by decide +kernel
theorem dX5_isReady_1 : decode cX5_isReady 1 = .ok (.getfield 14, 3) := by decide +kernel
theorem dX5_isReady_4 : decode cX5_isReady 4 = .ok (.getfield 47, 3) := by decide +kernel
theorem dX5_isReady_7 : decode cX5_isReady 7 = .ok (.iload_n 1, 1) := by decide +kernel
theorem dX5_isReady_8 : decode cX5_isReady 8 = .ok (.iaload, 1) := by decide +kernel
theorem dX5_isReady_9 : decode cX5_isReady 9 = .ok (.istore_n 3, 1) := by decide +kernel
theorem dX5_isReady_10 : decode cX5_isReady 10 = .ok (.iload_n 1, 1) := by decide +kernel
theorem dX5_isReady_11 : decode cX5_isReady 11 = .ok (.aload_n 0, 1) := by decide +kernel
theorem dX5_isReady_12 : decode cX5_isReady 12 = .ok (.getfield 25, 3) := by decide +kernel
theorem dX5_isReady_15 : decode cX5_isReady 15 = .ok (.if_icmp .ne 12, 3) := by decide +kernel
theorem dX5_isReady_18 : decode cX5_isReady 18 = .ok (.iload_n 3, 1) := by decide +kernel
theorem dX5_isReady_19 : decode cX5_isReady 19 = .ok (.iconst 1, 1) := by decide +kernel
theorem dX5_isReady_20 : decode cX5_isReady 20 = .ok (.aload_n 0, 1) := by decide +kernel
theorem dX5_isReady_21 : decode cX5_isReady 21 = .ok (.getfield 22, 3) := by decide +kernel
theorem dX5_isReady_24 : decode cX5_isReady 24 = .ok (.ishl, 1) := by decide +kernel
theorem dX5_isReady_25 : decode cX5_isReady 25 = .ok (.ior, 1) := by decide +kernel
theorem dX5_isReady_26 : decode cX5_isReady 26 = .ok (.istore_n 3, 1) := by decide +kernel
theorem dX5_isReady_27 : decode cX5_isReady 27 = .ok (.iload_n 3, 1) := by decide +kernel
theorem dX5_isReady_28 : decode cX5_isReady 28 = .ok (.iload_n 2, 1) := by decide +kernel
theorem dX5_isReady_29 : decode cX5_isReady 29 = .ok (.iconst (-1), 1) := by decide +kernel
theorem dX5_isReady_30 : decode cX5_isReady 30 = .ok (.ixor, 1) := by decide +kernel
theorem dX5_isReady_31 : decode cX5_isReady 31 = .ok (.iand, 1) := by decide +kernel
theorem dX5_isReady_32 : decode cX5_isReady 32 = .ok (.ifCond .ne 7, 3) := by decide +kernel
theorem dX5_isReady_35 : decode cX5_isReady 35 = .ok (.iconst 1, 1) := by decide +kernel
theorem dX5_isReady_36 : decode cX5_isReady 36 = .ok (.goto 4, 3) := by decide +kernel
theorem dX5_isReady_39 : decode cX5_isReady 39 = .ok (.iconst 0, 1) := by decide +kernel
theorem dX5_isReady_40 : decode cX5_isReady 40 = .ok (.ireturn, 1) := by decide +kernel
theorem dX5_isAwaited_0 : decode cX5_isAwaited 0 = .ok (.aload_n 0, 1) := by decide +kernel
theorem dX5_isAwaited_1 : decode cX5_isAwaited 1 = .ok (.getfield 14, 3) := by decide +kernel
theorem dX5_isAwaited_4 : decode cX5_isAwaited 4 = .ok (.getfield 51, 3) := by decide +kernel
theorem dX5_isAwaited_7 : decode cX5_isAwaited 7 = .ok (.iload_n 1, 1) := by decide +kernel
theorem dX5_isAwaited_8 : decode cX5_isAwaited 8 = .ok (.iaload, 1) := by decide +kernel
theorem dX5_isAwaited_9 : decode cX5_isAwaited 9 = .ok (.iload_n 2, 1) := by decide +kernel
theorem dX5_isAwaited_10 : decode cX5_isAwaited 10 = .ok (.iand, 1) := by decide +kernel
theorem dX5_isAwaited_11 : decode cX5_isAwaited 11 = .ok (.ifCond .ne 22, 3) := by decide +kernel
theorem dX5_isAwaited_14 : decode cX5_isAwaited 14 = .ok (.iload_n 1, 1) := by decide +kernel
theorem dX5_isAwaited_15 : decode cX5_isAwaited 15 = .ok (.aload_n 0, 1) := by decide +kernel
theorem dX5_isAwaited_16 : decode cX5_isAwaited 16 = .ok (.getfield 22, 3) := by decide +kernel
theorem dX5_isAwaited_19 : decode cX5_isAwaited 19 = .ok (.if_icmp .ne 18, 3) := by decide +kernel
theorem dX5_isAwaited_22 : decode cX5_isAwaited 22 = .ok (.iload_n 2, 1) := by decide +kernel
theorem dX5_isAwaited_23 : decode cX5_isAwaited 23 = .ok (.aload_n 0, 1) := by decide +kernel
theorem dX5_isAwaited_24 : decode cX5_isAwaited 24 = .ok (.getfield 25, 3) := by decide +kernel
theorem dX5_isAwaited_27 : decode cX5_isAwaited 27 = .ok (.invokestatic 54, 3) := by decide +kernel
theorem dX5_isAwaited_30 : decode cX5_isAwaited 30 = .ok (.ifCond .eq 7, 3) := by decide +kernel
theorem dX5_isAwaited_33 : decode cX5_isAwaited 33 = .ok (.iconst 1, 1) := by decide +kernel
theorem dX5_isAwaited_34 : decode cX5_isAwaited 34 = .ok (.goto 4, 3) := by decide +kernel
theorem dX5_isAwaited_37 : decode cX5_isAwaited 37 = .ok (.iconst 0, 1) := by decide +kernel
theorem dX5_isAwaited_38 : decode cX5_isAwaited 38 = .ok (.ireturn, 1) := by decide +kernel
theorem dX5_waysBehind_0 : decode cX5_waysBehind 0 = .ok (.iload_n 1, 1) := by decide +kernel
theorem dX5_waysBehind_1 : decode cX5_waysBehind 1 = .ok (.aload_n 0, 1) := by decide +kernel
theorem dX5_waysBehind_2 : decode cX5_waysBehind 2 = .ok (.getfield 18, 3) := by decide +kernel
theorem dX5_waysBehind_5 : decode cX5_waysBehind 5 = .ok (.if_icmp .ne 5, 3) := by decide +kernel
theorem dX5_waysBehind_8 : decode cX5_waysBehind 8 = .ok (.lconst 1, 1) := by decide +kernel
theorem dX5_waysBehind_9 : decode cX5_waysBehind 9 = .ok (.lreturn, 1) := by decide +kernel
theorem dX5_waysBehind_10 : decode cX5_waysBehind 10 = .ok (.iload_n 2, 1) := by decide +kernel
theorem dX5_waysBehind_11 : decode cX5_waysBehind 11 = .ok (.bipush 16, 2) := by decide +kernel
theorem dX5_waysBehind_13 : decode cX5_waysBehind 13 = .ok (.if_icmp .gt 16, 3) := by decide +kernel
theorem dX5_waysBehind_16 : decode cX5_waysBehind 16 = .ok (.iload_n 1, 1) := by decide +kernel
theorem dX5_waysBehind_17 : decode cX5_waysBehind 17 = .ok (.ifCond .lt 12, 3) := by decide +kernel
theorem dX5_waysBehind_20 : decode cX5_waysBehind 20 = .ok (.iload_n 1, 1) := by decide +kernel
theorem dX5_waysBehind_21 : decode cX5_waysBehind 21 = .ok (.aload_n 0, 1) := by decide +kernel
theorem dX5_waysBehind_22 : decode cX5_waysBehind 22 = .ok (.getfield 31, 3) := by decide +kernel
theorem dX5_waysBehind_25 : decode cX5_waysBehind 25 = .ok (.arraylength, 1) := by decide +kernel
theorem dX5_waysBehind_26 : decode cX5_waysBehind 26 = .ok (.if_icmp .lt 5, 3) := by decide +kernel
theorem dX5_waysBehind_29 : decode cX5_waysBehind 29 = .ok (.lconst 0, 1) := by decide +kernel
theorem dX5_waysBehind_30 : decode cX5_waysBehind 30 = .ok (.lreturn, 1) := by decide +kernel
theorem dX5_waysBehind_31 : decode cX5_waysBehind 31 = .ok (.aload_n 0, 1) := by decide +kernel
theorem dX5_waysBehind_32 : decode cX5_waysBehind 32 = .ok (.getfield 31, 3) := by decide +kernel
theorem dX5_waysBehind_35 : decode cX5_waysBehind 35 = .ok (.iload_n 1, 1) := by decide +kernel
theorem dX5_waysBehind_36 : decode cX5_waysBehind 36 = .ok (.laload, 1) := by decide +kernel
theorem dX5_waysBehind_37 : decode cX5_waysBehind 37 = .ok (.bipush 45, 2) := by decide +kernel
theorem dX5_waysBehind_39 : decode cX5_waysBehind 39 = .ok (.lshr, 1) := by decide +kernel
theorem dX5_waysBehind_40 : decode cX5_waysBehind 40 = .ok (.aload_n 0, 1) := by decide +kernel
theorem dX5_waysBehind_41 : decode cX5_waysBehind 41 = .ok (.getfield 28, 3) := by decide +kernel
theorem dX5_waysBehind_44 : decode cX5_waysBehind 44 = .ok (.i2l, 1) := by decide +kernel
theorem dX5_waysBehind_45 : decode cX5_waysBehind 45 = .ok (.lcmp, 1) := by decide +kernel
theorem dX5_waysBehind_46 : decode cX5_waysBehind 46 = .ok (.ifCond .ne 14, 3) := by decide +kernel
theorem dX5_waysBehind_49 : decode cX5_waysBehind 49 = .ok (.aload_n 0, 1) := by decide +kernel
theorem dX5_waysBehind_50 : decode cX5_waysBehind 50 = .ok (.getfield 31, 3) := by decide +kernel
theorem dX5_waysBehind_53 : decode cX5_waysBehind 53 = .ok (.iload_n 1, 1) := by decide +kernel
theorem dX5_waysBehind_54 : decode cX5_waysBehind 54 = .ok (.laload, 1) := by decide +kernel
theorem dX5_waysBehind_55 : decode cX5_waysBehind 55 = .ok (.ldc2_w 58, 3) := by decide +kernel
theorem dX5_waysBehind_58 : decode cX5_waysBehind 58 = .ok (.land, 1) := by decide +kernel
theorem dX5_waysBehind_59 : decode cX5_waysBehind 59 = .ok (.lreturn, 1) := by decide +kernel
theorem dX5_waysBehind_60 : decode cX5_waysBehind 60 = .ok (.aload_n 0, 1) := by decide +kernel
theorem dX5_waysBehind_61 : decode cX5_waysBehind 61 = .ok (.iload_n 1, 1) := by decide +kernel
theorem dX5_waysBehind_62 : decode cX5_waysBehind 62 = .ok (.invokevirtual 60, 3) := by decide +kernel
theorem dX5_waysBehind_65 : decode cX5_waysBehind 65 = .ok (.istore_n 3, 1) := by decide +kernel
theorem dX5_waysBehind_66 : decode cX5_waysBehind 66 = .ok (.aload_n 0, 1) := by decide +kernel
theorem dX5_waysBehind_67 : decode cX5_waysBehind 67 = .ok (.iload_n 3, 1) := by decide +kernel
theorem dX5_waysBehind_68 : decode cX5_waysBehind 68 = .ok (.aload_n 0, 1) := by decide +kernel
theorem dX5_waysBehind_69 : decode cX5_waysBehind 69 = .ok (.getfield 18, 3) := by decide +kernel
theorem dX5_waysBehind_72 : decode cX5_waysBehind 72 = .ok (.iload_n 1, 1) := by decide +kernel
theorem dX5_waysBehind_73 : decode cX5_waysBehind 73 = .ok (.iconst (-1), 1) := by decide +kernel
theorem dX5_waysBehind_74 : decode cX5_waysBehind 74 = .ok (.ixor, 1) := by decide +kernel
theorem dX5_waysBehind_75 : decode cX5_waysBehind 75 = .ok (.iand, 1) := by decide +kernel
theorem dX5_waysBehind_76 : decode cX5_waysBehind 76 = .ok (.invokevirtual 64, 3) := by decide +kernel
theorem dX5_waysBehind_79 : decode cX5_waysBehind 79 = .ok (.istore 4, 2) := by decide +kernel
theorem dX5_waysBehind_81 : decode cX5_waysBehind 81 = .ok (.iload 4, 2) := by decide +kernel
theorem dX5_waysBehind_83 : decode cX5_waysBehind 83 = .ok (.ifCond .eq 43, 3) := by decide +kernel
theorem dX5_waysBehind_86 : decode cX5_waysBehind 86 = .ok (.aload_n 0, 1) := by decide +kernel
theorem dX5_waysBehind_87 : decode cX5_waysBehind 87 = .ok (.getfield 18, 3) := by decide +kernel
theorem dX5_waysBehind_90 : decode cX5_waysBehind 90 = .ok (.iload_n 1, 1) := by decide +kernel
theorem dX5_waysBehind_91 : decode cX5_waysBehind 91 = .ok (.iconst (-1), 1) := by decide +kernel
theorem dX5_waysBehind_92 : decode cX5_waysBehind 92 = .ok (.ixor, 1) := by decide +kernel
theorem dX5_waysBehind_93 : decode cX5_waysBehind 93 = .ok (.iand, 1) := by decide +kernel
theorem dX5_waysBehind_94 : decode cX5_waysBehind 94 = .ok (.invokestatic 68, 3) := by decide +kernel
theorem dX5_waysBehind_97 : decode cX5_waysBehind 97 = .ok (.istore 7, 2) := by decide +kernel
theorem dX5_waysBehind_99 : decode cX5_waysBehind 99 = .ok (.aload_n 0, 1) := by decide +kernel
theorem dX5_waysBehind_100 : decode cX5_waysBehind 100 = .ok (.iload_n 1, 1) := by decide +kernel
theorem dX5_waysBehind_101 : decode cX5_waysBehind 101 = .ok (.iload 4, 2) := by decide +kernel
theorem dX5_waysBehind_103 : decode cX5_waysBehind 103 = .ok (.ior, 1) := by decide +kernel
theorem dX5_waysBehind_104 : decode cX5_waysBehind 104 = .ok (.iload_n 2, 1) := by decide +kernel
theorem dX5_waysBehind_105 : decode cX5_waysBehind 105 = .ok (.iconst 1, 1) := by decide +kernel
theorem dX5_waysBehind_106 : decode cX5_waysBehind 106 = .ok (.iadd, 1) := by decide +kernel
theorem dX5_waysBehind_107 : decode cX5_waysBehind 107 = .ok (.invokevirtual 43, 3) := by decide +kernel
theorem dX5_waysBehind_110 : decode cX5_waysBehind 110 = .ok (.iload 7, 2) := by decide +kernel
theorem dX5_waysBehind_112 : decode cX5_waysBehind 112 = .ok (.iload 4, 2) := by decide +kernel
theorem dX5_waysBehind_114 : decode cX5_waysBehind 114 = .ok (.invokestatic 68, 3) := by decide +kernel
theorem dX5_waysBehind_117 : decode cX5_waysBehind 117 = .ok (.invokestatic 73, 3) := by decide +kernel
theorem dX5_waysBehind_120 : decode cX5_waysBehind 120 = .ok (.lmul, 1) := by decide +kernel
theorem dX5_waysBehind_121 : decode cX5_waysBehind 121 = .ok (.lstore 5, 2) := by decide +kernel
theorem dX5_waysBehind_123 : decode cX5_waysBehind 123 = .ok (.goto 12, 3) := by decide +kernel
theorem dX5_waysBehind_126 : decode cX5_waysBehind 126 = .ok (.aload_n 0, 1) := by decide +kernel
theorem dX5_waysBehind_127 : decode cX5_waysBehind 127 = .ok (.iload_n 3, 1) := by decide +kernel
theorem dX5_waysBehind_128 : decode cX5_waysBehind 128 = .ok (.iload_n 1, 1) := by decide +kernel
theorem dX5_waysBehind_129 : decode cX5_waysBehind 129 = .ok (.iload_n 2, 1) := by decide +kernel
theorem dX5_waysBehind_130 : decode cX5_waysBehind 130 = .ok (.invokevirtual 76, 3) := by decide +kernel
theorem dX5_waysBehind_133 : decode cX5_waysBehind 133 = .ok (.lstore 5, 2) := by decide +kernel
theorem dX5_waysBehind_135 : decode cX5_waysBehind 135 = .ok (.aload_n 0, 1) := by decide +kernel
theorem dX5_waysBehind_136 : decode cX5_waysBehind 136 = .ok (.getfield 31, 3) := by decide +kernel
theorem dX5_waysBehind_139 : decode cX5_waysBehind 139 = .ok (.iload_n 1, 1) := by decide +kernel
theorem dX5_waysBehind_140 : decode cX5_waysBehind 140 = .ok (.aload_n 0, 1) := by decide +kernel
theorem dX5_waysBehind_141 : decode cX5_waysBehind 141 = .ok (.getfield 28, 3) := by decide +kernel
theorem dX5_waysBehind_144 : decode cX5_waysBehind 144 = .ok (.i2l, 1) := by decide +kernel
theorem dX5_waysBehind_145 : decode cX5_waysBehind 145 = .ok (.bipush 45, 2) := by decide +kernel
theorem dX5_waysBehind_147 : decode cX5_waysBehind 147 = .ok (.lshl, 1) := by decide +kernel
theorem dX5_waysBehind_148 : decode cX5_waysBehind 148 = .ok (.lload 5, 2) := by decide +kernel
theorem dX5_waysBehind_150 : decode cX5_waysBehind 150 = .ok (.lor, 1) := by decide +kernel
theorem dX5_waysBehind_151 : decode cX5_waysBehind 151 = .ok (.lastore, 1) := by decide +kernel
theorem dX5_waysBehind_152 : decode cX5_waysBehind 152 = .ok (.lload 5, 2) := by decide +kernel
theorem dX5_waysBehind_154 : decode cX5_waysBehind 154 = .ok (.lreturn, 1) := by decide +kernel
theorem dX5_sumOver_0 : decode cX5_sumOver 0 = .ok (.lconst 0, 1) := by decide +kernel
theorem dX5_sumOver_1 : decode cX5_sumOver 1 = .ok (.lstore 4, 2) := by decide +kernel
theorem dX5_sumOver_3 : decode cX5_sumOver 3 = .ok (.iconst 0, 1) := by decide +kernel
theorem dX5_sumOver_4 : decode cX5_sumOver 4 = .ok (.istore 6, 2) := by decide +kernel
theorem dX5_sumOver_6 : decode cX5_sumOver 6 = .ok (.iload 6, 2) := by decide +kernel
theorem dX5_sumOver_8 : decode cX5_sumOver 8 = .ok (.aload_n 0, 1) := by decide +kernel
theorem dX5_sumOver_9 : decode cX5_sumOver 9 = .ok (.getfield 14, 3) := by decide +kernel
theorem dX5_sumOver_12 : decode cX5_sumOver 12 = .ok (.getfield 40, 3) := by decide +kernel
theorem dX5_sumOver_15 : decode cX5_sumOver 15 = .ok (.if_icmp .ge 36, 3) := by decide +kernel
theorem dX5_sumOver_18 : decode cX5_sumOver 18 = .ok (.iload_n 1, 1) := by decide +kernel
theorem dX5_sumOver_19 : decode cX5_sumOver 19 = .ok (.iload 6, 2) := by decide +kernel
theorem dX5_sumOver_21 : decode cX5_sumOver 21 = .ok (.invokestatic 54, 3) := by decide +kernel
theorem dX5_sumOver_24 : decode cX5_sumOver 24 = .ok (.ifCond .eq 21, 3) := by decide +kernel
theorem dX5_sumOver_27 : decode cX5_sumOver 27 = .ok (.lload 4, 2) := by decide +kernel
theorem dX5_sumOver_29 : decode cX5_sumOver 29 = .ok (.aload_n 0, 1) := by decide +kernel
theorem dX5_sumOver_30 : decode cX5_sumOver 30 = .ok (.iload_n 2, 1) := by decide +kernel
theorem dX5_sumOver_31 : decode cX5_sumOver 31 = .ok (.iconst 1, 1) := by decide +kernel
theorem dX5_sumOver_32 : decode cX5_sumOver 32 = .ok (.iload 6, 2) := by decide +kernel
theorem dX5_sumOver_34 : decode cX5_sumOver 34 = .ok (.ishl, 1) := by decide +kernel
theorem dX5_sumOver_35 : decode cX5_sumOver 35 = .ok (.ior, 1) := by decide +kernel
theorem dX5_sumOver_36 : decode cX5_sumOver 36 = .ok (.iload_n 3, 1) := by decide +kernel
theorem dX5_sumOver_37 : decode cX5_sumOver 37 = .ok (.iconst 1, 1) := by decide +kernel
theorem dX5_sumOver_38 : decode cX5_sumOver 38 = .ok (.iadd, 1) := by decide +kernel
theorem dX5_sumOver_39 : decode cX5_sumOver 39 = .ok (.invokevirtual 43, 3) := by decide +kernel
theorem dX5_sumOver_42 : decode cX5_sumOver 42 = .ok (.ladd, 1) := by decide +kernel
theorem dX5_sumOver_43 : decode cX5_sumOver 43 = .ok (.lstore 4, 2) := by decide +kernel
theorem dX5_sumOver_45 : decode cX5_sumOver 45 = .ok (.iinc 6 1, 3) := by decide +kernel
theorem dX5_sumOver_48 : decode cX5_sumOver 48 = .ok (.goto (-42), 3) := by decide +kernel
theorem dX5_sumOver_51 : decode cX5_sumOver 51 = .ok (.lload 4, 2) := by decide +kernel
theorem dX5_sumOver_53 : decode cX5_sumOver 53 = .ok (.lreturn, 1) := by decide +kernel
theorem dX5_readyOnes_0 : decode cX5_readyOnes 0 = .ok (.iconst 0, 1) := by decide +kernel
theorem dX5_readyOnes_1 : decode cX5_readyOnes 1 = .ok (.istore_n 2, 1) := by decide +kernel
theorem dX5_readyOnes_2 : decode cX5_readyOnes 2 = .ok (.iconst 0, 1) := by decide +kernel
theorem dX5_readyOnes_3 : decode cX5_readyOnes 3 = .ok (.istore_n 3, 1) := by decide +kernel
theorem dX5_readyOnes_4 : decode cX5_readyOnes 4 = .ok (.iload_n 3, 1) := by decide +kernel
theorem dX5_readyOnes_5 : decode cX5_readyOnes 5 = .ok (.aload_n 0, 1) := by decide +kernel
theorem dX5_readyOnes_6 : decode cX5_readyOnes 6 = .ok (.getfield 14, 3) := by decide +kernel
theorem dX5_readyOnes_9 : decode cX5_readyOnes 9 = .ok (.getfield 40, 3) := by decide +kernel
theorem dX5_readyOnes_12 : decode cX5_readyOnes 12 = .ok (.if_icmp .ge 39, 3) := by decide +kernel
theorem dX5_readyOnes_15 : decode cX5_readyOnes 15 = .ok (.aload_n 0, 1) := by decide +kernel
theorem dX5_readyOnes_16 : decode cX5_readyOnes 16 = .ok (.getfield 18, 3) := by decide +kernel
theorem dX5_readyOnes_19 : decode cX5_readyOnes 19 = .ok (.iload_n 1, 1) := by decide +kernel
theorem dX5_readyOnes_20 : decode cX5_readyOnes 20 = .ok (.iconst (-1), 1) := by decide +kernel
theorem dX5_readyOnes_21 : decode cX5_readyOnes 21 = .ok (.ixor, 1) := by decide +kernel
theorem dX5_readyOnes_22 : decode cX5_readyOnes 22 = .ok (.iand, 1) := by decide +kernel
theorem dX5_readyOnes_23 : decode cX5_readyOnes 23 = .ok (.iload_n 3, 1) := by decide +kernel
theorem dX5_readyOnes_24 : decode cX5_readyOnes 24 = .ok (.invokestatic 54, 3) := by decide +kernel
theorem dX5_readyOnes_27 : decode cX5_readyOnes 27 = .ok (.ifCond .eq 18, 3) := by decide +kernel
theorem dX5_readyOnes_30 : decode cX5_readyOnes 30 = .ok (.aload_n 0, 1) := by decide +kernel
theorem dX5_readyOnes_31 : decode cX5_readyOnes 31 = .ok (.iload_n 3, 1) := by decide +kernel
theorem dX5_readyOnes_32 : decode cX5_readyOnes 32 = .ok (.iload_n 1, 1) := by decide +kernel
theorem dX5_readyOnes_33 : decode cX5_readyOnes 33 = .ok (.invokevirtual 80, 3) := by decide +kernel
theorem dX5_readyOnes_36 : decode cX5_readyOnes 36 = .ok (.ifCond .eq 9, 3) := by decide +kernel
theorem dX5_readyOnes_39 : decode cX5_readyOnes 39 = .ok (.iload_n 2, 1) := by decide +kernel
theorem dX5_readyOnes_40 : decode cX5_readyOnes 40 = .ok (.iconst 1, 1) := by decide +kernel
theorem dX5_readyOnes_41 : decode cX5_readyOnes 41 = .ok (.iload_n 3, 1) := by decide +kernel
theorem dX5_readyOnes_42 : decode cX5_readyOnes 42 = .ok (.ishl, 1) := by decide +kernel
theorem dX5_readyOnes_43 : decode cX5_readyOnes 43 = .ok (.ior, 1) := by decide +kernel
theorem dX5_readyOnes_44 : decode cX5_readyOnes 44 = .ok (.istore_n 2, 1) := by decide +kernel
theorem dX5_readyOnes_45 : decode cX5_readyOnes 45 = .ok (.iinc 3 1, 3) := by decide +kernel
theorem dX5_readyOnes_48 : decode cX5_readyOnes 48 = .ok (.goto (-44), 3) := by decide +kernel
theorem dX5_readyOnes_51 : decode cX5_readyOnes 51 = .ok (.iload_n 2, 1) := by decide +kernel
theorem dX5_readyOnes_52 : decode cX5_readyOnes 52 = .ok (.ireturn, 1) := by decide +kernel
theorem dX5_freeAmong_0 : decode cX5_freeAmong 0 = .ok (.iconst 0, 1) := by decide +kernel
theorem dX5_freeAmong_1 : decode cX5_freeAmong 1 = .ok (.istore_n 3, 1) := by decide +kernel
theorem dX5_freeAmong_2 : decode cX5_freeAmong 2 = .ok (.iconst 0, 1) := by decide +kernel
theorem dX5_freeAmong_3 : decode cX5_freeAmong 3 = .ok (.istore 4, 2) := by decide +kernel
theorem dX5_freeAmong_5 : decode cX5_freeAmong 5 = .ok (.iload 4, 2) := by decide +kernel
theorem dX5_freeAmong_7 : decode cX5_freeAmong 7 = .ok (.aload_n 0, 1) := by decide +kernel
theorem dX5_freeAmong_8 : decode cX5_freeAmong 8 = .ok (.getfield 14, 3) := by decide +kernel
theorem dX5_freeAmong_11 : decode cX5_freeAmong 11 = .ok (.getfield 40, 3) := by decide +kernel
theorem dX5_freeAmong_14 : decode cX5_freeAmong 14 = .ok (.if_icmp .ge 35, 3) := by decide +kernel
theorem dX5_freeAmong_17 : decode cX5_freeAmong 17 = .ok (.iload_n 1, 1) := by decide +kernel
theorem dX5_freeAmong_18 : decode cX5_freeAmong 18 = .ok (.iload 4, 2) := by decide +kernel
theorem dX5_freeAmong_20 : decode cX5_freeAmong 20 = .ok (.invokestatic 54, 3) := by decide +kernel
theorem dX5_freeAmong_23 : decode cX5_freeAmong 23 = .ok (.ifCond .eq 20, 3) := by decide +kernel
theorem dX5_freeAmong_26 : decode cX5_freeAmong 26 = .ok (.aload_n 0, 1) := by decide +kernel
theorem dX5_freeAmong_27 : decode cX5_freeAmong 27 = .ok (.iload 4, 2) := by decide +kernel
theorem dX5_freeAmong_29 : decode cX5_freeAmong 29 = .ok (.iload_n 2, 1) := by decide +kernel
theorem dX5_freeAmong_30 : decode cX5_freeAmong 30 = .ok (.invokevirtual 83, 3) := by decide +kernel
theorem dX5_freeAmong_33 : decode cX5_freeAmong 33 = .ok (.ifCond .ne 10, 3) := by decide +kernel
theorem dX5_freeAmong_36 : decode cX5_freeAmong 36 = .ok (.iload_n 3, 1) := by decide +kernel
theorem dX5_freeAmong_37 : decode cX5_freeAmong 37 = .ok (.iconst 1, 1) := by decide +kernel
theorem dX5_freeAmong_38 : decode cX5_freeAmong 38 = .ok (.iload 4, 2) := by decide +kernel
theorem dX5_freeAmong_40 : decode cX5_freeAmong 40 = .ok (.ishl, 1) := by decide +kernel
theorem dX5_freeAmong_41 : decode cX5_freeAmong 41 = .ok (.ior, 1) := by decide +kernel
theorem dX5_freeAmong_42 : decode cX5_freeAmong 42 = .ok (.istore_n 3, 1) := by decide +kernel
theorem dX5_freeAmong_43 : decode cX5_freeAmong 43 = .ok (.iinc 4 1, 3) := by decide +kernel
theorem dX5_freeAmong_46 : decode cX5_freeAmong 46 = .ok (.goto (-41), 3) := by decide +kernel
theorem dX5_freeAmong_49 : decode cX5_freeAmong 49 = .ok (.iload_n 3, 1) := by decide +kernel
theorem dX5_freeAmong_50 : decode cX5_freeAmong 50 = .ok (.ireturn, 1) := by decide +kernel
theorem dX5_places_0 : decode cX5_places 0 = .ok (.lconst 1, 1) := by decide +kernel
theorem dX5_places_1 : decode cX5_places 1 = .ok (.lstore_n 2, 1) := by decide +kernel
theorem dX5_places_2 : decode cX5_places 2 = .ok (.iconst 0, 1) := by decide +kernel
theorem dX5_places_3 : decode cX5_places 3 = .ok (.istore 4, 2) := by decide +kernel
theorem dX5_places_5 : decode cX5_places 5 = .ok (.iload 4, 2) := by decide +kernel
theorem dX5_places_7 : decode cX5_places 7 = .ok (.iload_n 1, 1) := by decide +kernel
theorem dX5_places_8 : decode cX5_places 8 = .ok (.if_icmp .ge 17, 3) := by decide +kernel
theorem dX5_places_11 : decode cX5_places 11 = .ok (.lload_n 2, 1) := by decide +kernel
theorem dX5_places_12 : decode cX5_places 12 = .ok (.iload_n 0, 1) := by decide +kernel
theorem dX5_places_13 : decode cX5_places 13 = .ok (.iload 4, 2) := by decide +kernel
theorem dX5_places_15 : decode cX5_places 15 = .ok (.isub, 1) := by decide +kernel
theorem dX5_places_16 : decode cX5_places 16 = .ok (.i2l, 1) := by decide +kernel
theorem dX5_places_17 : decode cX5_places 17 = .ok (.lmul, 1) := by decide +kernel
theorem dX5_places_18 : decode cX5_places 18 = .ok (.lstore_n 2, 1) := by decide +kernel
theorem dX5_places_19 : decode cX5_places 19 = .ok (.iinc 4 1, 3) := by decide +kernel
theorem dX5_places_22 : decode cX5_places 22 = .ok (.goto (-17), 3) := by decide +kernel
theorem dX5_places_25 : decode cX5_places 25 = .ok (.lload_n 2, 1) := by decide +kernel
theorem dX5_places_26 : decode cX5_places 26 = .ok (.lreturn, 1) := by decide +kernel
theorem dX5_writeOrder_0 : decode cX5_writeOrder 0 = .ok (.iconst 0, 1) := by decide +kernel
theorem dX5_writeOrder_1 : decode cX5_writeOrder 1 = .ok (.istore 4, 2) := by decide +kernel
theorem dX5_writeOrder_3 : decode cX5_writeOrder 3 = .ok (.iconst 0, 1) := by decide +kernel
theorem dX5_writeOrder_4 : decode cX5_writeOrder 4 = .ok (.istore 5, 2) := by decide +kernel
theorem dX5_writeOrder_6 : decode cX5_writeOrder 6 = .ok (.lload_n 1, 1) := by decide +kernel
theorem dX5_writeOrder_7 : decode cX5_writeOrder 7 = .ok (.lstore 6, 2) := by decide +kernel
theorem dX5_writeOrder_9 : decode cX5_writeOrder 9 = .ok (.aload_n 0, 1) := by decide +kernel
theorem dX5_writeOrder_10 : decode cX5_writeOrder 10 = .ok (.getfield 18, 3) := by decide +kernel
theorem dX5_writeOrder_13 : decode cX5_writeOrder 13 = .ok (.invokestatic 68, 3) := by decide +kernel
theorem dX5_writeOrder_16 : decode cX5_writeOrder 16 = .ok (.istore 8, 2) := by decide +kernel
theorem dX5_writeOrder_18 : decode cX5_writeOrder 18 = .ok (.iconst 0, 1) := by decide +kernel
theorem dX5_writeOrder_19 : decode cX5_writeOrder 19 = .ok (.istore 9, 2) := by decide +kernel
theorem dX5_writeOrder_21 : decode cX5_writeOrder 21 = .ok (.iload 9, 2) := by decide +kernel
theorem dX5_writeOrder_23 : decode cX5_writeOrder 23 = .ok (.iload 8, 2) := by decide +kernel
theorem dX5_writeOrder_25 : decode cX5_writeOrder 25 = .ok (.if_icmp .ge 115, 3) := by decide +kernel
theorem dX5_writeOrder_28 : decode cX5_writeOrder 28 = .ok (.iload 9, 2) := by decide +kernel
theorem dX5_writeOrder_30 : decode cX5_writeOrder 30 = .ok (.aload_n 3, 1) := by decide +kernel
theorem dX5_writeOrder_31 : decode cX5_writeOrder 31 = .ok (.arraylength, 1) := by decide +kernel
theorem dX5_writeOrder_32 : decode cX5_writeOrder 32 = .ok (.if_icmp .ge 108, 3) := by decide +kernel
theorem dX5_writeOrder_35 : decode cX5_writeOrder 35 = .ok (.iconst 0, 1) := by decide +kernel
theorem dX5_writeOrder_36 : decode cX5_writeOrder 36 = .ok (.istore 10, 2) := by decide +kernel
theorem dX5_writeOrder_38 : decode cX5_writeOrder 38 = .ok (.iload 10, 2) := by decide +kernel
theorem dX5_writeOrder_40 : decode cX5_writeOrder 40 = .ok (.aload_n 0, 1) := by decide +kernel
theorem dX5_writeOrder_41 : decode cX5_writeOrder 41 = .ok (.getfield 14, 3) := by decide +kernel
theorem dX5_writeOrder_44 : decode cX5_writeOrder 44 = .ok (.getfield 40, 3) := by decide +kernel
theorem dX5_writeOrder_47 : decode cX5_writeOrder 47 = .ok (.if_icmp .ge 87, 3) := by decide +kernel
theorem dX5_writeOrder_50 : decode cX5_writeOrder 50 = .ok (.aload_n 0, 1) := by decide +kernel
theorem dX5_writeOrder_51 : decode cX5_writeOrder 51 = .ok (.getfield 18, 3) := by decide +kernel
theorem dX5_writeOrder_54 : decode cX5_writeOrder 54 = .ok (.iload 4, 2) := by decide +kernel
theorem dX5_writeOrder_56 : decode cX5_writeOrder 56 = .ok (.iconst (-1), 1) := by decide +kernel
theorem dX5_writeOrder_57 : decode cX5_writeOrder 57 = .ok (.ixor, 1) := by decide +kernel
theorem dX5_writeOrder_58 : decode cX5_writeOrder 58 = .ok (.iand, 1) := by decide +kernel
theorem dX5_writeOrder_59 : decode cX5_writeOrder 59 = .ok (.iload 10, 2) := by decide +kernel
theorem dX5_writeOrder_61 : decode cX5_writeOrder 61 = .ok (.invokestatic 54, 3) := by decide +kernel
theorem dX5_writeOrder_64 : decode cX5_writeOrder 64 = .ok (.ifCond .eq 64, 3) := by decide +kernel
theorem dX5_writeOrder_67 : decode cX5_writeOrder 67 = .ok (.aload_n 0, 1) := by decide +kernel
theorem dX5_writeOrder_68 : decode cX5_writeOrder 68 = .ok (.iload 10, 2) := by decide +kernel
theorem dX5_writeOrder_70 : decode cX5_writeOrder 70 = .ok (.iload 4, 2) := by decide +kernel
theorem dX5_writeOrder_72 : decode cX5_writeOrder 72 = .ok (.invokevirtual 80, 3) := by decide +kernel
theorem dX5_writeOrder_75 : decode cX5_writeOrder 75 = .ok (.ifCond .eq 53, 3) := by decide +kernel
theorem dX5_writeOrder_78 : decode cX5_writeOrder 78 = .ok (.aload_n 0, 1) := by decide +kernel
theorem dX5_writeOrder_79 : decode cX5_writeOrder 79 = .ok (.iload 4, 2) := by decide +kernel
theorem dX5_writeOrder_81 : decode cX5_writeOrder 81 = .ok (.iconst 1, 1) := by decide +kernel
theorem dX5_writeOrder_82 : decode cX5_writeOrder 82 = .ok (.iload 10, 2) := by decide +kernel
theorem dX5_writeOrder_84 : decode cX5_writeOrder 84 = .ok (.ishl, 1) := by decide +kernel
theorem dX5_writeOrder_85 : decode cX5_writeOrder 85 = .ok (.ior, 1) := by decide +kernel
theorem dX5_writeOrder_86 : decode cX5_writeOrder 86 = .ok (.iconst 0, 1) := by decide +kernel
theorem dX5_writeOrder_87 : decode cX5_writeOrder 87 = .ok (.invokevirtual 43, 3) := by decide +kernel
theorem dX5_writeOrder_90 : decode cX5_writeOrder 90 = .ok (.lstore 11, 2) := by decide +kernel
theorem dX5_writeOrder_92 : decode cX5_writeOrder 92 = .ok (.lload 6, 2) := by decide +kernel
theorem dX5_writeOrder_94 : decode cX5_writeOrder 94 = .ok (.lload 11, 2) := by decide +kernel
theorem dX5_writeOrder_96 : decode cX5_writeOrder 96 = .ok (.lcmp, 1) := by decide +kernel
theorem dX5_writeOrder_97 : decode cX5_writeOrder 97 = .ok (.ifCond .ge 24, 3) := by decide +kernel
theorem dX5_writeOrder_100 : decode cX5_writeOrder 100 = .ok (.aload_n 3, 1) := by decide +kernel
theorem dX5_writeOrder_101 : decode cX5_writeOrder 101 = .ok (.iload 9, 2) := by decide +kernel
theorem dX5_writeOrder_103 : decode cX5_writeOrder 103 = .ok (.iload 10, 2) := by decide +kernel
theorem dX5_writeOrder_105 : decode cX5_writeOrder 105 = .ok (.iastore, 1) := by decide +kernel
theorem dX5_writeOrder_106 : decode cX5_writeOrder 106 = .ok (.iload 4, 2) := by decide +kernel
theorem dX5_writeOrder_108 : decode cX5_writeOrder 108 = .ok (.iconst 1, 1) := by decide +kernel
theorem dX5_writeOrder_109 : decode cX5_writeOrder 109 = .ok (.iload 10, 2) := by decide +kernel
theorem dX5_writeOrder_111 : decode cX5_writeOrder 111 = .ok (.ishl, 1) := by decide +kernel
theorem dX5_writeOrder_112 : decode cX5_writeOrder 112 = .ok (.ior, 1) := by decide +kernel
theorem dX5_writeOrder_113 : decode cX5_writeOrder 113 = .ok (.istore 4, 2) := by decide +kernel
theorem dX5_writeOrder_115 : decode cX5_writeOrder 115 = .ok (.iinc 5 1, 3) := by decide +kernel
theorem dX5_writeOrder_118 : decode cX5_writeOrder 118 = .ok (.goto 16, 3) := by decide +kernel
theorem dX5_writeOrder_121 : decode cX5_writeOrder 121 = .ok (.lload 6, 2) := by decide +kernel
theorem dX5_writeOrder_123 : decode cX5_writeOrder 123 = .ok (.lload 11, 2) := by decide +kernel
theorem dX5_writeOrder_125 : decode cX5_writeOrder 125 = .ok (.lsub, 1) := by decide +kernel
theorem dX5_writeOrder_126 : decode cX5_writeOrder 126 = .ok (.lstore 6, 2) := by decide +kernel
theorem dX5_writeOrder_128 : decode cX5_writeOrder 128 = .ok (.iinc 10 1, 3) := by decide +kernel
theorem dX5_writeOrder_131 : decode cX5_writeOrder 131 = .ok (.goto (-93), 3) := by decide +kernel
theorem dX5_writeOrder_134 : decode cX5_writeOrder 134 = .ok (.iinc 9 1, 3) := by decide +kernel
theorem dX5_writeOrder_137 : decode cX5_writeOrder 137 = .ok (.goto (-116), 3) := by decide +kernel
theorem dX5_writeOrder_140 : decode cX5_writeOrder 140 = .ok (.iload 5, 2) := by decide +kernel
theorem dX5_writeOrder_142 : decode cX5_writeOrder 142 = .ok (.ireturn, 1) := by decide +kernel
theorem dX5_numberOf_0 : decode cX5_numberOf 0 = .ok (.iconst 0, 1) := by decide +kernel
theorem dX5_numberOf_1 : decode cX5_numberOf 1 = .ok (.istore 4, 2) := by decide +kernel
theorem dX5_numberOf_3 : decode cX5_numberOf 3 = .ok (.iconst 0, 1) := by decide +kernel
theorem dX5_numberOf_4 : decode cX5_numberOf 4 = .ok (.istore 5, 2) := by decide +kernel
theorem dX5_numberOf_6 : decode cX5_numberOf 6 = .ok (.iload 5, 2) := by decide +kernel
theorem dX5_numberOf_8 : decode cX5_numberOf 8 = .ok (.iload_n 3, 1) := by decide +kernel
theorem dX5_numberOf_9 : decode cX5_numberOf 9 = .ok (.if_icmp .ge 27, 3) := by decide +kernel
theorem dX5_numberOf_12 : decode cX5_numberOf 12 = .ok (.iload 5, 2) := by decide +kernel
theorem dX5_numberOf_14 : decode cX5_numberOf 14 = .ok (.aload_n 2, 1) := by decide +kernel
theorem dX5_numberOf_15 : decode cX5_numberOf 15 = .ok (.arraylength, 1) := by decide +kernel
theorem dX5_numberOf_16 : decode cX5_numberOf 16 = .ok (.if_icmp .ge 20, 3) := by decide +kernel
theorem dX5_numberOf_19 : decode cX5_numberOf 19 = .ok (.iload 4, 2) := by decide +kernel
theorem dX5_numberOf_21 : decode cX5_numberOf 21 = .ok (.iconst 1, 1) := by decide +kernel
theorem dX5_numberOf_22 : decode cX5_numberOf 22 = .ok (.aload_n 2, 1) := by decide +kernel
theorem dX5_numberOf_23 : decode cX5_numberOf 23 = .ok (.iload 5, 2) := by decide +kernel
theorem dX5_numberOf_25 : decode cX5_numberOf 25 = .ok (.iaload, 1) := by decide +kernel
theorem dX5_numberOf_26 : decode cX5_numberOf 26 = .ok (.ishl, 1) := by decide +kernel
theorem dX5_numberOf_27 : decode cX5_numberOf 27 = .ok (.ior, 1) := by decide +kernel
theorem dX5_numberOf_28 : decode cX5_numberOf 28 = .ok (.istore 4, 2) := by decide +kernel
theorem dX5_numberOf_30 : decode cX5_numberOf 30 = .ok (.iinc 5 1, 3) := by decide +kernel
theorem dX5_numberOf_33 : decode cX5_numberOf 33 = .ok (.goto (-27), 3) := by decide +kernel
theorem dX5_numberOf_36 : decode cX5_numberOf 36 = .ok (.aload_n 0, 1) := by decide +kernel
theorem dX5_numberOf_37 : decode cX5_numberOf 37 = .ok (.aload_n 1, 1) := by decide +kernel
theorem dX5_numberOf_38 : decode cX5_numberOf 38 = .ok (.iload 4, 2) := by decide +kernel
theorem dX5_numberOf_40 : decode cX5_numberOf 40 = .ok (.iconst (-1), 1) := by decide +kernel
theorem dX5_numberOf_41 : decode cX5_numberOf 41 = .ok (.iconst (-1), 1) := by decide +kernel
theorem dX5_numberOf_42 : decode cX5_numberOf 42 = .ok (.invokevirtual 35, 3) := by decide +kernel
theorem dX5_numberOf_45 : decode cX5_numberOf 45 = .ok (.pop2, 1) := by decide +kernel
theorem dX5_numberOf_46 : decode cX5_numberOf 46 = .ok (.iconst 0, 1) := by decide +kernel
theorem dX5_numberOf_47 : decode cX5_numberOf 47 = .ok (.istore 5, 2) := by decide +kernel
theorem dX5_numberOf_49 : decode cX5_numberOf 49 = .ok (.lconst 0, 1) := by decide +kernel
theorem dX5_numberOf_50 : decode cX5_numberOf 50 = .ok (.lstore 6, 2) := by decide +kernel
theorem dX5_numberOf_52 : decode cX5_numberOf 52 = .ok (.iconst 0, 1) := by decide +kernel
theorem dX5_numberOf_53 : decode cX5_numberOf 53 = .ok (.istore 8, 2) := by decide +kernel
theorem dX5_numberOf_55 : decode cX5_numberOf 55 = .ok (.iload 8, 2) := by decide +kernel
theorem dX5_numberOf_57 : decode cX5_numberOf 57 = .ok (.iload_n 3, 1) := by decide +kernel
theorem dX5_numberOf_58 : decode cX5_numberOf 58 = .ok (.if_icmp .ge 90, 3) := by decide +kernel
theorem dX5_numberOf_61 : decode cX5_numberOf 61 = .ok (.iload 8, 2) := by decide +kernel
theorem dX5_numberOf_63 : decode cX5_numberOf 63 = .ok (.aload_n 2, 1) := by decide +kernel
theorem dX5_numberOf_64 : decode cX5_numberOf 64 = .ok (.arraylength, 1) := by decide +kernel
theorem dX5_numberOf_65 : decode cX5_numberOf 65 = .ok (.if_icmp .ge 83, 3) := by decide +kernel
theorem dX5_numberOf_68 : decode cX5_numberOf 68 = .ok (.iconst 0, 1) := by decide +kernel
theorem dX5_numberOf_69 : decode cX5_numberOf 69 = .ok (.istore 9, 2) := by decide +kernel
theorem dX5_numberOf_71 : decode cX5_numberOf 71 = .ok (.iload 9, 2) := by decide +kernel
theorem dX5_numberOf_73 : decode cX5_numberOf 73 = .ok (.aload_n 2, 1) := by decide +kernel
theorem dX5_numberOf_74 : decode cX5_numberOf 74 = .ok (.iload 8, 2) := by decide +kernel
theorem dX5_numberOf_76 : decode cX5_numberOf 76 = .ok (.iaload, 1) := by decide +kernel
theorem dX5_numberOf_77 : decode cX5_numberOf 77 = .ok (.if_icmp .ge 54, 3) := by decide +kernel
theorem dX5_numberOf_80 : decode cX5_numberOf 80 = .ok (.aload_n 0, 1) := by decide +kernel
theorem dX5_numberOf_81 : decode cX5_numberOf 81 = .ok (.getfield 18, 3) := by decide +kernel
theorem dX5_numberOf_84 : decode cX5_numberOf 84 = .ok (.iload 5, 2) := by decide +kernel
theorem dX5_numberOf_86 : decode cX5_numberOf 86 = .ok (.iconst (-1), 1) := by decide +kernel
theorem dX5_numberOf_87 : decode cX5_numberOf 87 = .ok (.ixor, 1) := by decide +kernel
theorem dX5_numberOf_88 : decode cX5_numberOf 88 = .ok (.iand, 1) := by decide +kernel
theorem dX5_numberOf_89 : decode cX5_numberOf 89 = .ok (.iload 9, 2) := by decide +kernel
theorem dX5_numberOf_91 : decode cX5_numberOf 91 = .ok (.invokestatic 54, 3) := by decide +kernel
theorem dX5_numberOf_94 : decode cX5_numberOf 94 = .ok (.ifCond .eq 31, 3) := by decide +kernel
theorem dX5_numberOf_97 : decode cX5_numberOf 97 = .ok (.aload_n 0, 1) := by decide +kernel
theorem dX5_numberOf_98 : decode cX5_numberOf 98 = .ok (.iload 9, 2) := by decide +kernel
theorem dX5_numberOf_100 : decode cX5_numberOf 100 = .ok (.iload 5, 2) := by decide +kernel
theorem dX5_numberOf_102 : decode cX5_numberOf 102 = .ok (.invokevirtual 80, 3) := by decide +kernel
theorem dX5_numberOf_105 : decode cX5_numberOf 105 = .ok (.ifCond .eq 20, 3) := by decide +kernel
theorem dX5_numberOf_108 : decode cX5_numberOf 108 = .ok (.lload 6, 2) := by decide +kernel
theorem dX5_numberOf_110 : decode cX5_numberOf 110 = .ok (.aload_n 0, 1) := by decide +kernel
theorem dX5_numberOf_111 : decode cX5_numberOf 111 = .ok (.iload 5, 2) := by decide +kernel
theorem dX5_numberOf_113 : decode cX5_numberOf 113 = .ok (.iconst 1, 1) := by decide +kernel
theorem dX5_numberOf_114 : decode cX5_numberOf 114 = .ok (.iload 9, 2) := by decide +kernel
theorem dX5_numberOf_116 : decode cX5_numberOf 116 = .ok (.ishl, 1) := by decide +kernel
theorem dX5_numberOf_117 : decode cX5_numberOf 117 = .ok (.ior, 1) := by decide +kernel
theorem dX5_numberOf_118 : decode cX5_numberOf 118 = .ok (.iconst 0, 1) := by decide +kernel
theorem dX5_numberOf_119 : decode cX5_numberOf 119 = .ok (.invokevirtual 43, 3) := by decide +kernel
theorem dX5_numberOf_122 : decode cX5_numberOf 122 = .ok (.ladd, 1) := by decide +kernel
theorem dX5_numberOf_123 : decode cX5_numberOf 123 = .ok (.lstore 6, 2) := by decide +kernel
theorem dX5_numberOf_125 : decode cX5_numberOf 125 = .ok (.iinc 9 1, 3) := by decide +kernel
theorem dX5_numberOf_128 : decode cX5_numberOf 128 = .ok (.goto (-57), 3) := by decide +kernel
theorem dX5_numberOf_131 : decode cX5_numberOf 131 = .ok (.iload 5, 2) := by decide +kernel
theorem dX5_numberOf_133 : decode cX5_numberOf 133 = .ok (.iconst 1, 1) := by decide +kernel
theorem dX5_numberOf_134 : decode cX5_numberOf 134 = .ok (.aload_n 2, 1) := by decide +kernel
theorem dX5_numberOf_135 : decode cX5_numberOf 135 = .ok (.iload 8, 2) := by decide +kernel
theorem dX5_numberOf_137 : decode cX5_numberOf 137 = .ok (.iaload, 1) := by decide +kernel
theorem dX5_numberOf_138 : decode cX5_numberOf 138 = .ok (.ishl, 1) := by decide +kernel
theorem dX5_numberOf_139 : decode cX5_numberOf 139 = .ok (.ior, 1) := by decide +kernel
theorem dX5_numberOf_140 : decode cX5_numberOf 140 = .ok (.istore 5, 2) := by decide +kernel
theorem dX5_numberOf_142 : decode cX5_numberOf 142 = .ok (.iinc 8 1, 3) := by decide +kernel
theorem dX5_numberOf_145 : decode cX5_numberOf 145 = .ok (.goto (-90), 3) := by decide +kernel
theorem dX5_numberOf_148 : decode cX5_numberOf 148 = .ok (.lload 6, 2) := by decide +kernel
theorem dX5_numberOf_150 : decode cX5_numberOf 150 = .ok (.lreturn, 1) := by decide +kernel
theorem dX6_init_0 : decode cX6_init 0 = .ok (.aload_n 0, 1) := by decide +kernel
theorem dX6_init_1 : decode cX6_init 1 = .ok (.invokespecial 3, 3) := by decide +kernel
theorem dX6_init_4 : decode cX6_init 4 = .ok (.aload_n 0, 1) := by decide +kernel
theorem dX6_init_5 : decode cX6_init 5 = .ok (.aload_n 1, 1) := by decide +kernel
theorem dX6_init_6 : decode cX6_init 6 = .ok (.putfield 9, 3) := by decide +kernel
theorem dX6_init_9 : decode cX6_init 9 = .ok (.aload_n 0, 1) := by decide +kernel
theorem dX6_init_10 : decode cX6_init 10 = .ok (.iload_n 2, 1) := by decide +kernel
theorem dX6_init_11 : decode cX6_init 11 = .ok (.putfield 15, 3) := by decide +kernel
theorem dX6_init_14 : decode cX6_init 14 = .ok (.aload_n 0, 1) := by decide +kernel
theorem dX6_init_15 : decode cX6_init 15 = .ok (.iload_n 2, 1) := by decide +kernel
theorem dX6_init_16 : decode cX6_init 16 = .ok (.putfield 19, 3) := by decide +kernel
theorem dX6_init_19 : decode cX6_init 19 = .ok (.return_, 1) := by decide +kernel
theorem dX6_fewestOut_0 : decode cX6_fewestOut 0 = .ok (.aload_n 0, 1) := by decide +kernel
theorem dX6_fewestOut_1 : decode cX6_fewestOut 1 = .ok (.aload_n 0, 1) := by decide +kernel
theorem dX6_fewestOut_2 : decode cX6_fewestOut 2 = .ok (.getfield 15, 3) := by decide +kernel
theorem dX6_fewestOut_5 : decode cX6_fewestOut 5 = .ok (.iconst 0, 1) := by decide +kernel
theorem dX6_fewestOut_6 : decode cX6_fewestOut 6 = .ok (.invokevirtual 22, 3) := by decide +kernel
theorem dX6_fewestOut_9 : decode cX6_fewestOut 9 = .ok (.aload_n 0, 1) := by decide +kernel
theorem dX6_fewestOut_10 : decode cX6_fewestOut 10 = .ok (.getfield 19, 3) := by decide +kernel
theorem dX6_fewestOut_13 : decode cX6_fewestOut 13 = .ok (.ireturn, 1) := by decide +kernel
theorem dX6_seek_0 : decode cX6_seek 0 = .ok (.aload_n 0, 1) := by decide +kernel
theorem dX6_seek_1 : decode cX6_seek 1 = .ok (.getfield 15, 3) := by decide +kernel
theorem dX6_seek_4 : decode cX6_seek 4 = .ok (.iload_n 1, 1) := by decide +kernel
theorem dX6_seek_5 : decode cX6_seek 5 = .ok (.iconst (-1), 1) := by decide +kernel
theorem dX6_seek_6 : decode cX6_seek 6 = .ok (.ixor, 1) := by decide +kernel
theorem dX6_seek_7 : decode cX6_seek 7 = .ok (.iand, 1) := by decide +kernel
theorem dX6_seek_8 : decode cX6_seek 8 = .ok (.istore_n 3, 1) := by decide +kernel
theorem dX6_seek_9 : decode cX6_seek 9 = .ok (.iload_n 2, 1) := by decide +kernel
theorem dX6_seek_10 : decode cX6_seek 10 = .ok (.bipush 16, 2) := by decide +kernel
theorem dX6_seek_12 : decode cX6_seek 12 = .ok (.if_icmp .gt 17, 3) := by decide +kernel
theorem dX6_seek_15 : decode cX6_seek 15 = .ok (.iload_n 3, 1) := by decide +kernel
theorem dX6_seek_16 : decode cX6_seek 16 = .ok (.invokestatic 26, 3) := by decide +kernel
theorem dX6_seek_19 : decode cX6_seek 19 = .ok (.aload_n 0, 1) := by decide +kernel
theorem dX6_seek_20 : decode cX6_seek 20 = .ok (.getfield 19, 3) := by decide +kernel
theorem dX6_seek_23 : decode cX6_seek 23 = .ok (.invokestatic 26, 3) := by decide +kernel
theorem dX6_seek_26 : decode cX6_seek 26 = .ok (.if_icmp .le 4, 3) := by decide +kernel
theorem dX6_seek_29 : decode cX6_seek 29 = .ok (.return_, 1) := by decide +kernel
theorem dX6_seek_30 : decode cX6_seek 30 = .ok (.aload_n 0, 1) := by decide +kernel
theorem dX6_seek_31 : decode cX6_seek 31 = .ok (.getfield 9, 3) := by decide +kernel
theorem dX6_seek_34 : decode cX6_seek 34 = .ok (.iload_n 1, 1) := by decide +kernel
theorem dX6_seek_35 : decode cX6_seek 35 = .ok (.invokevirtual 32, 3) := by decide +kernel
theorem dX6_seek_38 : decode cX6_seek 38 = .ok (.istore 4, 2) := by decide +kernel
theorem dX6_seek_40 : decode cX6_seek 40 = .ok (.iload 4, 2) := by decide +kernel
theorem dX6_seek_42 : decode cX6_seek 42 = .ok (.iconst (-1), 1) := by decide +kernel
theorem dX6_seek_43 : decode cX6_seek 43 = .ok (.if_icmp .ne 9, 3) := by decide +kernel
theorem dX6_seek_46 : decode cX6_seek 46 = .ok (.aload_n 0, 1) := by decide +kernel
theorem dX6_seek_47 : decode cX6_seek 47 = .ok (.iload_n 3, 1) := by decide +kernel
theorem dX6_seek_48 : decode cX6_seek 48 = .ok (.invokevirtual 37, 3) := by decide +kernel
theorem dX6_seek_51 : decode cX6_seek 51 = .ok (.return_, 1) := by decide +kernel
theorem dX6_seek_52 : decode cX6_seek 52 = .ok (.aload_n 0, 1) := by decide +kernel
theorem dX6_seek_53 : decode cX6_seek 53 = .ok (.aload_n 0, 1) := by decide +kernel
theorem dX6_seek_54 : decode cX6_seek 54 = .ok (.getfield 9, 3) := by decide +kernel
theorem dX6_seek_57 : decode cX6_seek 57 = .ok (.iload_n 1, 1) := by decide +kernel
theorem dX6_seek_58 : decode cX6_seek 58 = .ok (.iload 4, 2) := by decide +kernel
theorem dX6_seek_60 : decode cX6_seek 60 = .ok (.invokevirtual 41, 3) := by decide +kernel
theorem dX6_seek_63 : decode cX6_seek 63 = .ok (.iload_n 2, 1) := by decide +kernel
theorem dX6_seek_64 : decode cX6_seek 64 = .ok (.iconst 1, 1) := by decide +kernel
theorem dX6_seek_65 : decode cX6_seek 65 = .ok (.iadd, 1) := by decide +kernel
theorem dX6_seek_66 : decode cX6_seek 66 = .ok (.invokevirtual 22, 3) := by decide +kernel
theorem dX6_seek_69 : decode cX6_seek 69 = .ok (.aload_n 0, 1) := by decide +kernel
theorem dX6_seek_70 : decode cX6_seek 70 = .ok (.getfield 9, 3) := by decide +kernel
theorem dX6_seek_73 : decode cX6_seek 73 = .ok (.iload_n 1, 1) := by decide +kernel
theorem dX6_seek_74 : decode cX6_seek 74 = .ok (.iload 4, 2) := by decide +kernel
theorem dX6_seek_76 : decode cX6_seek 76 = .ok (.invokevirtual 45, 3) := by decide +kernel
theorem dX6_seek_79 : decode cX6_seek 79 = .ok (.istore 5, 2) := by decide +kernel
theorem dX6_seek_81 : decode cX6_seek 81 = .ok (.iload_n 1, 1) := by decide +kernel
theorem dX6_seek_82 : decode cX6_seek 82 = .ok (.istore 6, 2) := by decide +kernel
theorem dX6_seek_84 : decode cX6_seek 84 = .ok (.iconst 0, 1) := by decide +kernel
theorem dX6_seek_85 : decode cX6_seek 85 = .ok (.istore 7, 2) := by decide +kernel
theorem dX6_seek_87 : decode cX6_seek 87 = .ok (.iload 7, 2) := by decide +kernel
theorem dX6_seek_89 : decode cX6_seek 89 = .ok (.aload_n 0, 1) := by decide +kernel
theorem dX6_seek_90 : decode cX6_seek 90 = .ok (.getfield 9, 3) := by decide +kernel
theorem dX6_seek_93 : decode cX6_seek 93 = .ok (.getfield 48, 3) := by decide +kernel
theorem dX6_seek_96 : decode cX6_seek 96 = .ok (.if_icmp .ge 32, 3) := by decide +kernel
theorem dX6_seek_99 : decode cX6_seek 99 = .ok (.iload 5, 2) := by decide +kernel
theorem dX6_seek_101 : decode cX6_seek 101 = .ok (.iload 7, 2) := by decide +kernel
theorem dX6_seek_103 : decode cX6_seek 103 = .ok (.invokestatic 51, 3) := by decide +kernel
theorem dX6_seek_106 : decode cX6_seek 106 = .ok (.ifCond .eq 16, 3) := by decide +kernel
theorem dX6_seek_109 : decode cX6_seek 109 = .ok (.aload_n 0, 1) := by decide +kernel
theorem dX6_seek_110 : decode cX6_seek 110 = .ok (.getfield 9, 3) := by decide +kernel
theorem dX6_seek_113 : decode cX6_seek 113 = .ok (.iload 6, 2) := by decide +kernel
theorem dX6_seek_115 : decode cX6_seek 115 = .ok (.iload 7, 2) := by decide +kernel
theorem dX6_seek_117 : decode cX6_seek 117 = .ok (.invokevirtual 41, 3) := by decide +kernel
theorem dX6_seek_120 : decode cX6_seek 120 = .ok (.istore 6, 2) := by decide +kernel
theorem dX6_seek_122 : decode cX6_seek 122 = .ok (.iinc 7 1, 3) := by decide +kernel
theorem dX6_seek_125 : decode cX6_seek 125 = .ok (.goto (-38), 3) := by decide +kernel
theorem dX6_seek_128 : decode cX6_seek 128 = .ok (.aload_n 0, 1) := by decide +kernel
theorem dX6_seek_129 : decode cX6_seek 129 = .ok (.iload 6, 2) := by decide +kernel
theorem dX6_seek_131 : decode cX6_seek 131 = .ok (.iload_n 2, 1) := by decide +kernel
theorem dX6_seek_132 : decode cX6_seek 132 = .ok (.iconst 1, 1) := by decide +kernel
theorem dX6_seek_133 : decode cX6_seek 133 = .ok (.iadd, 1) := by decide +kernel
theorem dX6_seek_134 : decode cX6_seek 134 = .ok (.invokevirtual 22, 3) := by decide +kernel
theorem dX6_seek_137 : decode cX6_seek 137 = .ok (.return_, 1) := by decide +kernel
theorem dX6_keepBetter_0 : decode cX6_keepBetter 0 = .ok (.iload_n 1, 1) := by decide +kernel
theorem dX6_keepBetter_1 : decode cX6_keepBetter 1 = .ok (.invokestatic 26, 3) := by decide +kernel
theorem dX6_keepBetter_4 : decode cX6_keepBetter 4 = .ok (.istore_n 2, 1) := by decide +kernel
theorem dX6_keepBetter_5 : decode cX6_keepBetter 5 = .ok (.aload_n 0, 1) := by decide +kernel
theorem dX6_keepBetter_6 : decode cX6_keepBetter 6 = .ok (.getfield 19, 3) := by decide +kernel
theorem dX6_keepBetter_9 : decode cX6_keepBetter 9 = .ok (.invokestatic 26, 3) := by decide +kernel
theorem dX6_keepBetter_12 : decode cX6_keepBetter 12 = .ok (.istore_n 3, 1) := by decide +kernel
theorem dX6_keepBetter_13 : decode cX6_keepBetter 13 = .ok (.iload_n 2, 1) := by decide +kernel
theorem dX6_keepBetter_14 : decode cX6_keepBetter 14 = .ok (.iload_n 3, 1) := by decide +kernel
theorem dX6_keepBetter_15 : decode cX6_keepBetter 15 = .ok (.if_icmp .lt 16, 3) := by decide +kernel
theorem dX6_keepBetter_18 : decode cX6_keepBetter 18 = .ok (.iload_n 2, 1) := by decide +kernel
theorem dX6_keepBetter_19 : decode cX6_keepBetter 19 = .ok (.iload_n 3, 1) := by decide +kernel
theorem dX6_keepBetter_20 : decode cX6_keepBetter 20 = .ok (.if_icmp .ne 16, 3) := by decide +kernel
theorem dX6_keepBetter_23 : decode cX6_keepBetter 23 = .ok (.iload_n 1, 1) := by decide +kernel
theorem dX6_keepBetter_24 : decode cX6_keepBetter 24 = .ok (.aload_n 0, 1) := by decide +kernel
theorem dX6_keepBetter_25 : decode cX6_keepBetter 25 = .ok (.getfield 19, 3) := by decide +kernel
theorem dX6_keepBetter_28 : decode cX6_keepBetter 28 = .ok (.if_icmp .ge 8, 3) := by decide +kernel
theorem dX6_keepBetter_31 : decode cX6_keepBetter 31 = .ok (.aload_n 0, 1) := by decide +kernel
theorem dX6_keepBetter_32 : decode cX6_keepBetter 32 = .ok (.iload_n 1, 1) := by decide +kernel
theorem dX6_keepBetter_33 : decode cX6_keepBetter 33 = .ok (.putfield 19, 3) := by decide +kernel
theorem dX6_keepBetter_36 : decode cX6_keepBetter 36 = .ok (.return_, 1) := by decide +kernel
theorem dX7_init_0 : decode cX7_init 0 = .ok (.aload_n 0, 1) := by decide +kernel
theorem dX7_init_1 : decode cX7_init 1 = .ok (.invokespecial 3, 3) := by decide +kernel
theorem dX7_init_4 : decode cX7_init 4 = .ok (.aload_n 0, 1) := by decide +kernel
theorem dX7_init_5 : decode cX7_init 5 = .ok (.new 9, 3) := by decide +kernel
theorem dX7_init_8 : decode cX7_init 8 = .ok (.dup, 1) := by decide +kernel
theorem dX7_init_9 : decode cX7_init 9 = .ok (.invokespecial 11, 3) := by decide +kernel
theorem dX7_init_12 : decode cX7_init 12 = .ok (.putfield 12, 3) := by decide +kernel
theorem dX7_init_15 : decode cX7_init 15 = .ok (.aload_n 0, 1) := by decide +kernel
theorem dX7_init_16 : decode cX7_init 16 = .ok (.aconst_null, 1) := by decide +kernel
theorem dX7_init_17 : decode cX7_init 17 = .ok (.putfield 18, 3) := by decide +kernel
theorem dX7_init_20 : decode cX7_init 20 = .ok (.aload_n 0, 1) := by decide +kernel
theorem dX7_init_21 : decode cX7_init 21 = .ok (.iconst 4, 1) := by decide +kernel
theorem dX7_init_22 : decode cX7_init 22 = .ok (.newarray .int, 2) := by decide +kernel
theorem dX7_init_24 : decode cX7_init 24 = .ok (.putfield 22, 3) := by decide +kernel
theorem dX7_init_27 : decode cX7_init 27 = .ok (.aload_n 0, 1) := by decide +kernel
theorem dX7_init_28 : decode cX7_init 28 = .ok (.bipush 16, 2) := by decide +kernel
theorem dX7_init_30 : decode cX7_init 30 = .ok (.newarray .int, 2) := by decide +kernel
theorem dX7_init_32 : decode cX7_init 32 = .ok (.putfield 26, 3) := by decide +kernel
theorem dX7_init_35 : decode cX7_init 35 = .ok (.aload_n 0, 1) := by decide +kernel
theorem dX7_init_36 : decode cX7_init 36 = .ok (.iconst 0, 1) := by decide +kernel
theorem dX7_init_37 : decode cX7_init 37 = .ok (.putfield 29, 3) := by decide +kernel
theorem dX7_init_40 : decode cX7_init 40 = .ok (.return_, 1) := by decide +kernel
theorem dX7_begin_0 : decode cX7_begin 0 = .ok (.aload_n 0, 1) := by decide +kernel
theorem dX7_begin_1 : decode cX7_begin 1 = .ok (.aload_n 1, 1) := by decide +kernel
theorem dX7_begin_2 : decode cX7_begin 2 = .ok (.putfield 12, 3) := by decide +kernel
theorem dX7_begin_5 : decode cX7_begin 5 = .ok (.aload_n 0, 1) := by decide +kernel
theorem dX7_begin_6 : decode cX7_begin 6 = .ok (.aconst_null, 1) := by decide +kernel
theorem dX7_begin_7 : decode cX7_begin 7 = .ok (.putfield 18, 3) := by decide +kernel
theorem dX7_begin_10 : decode cX7_begin 10 = .ok (.aload_n 0, 1) := by decide +kernel
theorem dX7_begin_11 : decode cX7_begin 11 = .ok (.iconst 0, 1) := by decide +kernel
theorem dX7_begin_12 : decode cX7_begin 12 = .ok (.putfield 29, 3) := by decide +kernel
theorem dX7_begin_15 : decode cX7_begin 15 = .ok (.iconst 0, 1) := by decide +kernel
theorem dX7_begin_16 : decode cX7_begin 16 = .ok (.istore_n 2, 1) := by decide +kernel
theorem dX7_begin_17 : decode cX7_begin 17 = .ok (.iload_n 2, 1) := by decide +kernel
theorem dX7_begin_18 : decode cX7_begin 18 = .ok (.iconst 4, 1) := by decide +kernel
theorem dX7_begin_19 : decode cX7_begin 19 = .ok (.if_icmp .ge 16, 3) := by decide +kernel
theorem dX7_begin_22 : decode cX7_begin 22 = .ok (.aload_n 0, 1) := by decide +kernel
theorem dX7_begin_23 : decode cX7_begin 23 = .ok (.getfield 22, 3) := by decide +kernel
theorem dX7_begin_26 : decode cX7_begin 26 = .ok (.iload_n 2, 1) := by decide +kernel
theorem dX7_begin_27 : decode cX7_begin 27 = .ok (.iconst 0, 1) := by decide +kernel
theorem dX7_begin_28 : decode cX7_begin 28 = .ok (.iastore, 1) := by decide +kernel
theorem dX7_begin_29 : decode cX7_begin 29 = .ok (.iinc 2 1, 3) := by decide +kernel
theorem dX7_begin_32 : decode cX7_begin 32 = .ok (.goto (-15), 3) := by decide +kernel
theorem dX7_begin_35 : decode cX7_begin 35 = .ok (.return_, 1) := by decide +kernel
theorem dX7_copyFrom_0 : decode cX7_copyFrom 0 = .ok (.aload_n 0, 1) := by decide +kernel
theorem dX7_copyFrom_1 : decode cX7_copyFrom 1 = .ok (.aload_n 1, 1) := by decide +kernel
theorem dX7_copyFrom_2 : decode cX7_copyFrom 2 = .ok (.getfield 12, 3) := by decide +kernel
theorem dX7_copyFrom_5 : decode cX7_copyFrom 5 = .ok (.putfield 12, 3) := by decide +kernel
theorem dX7_copyFrom_8 : decode cX7_copyFrom 8 = .ok (.aload_n 0, 1) := by decide +kernel
theorem dX7_copyFrom_9 : decode cX7_copyFrom 9 = .ok (.aload_n 1, 1) := by decide +kernel
theorem dX7_copyFrom_10 : decode cX7_copyFrom 10 = .ok (.getfield 18, 3) := by decide +kernel
theorem dX7_copyFrom_13 : decode cX7_copyFrom 13 = .ok (.putfield 18, 3) := by decide +kernel
theorem dX7_copyFrom_16 : decode cX7_copyFrom 16 = .ok (.aload_n 0, 1) := by decide +kernel
theorem dX7_copyFrom_17 : decode cX7_copyFrom 17 = .ok (.aload_n 1, 1) := by decide +kernel
theorem dX7_copyFrom_18 : decode cX7_copyFrom 18 = .ok (.getfield 29, 3) := by decide +kernel
theorem dX7_copyFrom_21 : decode cX7_copyFrom 21 = .ok (.putfield 29, 3) := by decide +kernel
theorem dX7_copyFrom_24 : decode cX7_copyFrom 24 = .ok (.aload_n 1, 1) := by decide +kernel
theorem dX7_copyFrom_25 : decode cX7_copyFrom 25 = .ok (.getfield 22, 3) := by decide +kernel
theorem dX7_copyFrom_28 : decode cX7_copyFrom 28 = .ok (.iconst 0, 1) := by decide +kernel
theorem dX7_copyFrom_29 : decode cX7_copyFrom 29 = .ok (.aload_n 0, 1) := by decide +kernel
theorem dX7_copyFrom_30 : decode cX7_copyFrom 30 = .ok (.getfield 22, 3) := by decide +kernel
theorem dX7_copyFrom_33 : decode cX7_copyFrom 33 = .ok (.iconst 0, 1) := by decide +kernel
theorem dX7_copyFrom_34 : decode cX7_copyFrom 34 = .ok (.iconst 4, 1) := by decide +kernel
theorem dX7_copyFrom_35 : decode cX7_copyFrom 35 = .ok (.invokestatic 33, 3) := by decide +kernel
theorem dX7_copyFrom_38 : decode cX7_copyFrom 38 = .ok (.aload_n 1, 1) := by decide +kernel
theorem dX7_copyFrom_39 : decode cX7_copyFrom 39 = .ok (.getfield 26, 3) := by decide +kernel
theorem dX7_copyFrom_42 : decode cX7_copyFrom 42 = .ok (.iconst 0, 1) := by decide +kernel
theorem dX7_copyFrom_43 : decode cX7_copyFrom 43 = .ok (.aload_n 0, 1) := by decide +kernel
theorem dX7_copyFrom_44 : decode cX7_copyFrom 44 = .ok (.getfield 26, 3) := by decide +kernel
theorem dX7_copyFrom_47 : decode cX7_copyFrom 47 = .ok (.iconst 0, 1) := by decide +kernel
theorem dX7_copyFrom_48 : decode cX7_copyFrom 48 = .ok (.bipush 16, 2) := by decide +kernel
theorem dX7_copyFrom_50 : decode cX7_copyFrom 50 = .ok (.invokestatic 33, 3) := by decide +kernel
theorem dX7_copyFrom_53 : decode cX7_copyFrom 53 = .ok (.return_, 1) := by decide +kernel
theorem dX7_isInOrder_0 : decode cX7_isInOrder 0 = .ok (.iload_n 1, 1) := by decide +kernel
theorem dX7_isInOrder_1 : decode cX7_isInOrder 1 = .ok (.ifCond .lt 15, 3) := by decide +kernel
theorem dX7_isInOrder_4 : decode cX7_isInOrder 4 = .ok (.iload_n 1, 1) := by decide +kernel
theorem dX7_isInOrder_5 : decode cX7_isInOrder 5 = .ok (.aload_n 0, 1) := by decide +kernel
theorem dX7_isInOrder_6 : decode cX7_isInOrder 6 = .ok (.getfield 29, 3) := by decide +kernel
theorem dX7_isInOrder_9 : decode cX7_isInOrder 9 = .ok (.if_icmp .ge 7, 3) := by decide +kernel
theorem dX7_isInOrder_12 : decode cX7_isInOrder 12 = .ok (.iconst 1, 1) := by decide +kernel
theorem dX7_isInOrder_13 : decode cX7_isInOrder 13 = .ok (.goto 4, 3) := by decide +kernel
theorem dX7_isInOrder_16 : decode cX7_isInOrder 16 = .ok (.iconst 0, 1) := by decide +kernel
theorem dX7_isInOrder_17 : decode cX7_isInOrder 17 = .ok (.ireturn, 1) := by decide +kernel
theorem dX7_firstOfOrder_0 : decode cX7_firstOfOrder 0 = .ok (.iconst 0, 1) := by decide +kernel
theorem dX7_firstOfOrder_1 : decode cX7_firstOfOrder 1 = .ok (.istore_n 2, 1) := by decide +kernel
theorem dX7_firstOfOrder_2 : decode cX7_firstOfOrder 2 = .ok (.iconst 0, 1) := by decide +kernel
theorem dX7_firstOfOrder_3 : decode cX7_firstOfOrder 3 = .ok (.istore_n 3, 1) := by decide +kernel
theorem dX7_firstOfOrder_4 : decode cX7_firstOfOrder 4 = .ok (.iload_n 3, 1) := by decide +kernel
theorem dX7_firstOfOrder_5 : decode cX7_firstOfOrder 5 = .ok (.iload_n 1, 1) := by decide +kernel
theorem dX7_firstOfOrder_6 : decode cX7_firstOfOrder 6 = .ok (.if_icmp .ge 28, 3) := by decide +kernel
theorem dX7_firstOfOrder_9 : decode cX7_firstOfOrder 9 = .ok (.iload_n 3, 1) := by decide +kernel
theorem dX7_firstOfOrder_10 : decode cX7_firstOfOrder 10 = .ok (.aload_n 0, 1) := by decide +kernel
theorem dX7_firstOfOrder_11 : decode cX7_firstOfOrder 11 = .ok (.getfield 29, 3) := by decide +kernel
theorem dX7_firstOfOrder_14 : decode cX7_firstOfOrder 14 = .ok (.if_icmp .ge 20, 3) := by decide +kernel
theorem dX7_firstOfOrder_17 : decode cX7_firstOfOrder 17 = .ok (.iload_n 2, 1) := by decide +kernel
theorem dX7_firstOfOrder_18 : decode cX7_firstOfOrder 18 = .ok (.iconst 1, 1) := by decide +kernel
theorem dX7_firstOfOrder_19 : decode cX7_firstOfOrder 19 = .ok (.aload_n 0, 1) := by decide +kernel
theorem dX7_firstOfOrder_20 : decode cX7_firstOfOrder 20 = .ok (.getfield 26, 3) := by decide +kernel
theorem dX7_firstOfOrder_23 : decode cX7_firstOfOrder 23 = .ok (.iload_n 3, 1) := by decide +kernel
theorem dX7_firstOfOrder_24 : decode cX7_firstOfOrder 24 = .ok (.iaload, 1) := by decide +kernel
theorem dX7_firstOfOrder_25 : decode cX7_firstOfOrder 25 = .ok (.ishl, 1) := by decide +kernel
theorem dX7_firstOfOrder_26 : decode cX7_firstOfOrder 26 = .ok (.ior, 1) := by decide +kernel
theorem dX7_firstOfOrder_27 : decode cX7_firstOfOrder 27 = .ok (.istore_n 2, 1) := by decide +kernel
theorem dX7_firstOfOrder_28 : decode cX7_firstOfOrder 28 = .ok (.iinc 3 1, 3) := by decide +kernel
theorem dX7_firstOfOrder_31 : decode cX7_firstOfOrder 31 = .ok (.goto (-27), 3) := by decide +kernel
theorem dX7_firstOfOrder_34 : decode cX7_firstOfOrder 34 = .ok (.iload_n 2, 1) := by decide +kernel
theorem dX7_firstOfOrder_35 : decode cX7_firstOfOrder 35 = .ok (.ireturn, 1) := by decide +kernel
theorem dX7_placeInOrder_0 : decode cX7_placeInOrder 0 = .ok (.iconst 0, 1) := by decide +kernel
theorem dX7_placeInOrder_1 : decode cX7_placeInOrder 1 = .ok (.istore_n 2, 1) := by decide +kernel
theorem dX7_placeInOrder_2 : decode cX7_placeInOrder 2 = .ok (.iload_n 2, 1) := by decide +kernel
theorem dX7_placeInOrder_3 : decode cX7_placeInOrder 3 = .ok (.aload_n 0, 1) := by decide +kernel
theorem dX7_placeInOrder_4 : decode cX7_placeInOrder 4 = .ok (.getfield 29, 3) := by decide +kernel
theorem dX7_placeInOrder_7 : decode cX7_placeInOrder 7 = .ok (.if_icmp .ge 21, 3) := by decide +kernel
theorem dX7_placeInOrder_10 : decode cX7_placeInOrder 10 = .ok (.aload_n 0, 1) := by decide +kernel
theorem dX7_placeInOrder_11 : decode cX7_placeInOrder 11 = .ok (.getfield 26, 3) := by decide +kernel
theorem dX7_placeInOrder_14 : decode cX7_placeInOrder 14 = .ok (.iload_n 2, 1) := by decide +kernel
theorem dX7_placeInOrder_15 : decode cX7_placeInOrder 15 = .ok (.iaload, 1) := by decide +kernel
theorem dX7_placeInOrder_16 : decode cX7_placeInOrder 16 = .ok (.iload_n 1, 1) := by decide +kernel
theorem dX7_placeInOrder_17 : decode cX7_placeInOrder 17 = .ok (.if_icmp .ne 5, 3) := by decide +kernel
theorem dX7_placeInOrder_20 : decode cX7_placeInOrder 20 = .ok (.iload_n 2, 1) := by decide +kernel
theorem dX7_placeInOrder_21 : decode cX7_placeInOrder 21 = .ok (.ireturn, 1) := by decide +kernel
theorem dX7_placeInOrder_22 : decode cX7_placeInOrder 22 = .ok (.iinc 2 1, 3) := by decide +kernel
theorem dX7_placeInOrder_25 : decode cX7_placeInOrder 25 = .ok (.goto (-23), 3) := by decide +kernel
theorem dX7_placeInOrder_28 : decode cX7_placeInOrder 28 = .ok (.iconst (-1), 1) := by decide +kernel
theorem dX7_placeInOrder_29 : decode cX7_placeInOrder 29 = .ok (.ireturn, 1) := by decide +kernel
theorem dX7_maySwap_0 : decode cX7_maySwap 0 = .ok (.aload_n 0, 1) := by decide +kernel
theorem dX7_maySwap_1 : decode cX7_maySwap 1 = .ok (.iload_n 1, 1) := by decide +kernel
theorem dX7_maySwap_2 : decode cX7_maySwap 2 = .ok (.invokevirtual 39, 3) := by decide +kernel
theorem dX7_maySwap_5 : decode cX7_maySwap 5 = .ok (.ifCond .eq 45, 3) := by decide +kernel
theorem dX7_maySwap_8 : decode cX7_maySwap 8 = .ok (.aload_n 0, 1) := by decide +kernel
theorem dX7_maySwap_9 : decode cX7_maySwap 9 = .ok (.iload_n 1, 1) := by decide +kernel
theorem dX7_maySwap_10 : decode cX7_maySwap 10 = .ok (.iconst 1, 1) := by decide +kernel
theorem dX7_maySwap_11 : decode cX7_maySwap 11 = .ok (.iadd, 1) := by decide +kernel
theorem dX7_maySwap_12 : decode cX7_maySwap 12 = .ok (.invokevirtual 39, 3) := by decide +kernel
theorem dX7_maySwap_15 : decode cX7_maySwap 15 = .ok (.ifCond .eq 35, 3) := by decide +kernel
theorem dX7_maySwap_18 : decode cX7_maySwap 18 = .ok (.aload_n 0, 1) := by decide +kernel
theorem dX7_maySwap_19 : decode cX7_maySwap 19 = .ok (.getfield 12, 3) := by decide +kernel
theorem dX7_maySwap_22 : decode cX7_maySwap 22 = .ok (.getfield 43, 3) := by decide +kernel
theorem dX7_maySwap_25 : decode cX7_maySwap 25 = .ok (.aload_n 0, 1) := by decide +kernel
theorem dX7_maySwap_26 : decode cX7_maySwap 26 = .ok (.getfield 26, 3) := by decide +kernel
theorem dX7_maySwap_29 : decode cX7_maySwap 29 = .ok (.iload_n 1, 1) := by decide +kernel
theorem dX7_maySwap_30 : decode cX7_maySwap 30 = .ok (.iconst 1, 1) := by decide +kernel
theorem dX7_maySwap_31 : decode cX7_maySwap 31 = .ok (.iadd, 1) := by decide +kernel
theorem dX7_maySwap_32 : decode cX7_maySwap 32 = .ok (.iaload, 1) := by decide +kernel
theorem dX7_maySwap_33 : decode cX7_maySwap 33 = .ok (.iaload, 1) := by decide +kernel
theorem dX7_maySwap_34 : decode cX7_maySwap 34 = .ok (.aload_n 0, 1) := by decide +kernel
theorem dX7_maySwap_35 : decode cX7_maySwap 35 = .ok (.getfield 26, 3) := by decide +kernel
theorem dX7_maySwap_38 : decode cX7_maySwap 38 = .ok (.iload_n 1, 1) := by decide +kernel
theorem dX7_maySwap_39 : decode cX7_maySwap 39 = .ok (.iaload, 1) := by decide +kernel
theorem dX7_maySwap_40 : decode cX7_maySwap 40 = .ok (.invokestatic 46, 3) := by decide +kernel
theorem dX7_maySwap_43 : decode cX7_maySwap 43 = .ok (.ifCond .ne 7, 3) := by decide +kernel
theorem dX7_maySwap_46 : decode cX7_maySwap 46 = .ok (.iconst 1, 1) := by decide +kernel
theorem dX7_maySwap_47 : decode cX7_maySwap 47 = .ok (.goto 4, 3) := by decide +kernel
theorem dX7_maySwap_50 : decode cX7_maySwap 50 = .ok (.iconst 0, 1) := by decide +kernel
theorem dX7_maySwap_51 : decode cX7_maySwap 51 = .ok (.ireturn, 1) := by decide +kernel
theorem dX7_exchange_0 : decode cX7_exchange 0 = .ok (.aload_n 0, 1) := by decide +kernel
theorem dX7_exchange_1 : decode cX7_exchange 1 = .ok (.iload_n 1, 1) := by decide +kernel
theorem dX7_exchange_2 : decode cX7_exchange 2 = .ok (.invokevirtual 39, 3) := by decide +kernel
theorem dX7_exchange_5 : decode cX7_exchange 5 = .ok (.ifCond .eq 43, 3) := by decide +kernel
theorem dX7_exchange_8 : decode cX7_exchange 8 = .ok (.aload_n 0, 1) := by decide +kernel
theorem dX7_exchange_9 : decode cX7_exchange 9 = .ok (.iload_n 1, 1) := by decide +kernel
theorem dX7_exchange_10 : decode cX7_exchange 10 = .ok (.iconst 1, 1) := by decide +kernel
theorem dX7_exchange_11 : decode cX7_exchange 11 = .ok (.iadd, 1) := by decide +kernel
theorem dX7_exchange_12 : decode cX7_exchange 12 = .ok (.invokevirtual 39, 3) := by decide +kernel
theorem dX7_exchange_15 : decode cX7_exchange 15 = .ok (.ifCond .eq 33, 3) := by decide +kernel
theorem dX7_exchange_18 : decode cX7_exchange 18 = .ok (.aload_n 0, 1) := by decide +kernel
theorem dX7_exchange_19 : decode cX7_exchange 19 = .ok (.getfield 26, 3) := by decide +kernel
theorem dX7_exchange_22 : decode cX7_exchange 22 = .ok (.iload_n 1, 1) := by decide +kernel
theorem dX7_exchange_23 : decode cX7_exchange 23 = .ok (.iaload, 1) := by decide +kernel
theorem dX7_exchange_24 : decode cX7_exchange 24 = .ok (.istore_n 2, 1) := by decide +kernel
theorem dX7_exchange_25 : decode cX7_exchange 25 = .ok (.aload_n 0, 1) := by decide +kernel
theorem dX7_exchange_26 : decode cX7_exchange 26 = .ok (.getfield 26, 3) := by decide +kernel
theorem dX7_exchange_29 : decode cX7_exchange 29 = .ok (.iload_n 1, 1) := by decide +kernel
theorem dX7_exchange_30 : decode cX7_exchange 30 = .ok (.aload_n 0, 1) := by decide +kernel
theorem dX7_exchange_31 : decode cX7_exchange 31 = .ok (.getfield 26, 3) := by decide +kernel
theorem dX7_exchange_34 : decode cX7_exchange 34 = .ok (.iload_n 1, 1) := by decide +kernel
theorem dX7_exchange_35 : decode cX7_exchange 35 = .ok (.iconst 1, 1) := by decide +kernel
theorem dX7_exchange_36 : decode cX7_exchange 36 = .ok (.iadd, 1) := by decide +kernel
theorem dX7_exchange_37 : decode cX7_exchange 37 = .ok (.iaload, 1) := by decide +kernel
theorem dX7_exchange_38 : decode cX7_exchange 38 = .ok (.iastore, 1) := by decide +kernel
theorem dX7_exchange_39 : decode cX7_exchange 39 = .ok (.aload_n 0, 1) := by decide +kernel
theorem dX7_exchange_40 : decode cX7_exchange 40 = .ok (.getfield 26, 3) := by decide +kernel
theorem dX7_exchange_43 : decode cX7_exchange 43 = .ok (.iload_n 1, 1) := by decide +kernel
theorem dX7_exchange_44 : decode cX7_exchange 44 = .ok (.iconst 1, 1) := by decide +kernel
theorem dX7_exchange_45 : decode cX7_exchange 45 = .ok (.iadd, 1) := by decide +kernel
theorem dX7_exchange_46 : decode cX7_exchange 46 = .ok (.iload_n 2, 1) := by decide +kernel
theorem dX7_exchange_47 : decode cX7_exchange 47 = .ok (.iastore, 1) := by decide +kernel
theorem dX7_exchange_48 : decode cX7_exchange 48 = .ok (.return_, 1) := by decide +kernel
theorem dX7_countTurned_0 : decode cX7_countTurned 0 = .ok (.iconst 0, 1) := by decide +kernel
theorem dX7_countTurned_1 : decode cX7_countTurned 1 = .ok (.istore_n 1, 1) := by decide +kernel
theorem dX7_countTurned_2 : decode cX7_countTurned 2 = .ok (.iconst 0, 1) := by decide +kernel
theorem dX7_countTurned_3 : decode cX7_countTurned 3 = .ok (.istore_n 2, 1) := by decide +kernel
theorem dX7_countTurned_4 : decode cX7_countTurned 4 = .ok (.iload_n 2, 1) := by decide +kernel
theorem dX7_countTurned_5 : decode cX7_countTurned 5 = .ok (.aload_n 0, 1) := by decide +kernel
theorem dX7_countTurned_6 : decode cX7_countTurned 6 = .ok (.getfield 29, 3) := by decide +kernel
theorem dX7_countTurned_9 : decode cX7_countTurned 9 = .ok (.if_icmp .ge 40, 3) := by decide +kernel
theorem dX7_countTurned_12 : decode cX7_countTurned 12 = .ok (.iconst 0, 1) := by decide +kernel
theorem dX7_countTurned_13 : decode cX7_countTurned 13 = .ok (.istore_n 3, 1) := by decide +kernel
theorem dX7_countTurned_14 : decode cX7_countTurned 14 = .ok (.iload_n 3, 1) := by decide +kernel
theorem dX7_countTurned_15 : decode cX7_countTurned 15 = .ok (.iload_n 2, 1) := by decide +kernel
theorem dX7_countTurned_16 : decode cX7_countTurned 16 = .ok (.if_icmp .ge 27, 3) := by decide +kernel
theorem dX7_countTurned_19 : decode cX7_countTurned 19 = .ok (.aload_n 0, 1) := by decide +kernel
theorem dX7_countTurned_20 : decode cX7_countTurned 20 = .ok (.getfield 26, 3) := by decide +kernel
theorem dX7_countTurned_23 : decode cX7_countTurned 23 = .ok (.iload_n 3, 1) := by decide +kernel
theorem dX7_countTurned_24 : decode cX7_countTurned 24 = .ok (.iaload, 1) := by decide +kernel
theorem dX7_countTurned_25 : decode cX7_countTurned 25 = .ok (.aload_n 0, 1) := by decide +kernel
theorem dX7_countTurned_26 : decode cX7_countTurned 26 = .ok (.getfield 26, 3) := by decide +kernel
theorem dX7_countTurned_29 : decode cX7_countTurned 29 = .ok (.iload_n 2, 1) := by decide +kernel
theorem dX7_countTurned_30 : decode cX7_countTurned 30 = .ok (.iaload, 1) := by decide +kernel
theorem dX7_countTurned_31 : decode cX7_countTurned 31 = .ok (.if_icmp .le 6, 3) := by decide +kernel
theorem dX7_countTurned_34 : decode cX7_countTurned 34 = .ok (.iinc 1 1, 3) := by decide +kernel
theorem dX7_countTurned_37 : decode cX7_countTurned 37 = .ok (.iinc 3 1, 3) := by decide +kernel
theorem dX7_countTurned_40 : decode cX7_countTurned 40 = .ok (.goto (-26), 3) := by decide +kernel
theorem dX7_countTurned_43 : decode cX7_countTurned 43 = .ok (.iinc 2 1, 3) := by decide +kernel
theorem dX7_countTurned_46 : decode cX7_countTurned 46 = .ok (.goto (-42), 3) := by decide +kernel
theorem dX7_countTurned_49 : decode cX7_countTurned 49 = .ok (.iload_n 1, 1) := by decide +kernel
theorem dX7_countTurned_50 : decode cX7_countTurned 50 = .ok (.ireturn, 1) := by decide +kernel
theorem dX8_init_0 : decode cX8_init 0 = .ok (.aload_n 0, 1) := by decide +kernel
theorem dX8_init_1 : decode cX8_init 1 = .ok (.invokespecial 3, 3) := by decide +kernel
theorem dX8_init_4 : decode cX8_init 4 = .ok (.aload_n 0, 1) := by decide +kernel
theorem dX8_init_5 : decode cX8_init 5 = .ok (.sipush 900, 3) := by decide +kernel
theorem dX8_init_8 : decode cX8_init 8 = .ok (.newarray .byte, 2) := by decide +kernel
theorem dX8_init_10 : decode cX8_init 10 = .ok (.putfield 9, 3) := by decide +kernel
theorem dX8_init_13 : decode cX8_init 13 = .ok (.aload_n 0, 1) := by decide +kernel
theorem dX8_init_14 : decode cX8_init 14 = .ok (.bipush 28, 2) := by decide +kernel
theorem dX8_init_16 : decode cX8_init 16 = .ok (.newarray .long, 2) := by decide +kernel
theorem dX8_init_18 : decode cX8_init 18 = .ok (.putfield 15, 3) := by decide +kernel
theorem dX8_init_21 : decode cX8_init 21 = .ok (.aload_n 0, 1) := by decide +kernel
theorem dX8_init_22 : decode cX8_init 22 = .ok (.iconst 0, 1) := by decide +kernel
theorem dX8_init_23 : decode cX8_init 23 = .ok (.putfield 19, 3) := by decide +kernel
theorem dX8_init_26 : decode cX8_init 26 = .ok (.aload_n 0, 1) := by decide +kernel
theorem dX8_init_27 : decode cX8_init 27 = .ok (.iconst (-1), 1) := by decide +kernel
theorem dX8_init_28 : decode cX8_init 28 = .ok (.putfield 23, 3) := by decide +kernel
theorem dX8_init_31 : decode cX8_init 31 = .ok (.aload_n 0, 1) := by decide +kernel
theorem dX8_init_32 : decode cX8_init 32 = .ok (.iconst (-1), 1) := by decide +kernel
theorem dX8_init_33 : decode cX8_init 33 = .ok (.putfield 26, 3) := by decide +kernel
theorem dX8_init_36 : decode cX8_init 36 = .ok (.aload_n 0, 1) := by decide +kernel
theorem dX8_init_37 : decode cX8_init 37 = .ok (.iconst 0, 1) := by decide +kernel
theorem dX8_init_38 : decode cX8_init 38 = .ok (.putfield 29, 3) := by decide +kernel
theorem dX8_init_41 : decode cX8_init 41 = .ok (.aload_n 0, 1) := by decide +kernel
theorem dX8_init_42 : decode cX8_init 42 = .ok (.sipush 901, 3) := by decide +kernel
theorem dX8_init_45 : decode cX8_init 45 = .ok (.newarray .int, 2) := by decide +kernel
theorem dX8_init_47 : decode cX8_init 47 = .ok (.putfield 32, 3) := by decide +kernel
theorem dX8_init_50 : decode cX8_init 50 = .ok (.aload_n 0, 1) := by decide +kernel
theorem dX8_init_51 : decode cX8_init 51 = .ok (.sipush 901, 3) := by decide +kernel
theorem dX8_init_54 : decode cX8_init 54 = .ok (.newarray .int, 2) := by decide +kernel
theorem dX8_init_56 : decode cX8_init 56 = .ok (.putfield 36, 3) := by decide +kernel
theorem dX8_init_59 : decode cX8_init 59 = .ok (.aload_n 0, 1) := by decide +kernel
theorem dX8_init_60 : decode cX8_init 60 = .ok (.sipush 901, 3) := by decide +kernel
theorem dX8_init_63 : decode cX8_init 63 = .ok (.newarray .long, 2) := by decide +kernel
theorem dX8_init_65 : decode cX8_init 65 = .ok (.putfield 39, 3) := by decide +kernel
theorem dX8_init_68 : decode cX8_init 68 = .ok (.aload_n 0, 1) := by decide +kernel
theorem dX8_init_69 : decode cX8_init 69 = .ok (.iconst 0, 1) := by decide +kernel
theorem dX8_init_70 : decode cX8_init 70 = .ok (.putfield 42, 3) := by decide +kernel
theorem dX8_init_73 : decode cX8_init 73 = .ok (.aload_n 0, 1) := by decide +kernel
theorem dX8_init_74 : decode cX8_init 74 = .ok (.iconst 0, 1) := by decide +kernel
theorem dX8_init_75 : decode cX8_init 75 = .ok (.putfield 45, 3) := by decide +kernel
theorem dX8_init_78 : decode cX8_init 78 = .ok (.iconst 0, 1) := by decide +kernel
theorem dX8_init_79 : decode cX8_init 79 = .ok (.istore_n 1, 1) := by decide +kernel
theorem dX8_init_80 : decode cX8_init 80 = .ok (.lconst 0, 1) := by decide +kernel
theorem dX8_init_81 : decode cX8_init 81 = .ok (.lstore_n 2, 1) := by decide +kernel
theorem dX8_init_82 : decode cX8_init 82 = .ok (.iconst 0, 1) := by decide +kernel
theorem dX8_init_83 : decode cX8_init 83 = .ok (.istore 4, 2) := by decide +kernel
theorem dX8_init_85 : decode cX8_init 85 = .ok (.iload 4, 2) := by decide +kernel
theorem dX8_init_87 : decode cX8_init 87 = .ok (.ldc 48, 2) := by decide +kernel
theorem dX8_init_89 : decode cX8_init 89 = .ok (.invokevirtual 50, 3) := by decide +kernel
theorem dX8_init_92 : decode cX8_init 92 = .ok (.if_icmp .ge 53, 3) := by decide +kernel
theorem dX8_init_95 : decode cX8_init 95 = .ok (.iload_n 1, 1) := by decide +kernel
theorem dX8_init_96 : decode cX8_init 96 = .ok (.bipush 28, 2) := by decide +kernel
theorem dX8_init_98 : decode cX8_init 98 = .ok (.if_icmp .ge 47, 3) := by decide +kernel
theorem dX8_init_101 : decode cX8_init 101 = .ok (.ldc 48, 2) := by decide +kernel
theorem dX8_init_103 : decode cX8_init 103 = .ok (.iload 4, 2) := by decide +kernel
theorem dX8_init_105 : decode cX8_init 105 = .ok (.invokevirtual 56, 3) := by decide +kernel
theorem dX8_init_108 : decode cX8_init 108 = .ok (.istore 5, 2) := by decide +kernel
theorem dX8_init_110 : decode cX8_init 110 = .ok (.iload 5, 2) := by decide +kernel
theorem dX8_init_112 : decode cX8_init 112 = .ok (.bipush 32, 2) := by decide +kernel
theorem dX8_init_114 : decode cX8_init 114 = .ok (.if_icmp .ne 18, 3) := by decide +kernel
theorem dX8_init_117 : decode cX8_init 117 = .ok (.aload_n 0, 1) := by decide +kernel
theorem dX8_init_118 : decode cX8_init 118 = .ok (.getfield 15, 3) := by decide +kernel
theorem dX8_init_121 : decode cX8_init 121 = .ok (.iload_n 1, 1) := by decide +kernel
theorem dX8_init_122 : decode cX8_init 122 = .ok (.lload_n 2, 1) := by decide +kernel
theorem dX8_init_123 : decode cX8_init 123 = .ok (.lastore, 1) := by decide +kernel
theorem dX8_init_124 : decode cX8_init 124 = .ok (.iinc 1 1, 3) := by decide +kernel
theorem dX8_init_127 : decode cX8_init 127 = .ok (.lconst 0, 1) := by decide +kernel
theorem dX8_init_128 : decode cX8_init 128 = .ok (.lstore_n 2, 1) := by decide +kernel
theorem dX8_init_129 : decode cX8_init 129 = .ok (.goto 10, 3) := by decide +kernel
theorem dX8_init_132 : decode cX8_init 132 = .ok (.lload_n 2, 1) := by decide +kernel
theorem dX8_init_133 : decode cX8_init 133 = .ok (.iload 5, 2) := by decide +kernel
theorem dX8_init_135 : decode cX8_init 135 = .ok (.invokestatic 60, 3) := by decide +kernel
theorem dX8_init_138 : decode cX8_init 138 = .ok (.lstore_n 2, 1) := by decide +kernel
theorem dX8_init_139 : decode cX8_init 139 = .ok (.iinc 4 1, 3) := by decide +kernel
theorem dX8_init_142 : decode cX8_init 142 = .ok (.goto (-57), 3) := by decide +kernel
theorem dX8_init_145 : decode cX8_init 145 = .ok (.return_, 1) := by decide +kernel
theorem dX8_withLetter_0 : decode cX8_withLetter 0 = .ok (.lload_n 0, 1) := by decide +kernel
theorem dX8_withLetter_1 : decode cX8_withLetter 1 = .ok (.ldc2_w 64, 3) := by decide +kernel
theorem dX8_withLetter_4 : decode cX8_withLetter 4 = .ok (.lmul, 1) := by decide +kernel
theorem dX8_withLetter_5 : decode cX8_withLetter 5 = .ok (.iload_n 2, 1) := by decide +kernel
theorem dX8_withLetter_6 : decode cX8_withLetter 6 = .ok (.bipush 97, 2) := by decide +kernel
theorem dX8_withLetter_8 : decode cX8_withLetter 8 = .ok (.isub, 1) := by decide +kernel
theorem dX8_withLetter_9 : decode cX8_withLetter 9 = .ok (.iconst 1, 1) := by decide +kernel
theorem dX8_withLetter_10 : decode cX8_withLetter 10 = .ok (.iadd, 1) := by decide +kernel
