theorem dX12_heaviest_2 : decode cX12_heaviest 2 = .ok (.putfield 75, 3) := by decide +kernel
theorem dX12_heaviest_5 : decode cX12_heaviest 5 = .ok (.aload_n 0, 1) := by decide +kernel
theorem dX12_heaviest_6 : decode cX12_heaviest 6 = .ok (.iconst 0, 1) := by decide +kernel
theorem dX12_heaviest_7 : decode cX12_heaviest 7 = .ok (.putfield 78, 3) := by decide +kernel
theorem dX12_heaviest_10 : decode cX12_heaviest 10 = .ok (.iconst (-1), 1) := by decide +kernel
theorem dX12_heaviest_11 : decode cX12_heaviest 11 = .ok (.istore_n 1, 1) := by decide +kernel
theorem dX12_heaviest_12 : decode cX12_heaviest 12 = .ok (.iconst 0, 1) := by decide +kernel
theorem dX12_heaviest_13 : decode cX12_heaviest 13 = .ok (.istore_n 2, 1) := by decide +kernel
theorem dX12_heaviest_14 : decode cX12_heaviest 14 = .ok (.iload_n 2, 1) := by decide +kernel
theorem dX12_heaviest_15 : decode cX12_heaviest 15 = .ok (.aload_n 0, 1) := by decide +kernel
theorem dX12_heaviest_16 : decode cX12_heaviest 16 = .ok (.getfield 35, 3) := by decide +kernel
theorem dX12_heaviest_19 : decode cX12_heaviest 19 = .ok (.iconst 0, 1) := by decide +kernel
theorem dX12_heaviest_20 : decode cX12_heaviest 20 = .ok (.iaload, 1) := by decide +kernel
theorem dX12_heaviest_21 : decode cX12_heaviest 21 = .ok (.if_icmp .ge 34, 3) := by decide +kernel
theorem dX12_heaviest_24 : decode cX12_heaviest 24 = .ok (.iload_n 1, 1) := by decide +kernel
theorem dX12_heaviest_25 : decode cX12_heaviest 25 = .ok (.ifCond .lt 22, 3) := by decide +kernel
theorem dX12_heaviest_28 : decode cX12_heaviest 28 = .ok (.aload_n 0, 1) := by decide +kernel
theorem dX12_heaviest_29 : decode cX12_heaviest 29 = .ok (.iload_n 2, 1) := by decide +kernel
theorem dX12_heaviest_30 : decode cX12_heaviest 30 = .ok (.invokevirtual 316, 3) := by decide +kernel
theorem dX12_heaviest_33 : decode cX12_heaviest 33 = .ok (.invokestatic 325, 3) := by decide +kernel
theorem dX12_heaviest_36 : decode cX12_heaviest 36 = .ok (.aload_n 0, 1) := by decide +kernel
theorem dX12_heaviest_37 : decode cX12_heaviest 37 = .ok (.iload_n 1, 1) := by decide +kernel
theorem dX12_heaviest_38 : decode cX12_heaviest 38 = .ok (.invokevirtual 316, 3) := by decide +kernel
theorem dX12_heaviest_41 : decode cX12_heaviest 41 = .ok (.invokestatic 325, 3) := by decide +kernel
theorem dX12_heaviest_44 : decode cX12_heaviest 44 = .ok (.if_icmp .le 5, 3) := by decide +kernel
theorem dX12_heaviest_47 : decode cX12_heaviest 47 = .ok (.iload_n 2, 1) := by decide +kernel
theorem dX12_heaviest_48 : decode cX12_heaviest 48 = .ok (.istore_n 1, 1) := by decide +kernel
theorem dX12_heaviest_49 : decode cX12_heaviest 49 = .ok (.iinc 2 1, 3) := by decide +kernel
theorem dX12_heaviest_52 : decode cX12_heaviest 52 = .ok (.goto (-38), 3) := by decide +kernel
theorem dX12_heaviest_55 : decode cX12_heaviest 55 = .ok (.iload_n 1, 1) := by decide +kernel
theorem dX12_heaviest_56 : decode cX12_heaviest 56 = .ok (.ifCond .ge 12, 3) := by decide +kernel
theorem dX12_heaviest_59 : decode cX12_heaviest 59 = .ok (.aload_n 0, 1) := by decide +kernel
theorem dX12_heaviest_60 : decode cX12_heaviest 60 = .ok (.bipush 8, 2) := by decide +kernel
theorem dX12_heaviest_62 : decode cX12_heaviest 62 = .ok (.invokevirtual 299, 3) := by decide +kernel
theorem dX12_heaviest_65 : decode cX12_heaviest 65 = .ok (.goto 4, 3) := by decide +kernel
theorem dX12_heaviest_68 : decode cX12_heaviest 68 = .ok (.iload_n 1, 1) := by decide +kernel
theorem dX12_heaviest_69 : decode cX12_heaviest 69 = .ok (.ireturn, 1) := by decide +kernel
theorem dX12_alone_0 : decode cX12_alone 0 = .ok (.aload_n 0, 1) := by decide +kernel
theorem dX12_alone_1 : decode cX12_alone 1 = .ok (.iconst 0, 1) := by decide +kernel
theorem dX12_alone_2 : decode cX12_alone 2 = .ok (.putfield 75, 3) := by decide +kernel
theorem dX12_alone_5 : decode cX12_alone 5 = .ok (.aload_n 0, 1) := by decide +kernel
theorem dX12_alone_6 : decode cX12_alone 6 = .ok (.iconst 0, 1) := by decide +kernel
theorem dX12_alone_7 : decode cX12_alone 7 = .ok (.putfield 78, 3) := by decide +kernel
theorem dX12_alone_10 : decode cX12_alone 10 = .ok (.iconst 0, 1) := by decide +kernel
theorem dX12_alone_11 : decode cX12_alone 11 = .ok (.istore_n 1, 1) := by decide +kernel
theorem dX12_alone_12 : decode cX12_alone 12 = .ok (.iconst 0, 1) := by decide +kernel
theorem dX12_alone_13 : decode cX12_alone 13 = .ok (.istore_n 2, 1) := by decide +kernel
theorem dX12_alone_14 : decode cX12_alone 14 = .ok (.iload_n 2, 1) := by decide +kernel
theorem dX12_alone_15 : decode cX12_alone 15 = .ok (.aload_n 0, 1) := by decide +kernel
theorem dX12_alone_16 : decode cX12_alone 16 = .ok (.getfield 35, 3) := by decide +kernel
theorem dX12_alone_19 : decode cX12_alone 19 = .ok (.iconst 0, 1) := by decide +kernel
theorem dX12_alone_20 : decode cX12_alone 20 = .ok (.iaload, 1) := by decide +kernel
theorem dX12_alone_21 : decode cX12_alone 21 = .ok (.if_icmp .ge 36, 3) := by decide +kernel
theorem dX12_alone_24 : decode cX12_alone 24 = .ok (.iload_n 1, 1) := by decide +kernel
theorem dX12_alone_25 : decode cX12_alone 25 = .ok (.aload_n 0, 1) := by decide +kernel
theorem dX12_alone_26 : decode cX12_alone 26 = .ok (.iconst 0, 1) := by decide +kernel
theorem dX12_alone_27 : decode cX12_alone 27 = .ok (.iload_n 2, 1) := by decide +kernel
theorem dX12_alone_28 : decode cX12_alone 28 = .ok (.invokevirtual 239, 3) := by decide +kernel
theorem dX12_alone_31 : decode cX12_alone 31 = .ok (.ifCond .ne 17, 3) := by decide +kernel
theorem dX12_alone_34 : decode cX12_alone 34 = .ok (.aload_n 0, 1) := by decide +kernel
theorem dX12_alone_35 : decode cX12_alone 35 = .ok (.iload_n 2, 1) := by decide +kernel
theorem dX12_alone_36 : decode cX12_alone 36 = .ok (.invokevirtual 316, 3) := by decide +kernel
theorem dX12_alone_39 : decode cX12_alone 39 = .ok (.ifCond .ne 9, 3) := by decide +kernel
theorem dX12_alone_42 : decode cX12_alone 42 = .ok (.iconst 1, 1) := by decide +kernel
theorem dX12_alone_43 : decode cX12_alone 43 = .ok (.iload_n 2, 1) := by decide +kernel
theorem dX12_alone_44 : decode cX12_alone 44 = .ok (.ishl, 1) := by decide +kernel
theorem dX12_alone_45 : decode cX12_alone 45 = .ok (.goto 4, 3) := by decide +kernel
theorem dX12_alone_48 : decode cX12_alone 48 = .ok (.iconst 0, 1) := by decide +kernel
theorem dX12_alone_49 : decode cX12_alone 49 = .ok (.ior, 1) := by decide +kernel
theorem dX12_alone_50 : decode cX12_alone 50 = .ok (.istore_n 1, 1) := by decide +kernel
theorem dX12_alone_51 : decode cX12_alone 51 = .ok (.iinc 2 1, 3) := by decide +kernel
theorem dX12_alone_54 : decode cX12_alone 54 = .ok (.goto (-40), 3) := by decide +kernel
theorem dX12_alone_57 : decode cX12_alone 57 = .ok (.iload_n 1, 1) := by decide +kernel
theorem dX12_alone_58 : decode cX12_alone 58 = .ok (.ireturn, 1) := by decide +kernel
theorem dX12_isLeftOut_0 : decode cX12_isLeftOut 0 = .ok (.iconst 0, 1) := by decide +kernel
theorem dX12_isLeftOut_1 : decode cX12_isLeftOut 1 = .ok (.istore_n 3, 1) := by decide +kernel
theorem dX12_isLeftOut_2 : decode cX12_isLeftOut 2 = .ok (.iload_n 3, 1) := by decide +kernel
theorem dX12_isLeftOut_3 : decode cX12_isLeftOut 3 = .ok (.aload_n 0, 1) := by decide +kernel
theorem dX12_isLeftOut_4 : decode cX12_isLeftOut 4 = .ok (.getfield 35, 3) := by decide +kernel
theorem dX12_isLeftOut_7 : decode cX12_isLeftOut 7 = .ok (.iconst 0, 1) := by decide +kernel
theorem dX12_isLeftOut_8 : decode cX12_isLeftOut 8 = .ok (.iaload, 1) := by decide +kernel
theorem dX12_isLeftOut_9 : decode cX12_isLeftOut 9 = .ok (.if_icmp .ge 42, 3) := by decide +kernel
theorem dX12_isLeftOut_12 : decode cX12_isLeftOut 12 = .ok (.iload_n 1, 1) := by decide +kernel
theorem dX12_isLeftOut_13 : decode cX12_isLeftOut 13 = .ok (.iload_n 3, 1) := by decide +kernel
theorem dX12_isLeftOut_14 : decode cX12_isLeftOut 14 = .ok (.invokestatic 302, 3) := by decide +kernel
theorem dX12_isLeftOut_17 : decode cX12_isLeftOut 17 = .ok (.ifCond .eq 28, 3) := by decide +kernel
theorem dX12_isLeftOut_20 : decode cX12_isLeftOut 20 = .ok (.aload_n 0, 1) := by decide +kernel
theorem dX12_isLeftOut_21 : decode cX12_isLeftOut 21 = .ok (.iconst 0, 1) := by decide +kernel
theorem dX12_isLeftOut_22 : decode cX12_isLeftOut 22 = .ok (.iload_n 3, 1) := by decide +kernel
theorem dX12_isLeftOut_23 : decode cX12_isLeftOut 23 = .ok (.invokevirtual 239, 3) := by decide +kernel
theorem dX12_isLeftOut_26 : decode cX12_isLeftOut 26 = .ok (.iconst 4, 1) := by decide +kernel
theorem dX12_isLeftOut_27 : decode cX12_isLeftOut 27 = .ok (.if_icmp .ne 18, 3) := by decide +kernel
theorem dX12_isLeftOut_30 : decode cX12_isLeftOut 30 = .ok (.aload_n 0, 1) := by decide +kernel
theorem dX12_isLeftOut_31 : decode cX12_isLeftOut 31 = .ok (.getfield 35, 3) := by decide +kernel
theorem dX12_isLeftOut_34 : decode cX12_isLeftOut 34 = .ok (.bipush 66, 2) := by decide +kernel
theorem dX12_isLeftOut_36 : decode cX12_isLeftOut 36 = .ok (.iload_n 3, 1) := by decide +kernel
theorem dX12_isLeftOut_37 : decode cX12_isLeftOut 37 = .ok (.iadd, 1) := by decide +kernel
theorem dX12_isLeftOut_38 : decode cX12_isLeftOut 38 = .ok (.iaload, 1) := by decide +kernel
theorem dX12_isLeftOut_39 : decode cX12_isLeftOut 39 = .ok (.iload_n 2, 1) := by decide +kernel
theorem dX12_isLeftOut_40 : decode cX12_isLeftOut 40 = .ok (.if_icmp .ne 5, 3) := by decide +kernel
theorem dX12_isLeftOut_43 : decode cX12_isLeftOut 43 = .ok (.iconst 1, 1) := by decide +kernel
theorem dX12_isLeftOut_44 : decode cX12_isLeftOut 44 = .ok (.ireturn, 1) := by decide +kernel
theorem dX12_isLeftOut_45 : decode cX12_isLeftOut 45 = .ok (.iinc 3 1, 3) := by decide +kernel
theorem dX12_isLeftOut_48 : decode cX12_isLeftOut 48 = .ok (.goto (-46), 3) := by decide +kernel
theorem dX12_isLeftOut_51 : decode cX12_isLeftOut 51 = .ok (.iconst 0, 1) := by decide +kernel
theorem dX12_isLeftOut_52 : decode cX12_isLeftOut 52 = .ok (.ireturn, 1) := by decide +kernel
theorem dX12_isSettled_0 : decode cX12_isSettled 0 = .ok (.iconst 0, 1) := by decide +kernel
theorem dX12_isSettled_1 : decode cX12_isSettled 1 = .ok (.istore 4, 2) := by decide +kernel
theorem dX12_isSettled_3 : decode cX12_isSettled 3 = .ok (.iload 4, 2) := by decide +kernel
theorem dX12_isSettled_5 : decode cX12_isSettled 5 = .ok (.aload_n 0, 1) := by decide +kernel
theorem dX12_isSettled_6 : decode cX12_isSettled 6 = .ok (.getfield 35, 3) := by decide +kernel
theorem dX12_isSettled_9 : decode cX12_isSettled 9 = .ok (.iconst 0, 1) := by decide +kernel
theorem dX12_isSettled_10 : decode cX12_isSettled 10 = .ok (.iaload, 1) := by decide +kernel
theorem dX12_isSettled_11 : decode cX12_isSettled 11 = .ok (.if_icmp .ge 90, 3) := by decide +kernel
theorem dX12_isSettled_14 : decode cX12_isSettled 14 = .ok (.iload_n 1, 1) := by decide +kernel
theorem dX12_isSettled_15 : decode cX12_isSettled 15 = .ok (.iload 4, 2) := by decide +kernel
theorem dX12_isSettled_17 : decode cX12_isSettled 17 = .ok (.invokestatic 302, 3) := by decide +kernel
theorem dX12_isSettled_20 : decode cX12_isSettled 20 = .ok (.ifCond .eq 75, 3) := by decide +kernel
theorem dX12_isSettled_23 : decode cX12_isSettled 23 = .ok (.aload_n 0, 1) := by decide +kernel
theorem dX12_isSettled_24 : decode cX12_isSettled 24 = .ok (.iconst 0, 1) := by decide +kernel
theorem dX12_isSettled_25 : decode cX12_isSettled 25 = .ok (.iload 4, 2) := by decide +kernel
theorem dX12_isSettled_27 : decode cX12_isSettled 27 = .ok (.invokevirtual 239, 3) := by decide +kernel
theorem dX12_isSettled_30 : decode cX12_isSettled 30 = .ok (.iconst 4, 1) := by decide +kernel
theorem dX12_isSettled_31 : decode cX12_isSettled 31 = .ok (.if_icmp .eq 6, 3) := by decide +kernel
theorem dX12_isSettled_34 : decode cX12_isSettled 34 = .ok (.goto 61, 3) := by decide +kernel
theorem dX12_isSettled_37 : decode cX12_isSettled 37 = .ok (.aload_n 0, 1) := by decide +kernel
theorem dX12_isSettled_38 : decode cX12_isSettled 38 = .ok (.getfield 35, 3) := by decide +kernel
theorem dX12_isSettled_41 : decode cX12_isSettled 41 = .ok (.bipush 50, 2) := by decide +kernel
theorem dX12_isSettled_43 : decode cX12_isSettled 43 = .ok (.iload 4, 2) := by decide +kernel
theorem dX12_isSettled_45 : decode cX12_isSettled 45 = .ok (.iadd, 1) := by decide +kernel
theorem dX12_isSettled_46 : decode cX12_isSettled 46 = .ok (.iaload, 1) := by decide +kernel
theorem dX12_isSettled_47 : decode cX12_isSettled 47 = .ok (.iload_n 2, 1) := by decide +kernel
theorem dX12_isSettled_48 : decode cX12_isSettled 48 = .ok (.if_icmp .ne 17, 3) := by decide +kernel
theorem dX12_isSettled_51 : decode cX12_isSettled 51 = .ok (.aload_n 0, 1) := by decide +kernel
theorem dX12_isSettled_52 : decode cX12_isSettled 52 = .ok (.getfield 35, 3) := by decide +kernel
theorem dX12_isSettled_55 : decode cX12_isSettled 55 = .ok (.bipush 66, 2) := by decide +kernel
theorem dX12_isSettled_57 : decode cX12_isSettled 57 = .ok (.iload 4, 2) := by decide +kernel
theorem dX12_isSettled_59 : decode cX12_isSettled 59 = .ok (.iadd, 1) := by decide +kernel
theorem dX12_isSettled_60 : decode cX12_isSettled 60 = .ok (.iaload, 1) := by decide +kernel
theorem dX12_isSettled_61 : decode cX12_isSettled 61 = .ok (.iload_n 3, 1) := by decide +kernel
theorem dX12_isSettled_62 : decode cX12_isSettled 62 = .ok (.if_icmp .eq 31, 3) := by decide +kernel
theorem dX12_isSettled_65 : decode cX12_isSettled 65 = .ok (.aload_n 0, 1) := by decide +kernel
theorem dX12_isSettled_66 : decode cX12_isSettled 66 = .ok (.getfield 35, 3) := by decide +kernel
theorem dX12_isSettled_69 : decode cX12_isSettled 69 = .ok (.bipush 50, 2) := by decide +kernel
theorem dX12_isSettled_71 : decode cX12_isSettled 71 = .ok (.iload 4, 2) := by decide +kernel
theorem dX12_isSettled_73 : decode cX12_isSettled 73 = .ok (.iadd, 1) := by decide +kernel
theorem dX12_isSettled_74 : decode cX12_isSettled 74 = .ok (.iaload, 1) := by decide +kernel
theorem dX12_isSettled_75 : decode cX12_isSettled 75 = .ok (.iload_n 3, 1) := by decide +kernel
theorem dX12_isSettled_76 : decode cX12_isSettled 76 = .ok (.if_icmp .ne 19, 3) := by decide +kernel
theorem dX12_isSettled_79 : decode cX12_isSettled 79 = .ok (.aload_n 0, 1) := by decide +kernel
theorem dX12_isSettled_80 : decode cX12_isSettled 80 = .ok (.getfield 35, 3) := by decide +kernel
theorem dX12_isSettled_83 : decode cX12_isSettled 83 = .ok (.bipush 66, 2) := by decide +kernel
theorem dX12_isSettled_85 : decode cX12_isSettled 85 = .ok (.iload 4, 2) := by decide +kernel
theorem dX12_isSettled_87 : decode cX12_isSettled 87 = .ok (.iadd, 1) := by decide +kernel
theorem dX12_isSettled_88 : decode cX12_isSettled 88 = .ok (.iaload, 1) := by decide +kernel
theorem dX12_isSettled_89 : decode cX12_isSettled 89 = .ok (.iload_n 2, 1) := by decide +kernel
theorem dX12_isSettled_90 : decode cX12_isSettled 90 = .ok (.if_icmp .ne 5, 3) := by decide +kernel
theorem dX12_isSettled_93 : decode cX12_isSettled 93 = .ok (.iconst 1, 1) := by decide +kernel
theorem dX12_isSettled_94 : decode cX12_isSettled 94 = .ok (.ireturn, 1) := by decide +kernel
theorem dX12_isSettled_95 : decode cX12_isSettled 95 = .ok (.iinc 4 1, 3) := by decide +kernel
theorem dX12_isSettled_98 : decode cX12_isSettled 98 = .ok (.goto (-95), 3) := by decide +kernel
theorem dX12_isSettled_101 : decode cX12_isSettled 101 = .ok (.iconst 0, 1) := by decide +kernel
theorem dX12_isSettled_102 : decode cX12_isSettled 102 = .ok (.ireturn, 1) := by decide +kernel
theorem dX12_quarrel_0 : decode cX12_quarrel 0 = .ok (.iload_n 1, 1) := by decide +kernel
theorem dX12_quarrel_1 : decode cX12_quarrel 1 = .ok (.iload_n 2, 1) := by decide +kernel
theorem dX12_quarrel_2 : decode cX12_quarrel 2 = .ok (.invokestatic 302, 3) := by decide +kernel
theorem dX12_quarrel_5 : decode cX12_quarrel 5 = .ok (.ifCond .eq 35, 3) := by decide +kernel
theorem dX12_quarrel_8 : decode cX12_quarrel 8 = .ok (.iload_n 1, 1) := by decide +kernel
theorem dX12_quarrel_9 : decode cX12_quarrel 9 = .ok (.iload_n 3, 1) := by decide +kernel
theorem dX12_quarrel_10 : decode cX12_quarrel 10 = .ok (.invokestatic 302, 3) := by decide +kernel
theorem dX12_quarrel_13 : decode cX12_quarrel 13 = .ok (.ifCond .eq 27, 3) := by decide +kernel
theorem dX12_quarrel_16 : decode cX12_quarrel 16 = .ok (.aload_n 0, 1) := by decide +kernel
theorem dX12_quarrel_17 : decode cX12_quarrel 17 = .ok (.iconst 0, 1) := by decide +kernel
theorem dX12_quarrel_18 : decode cX12_quarrel 18 = .ok (.iload_n 2, 1) := by decide +kernel
theorem dX12_quarrel_19 : decode cX12_quarrel 19 = .ok (.iload_n 3, 1) := by decide +kernel
theorem dX12_quarrel_20 : decode cX12_quarrel 20 = .ok (.invokevirtual 262, 3) := by decide +kernel
theorem dX12_quarrel_23 : decode cX12_quarrel 23 = .ok (.ifCond .eq 17, 3) := by decide +kernel
theorem dX12_quarrel_26 : decode cX12_quarrel 26 = .ok (.aload_n 0, 1) := by decide +kernel
theorem dX12_quarrel_27 : decode cX12_quarrel 27 = .ok (.iload_n 1, 1) := by decide +kernel
theorem dX12_quarrel_28 : decode cX12_quarrel 28 = .ok (.iload_n 2, 1) := by decide +kernel
theorem dX12_quarrel_29 : decode cX12_quarrel 29 = .ok (.iload_n 3, 1) := by decide +kernel
theorem dX12_quarrel_30 : decode cX12_quarrel 30 = .ok (.invokevirtual 328, 3) := by decide +kernel
theorem dX12_quarrel_33 : decode cX12_quarrel 33 = .ok (.ifCond .ne 7, 3) := by decide +kernel
theorem dX12_quarrel_36 : decode cX12_quarrel 36 = .ok (.iconst 1, 1) := by decide +kernel
theorem dX12_quarrel_37 : decode cX12_quarrel 37 = .ok (.goto 4, 3) := by decide +kernel
theorem dX12_quarrel_40 : decode cX12_quarrel 40 = .ok (.iconst 0, 1) := by decide +kernel
theorem dX12_quarrel_41 : decode cX12_quarrel 41 = .ok (.ireturn, 1) := by decide +kernel
theorem dX12_quarrelers_0 : decode cX12_quarrelers 0 = .ok (.iconst 0, 1) := by decide +kernel
theorem dX12_quarrelers_1 : decode cX12_quarrelers 1 = .ok (.istore_n 3, 1) := by decide +kernel
theorem dX12_quarrelers_2 : decode cX12_quarrelers 2 = .ok (.iconst 0, 1) := by decide +kernel
theorem dX12_quarrelers_3 : decode cX12_quarrelers 3 = .ok (.istore 4, 2) := by decide +kernel
theorem dX12_quarrelers_5 : decode cX12_quarrelers 5 = .ok (.iload 4, 2) := by decide +kernel
theorem dX12_quarrelers_7 : decode cX12_quarrelers 7 = .ok (.aload_n 0, 1) := by decide +kernel
theorem dX12_quarrelers_8 : decode cX12_quarrelers 8 = .ok (.getfield 35, 3) := by decide +kernel
theorem dX12_quarrelers_11 : decode cX12_quarrelers 11 = .ok (.iconst 0, 1) := by decide +kernel
theorem dX12_quarrelers_12 : decode cX12_quarrelers 12 = .ok (.iaload, 1) := by decide +kernel
theorem dX12_quarrelers_13 : decode cX12_quarrelers 13 = .ok (.if_icmp .ge 31, 3) := by decide +kernel
theorem dX12_quarrelers_16 : decode cX12_quarrelers 16 = .ok (.iload_n 3, 1) := by decide +kernel
theorem dX12_quarrelers_17 : decode cX12_quarrelers 17 = .ok (.aload_n 0, 1) := by decide +kernel
theorem dX12_quarrelers_18 : decode cX12_quarrelers 18 = .ok (.iload_n 1, 1) := by decide +kernel
theorem dX12_quarrelers_19 : decode cX12_quarrelers 19 = .ok (.iload_n 2, 1) := by decide +kernel
theorem dX12_quarrelers_20 : decode cX12_quarrelers 20 = .ok (.iload 4, 2) := by decide +kernel
theorem dX12_quarrelers_22 : decode cX12_quarrelers 22 = .ok (.invokevirtual 331, 3) := by decide +kernel
theorem dX12_quarrelers_25 : decode cX12_quarrelers 25 = .ok (.ifCond .eq 10, 3) := by decide +kernel
theorem dX12_quarrelers_28 : decode cX12_quarrelers 28 = .ok (.iconst 1, 1) := by decide +kernel
theorem dX12_quarrelers_29 : decode cX12_quarrelers 29 = .ok (.iload 4, 2) := by decide +kernel
theorem dX12_quarrelers_31 : decode cX12_quarrelers 31 = .ok (.ishl, 1) := by decide +kernel
theorem dX12_quarrelers_32 : decode cX12_quarrelers 32 = .ok (.goto 4, 3) := by decide +kernel
theorem dX12_quarrelers_35 : decode cX12_quarrelers 35 = .ok (.iconst 0, 1) := by decide +kernel
theorem dX12_quarrelers_36 : decode cX12_quarrelers 36 = .ok (.ior, 1) := by decide +kernel
theorem dX12_quarrelers_37 : decode cX12_quarrelers 37 = .ok (.istore_n 3, 1) := by decide +kernel
theorem dX12_quarrelers_38 : decode cX12_quarrelers 38 = .ok (.iinc 4 1, 3) := by decide +kernel
theorem dX12_quarrelers_41 : decode cX12_quarrelers 41 = .ok (.goto (-36), 3) := by decide +kernel
theorem dX12_quarrelers_44 : decode cX12_quarrelers 44 = .ok (.iload_n 3, 1) := by decide +kernel
theorem dX12_quarrelers_45 : decode cX12_quarrelers 45 = .ok (.ireturn, 1) := by decide +kernel
theorem dX12_quarrelsIn_0 : decode cX12_quarrelsIn 0 = .ok (.iconst 0, 1) := by decide +kernel
theorem dX12_quarrelsIn_1 : decode cX12_quarrelsIn 1 = .ok (.istore_n 2, 1) := by decide +kernel
theorem dX12_quarrelsIn_2 : decode cX12_quarrelsIn 2 = .ok (.iconst 0, 1) := by decide +kernel
theorem dX12_quarrelsIn_3 : decode cX12_quarrelsIn 3 = .ok (.istore_n 3, 1) := by decide +kernel
theorem dX12_quarrelsIn_4 : decode cX12_quarrelsIn 4 = .ok (.iload_n 3, 1) := by decide +kernel
theorem dX12_quarrelsIn_5 : decode cX12_quarrelsIn 5 = .ok (.aload_n 0, 1) := by decide +kernel
theorem dX12_quarrelsIn_6 : decode cX12_quarrelsIn 6 = .ok (.getfield 35, 3) := by decide +kernel
theorem dX12_quarrelsIn_9 : decode cX12_quarrelsIn 9 = .ok (.iconst 0, 1) := by decide +kernel
theorem dX12_quarrelsIn_10 : decode cX12_quarrelsIn 10 = .ok (.iaload, 1) := by decide +kernel
theorem dX12_quarrelsIn_11 : decode cX12_quarrelsIn 11 = .ok (.if_icmp .ge 21, 3) := by decide +kernel
theorem dX12_quarrelsIn_14 : decode cX12_quarrelsIn 14 = .ok (.iload_n 2, 1) := by decide +kernel
theorem dX12_quarrelsIn_15 : decode cX12_quarrelsIn 15 = .ok (.aload_n 0, 1) := by decide +kernel
theorem dX12_quarrelsIn_16 : decode cX12_quarrelsIn 16 = .ok (.iload_n 1, 1) := by decide +kernel
theorem dX12_quarrelsIn_17 : decode cX12_quarrelsIn 17 = .ok (.iload_n 3, 1) := by decide +kernel
theorem dX12_quarrelsIn_18 : decode cX12_quarrelsIn 18 = .ok (.invokevirtual 334, 3) := by decide +kernel
theorem dX12_quarrelsIn_21 : decode cX12_quarrelsIn 21 = .ok (.invokestatic 325, 3) := by decide +kernel
theorem dX12_quarrelsIn_24 : decode cX12_quarrelsIn 24 = .ok (.iadd, 1) := by decide +kernel
theorem dX12_quarrelsIn_25 : decode cX12_quarrelsIn 25 = .ok (.istore_n 2, 1) := by decide +kernel
theorem dX12_quarrelsIn_26 : decode cX12_quarrelsIn 26 = .ok (.iinc 3 1, 3) := by decide +kernel
theorem dX12_quarrelsIn_29 : decode cX12_quarrelsIn 29 = .ok (.goto (-25), 3) := by decide +kernel
theorem dX12_quarrelsIn_32 : decode cX12_quarrelsIn 32 = .ok (.iload_n 2, 1) := by decide +kernel
theorem dX12_quarrelsIn_33 : decode cX12_quarrelsIn 33 = .ok (.iconst 2, 1) := by decide +kernel
theorem dX12_quarrelsIn_34 : decode cX12_quarrelsIn 34 = .ok (.idiv, 1) := by decide +kernel
theorem dX12_quarrelsIn_35 : decode cX12_quarrelsIn 35 = .ok (.ireturn, 1) := by decide +kernel
theorem dX12_isThere_0 : decode cX12_isThere 0 = .ok (.iload_n 1, 1) := by decide +kernel
theorem dX12_isThere_1 : decode cX12_isThere 1 = .ok (.iload_n 2, 1) := by decide +kernel
theorem dX12_isThere_2 : decode cX12_isThere 2 = .ok (.invokestatic 302, 3) := by decide +kernel
theorem dX12_isThere_5 : decode cX12_isThere 5 = .ok (.ifCond .eq 12, 3) := by decide +kernel
theorem dX12_isThere_8 : decode cX12_isThere 8 = .ok (.aload_n 0, 1) := by decide +kernel
theorem dX12_isThere_9 : decode cX12_isThere 9 = .ok (.iconst 0, 1) := by decide +kernel
theorem dX12_isThere_10 : decode cX12_isThere 10 = .ok (.iload_n 2, 1) := by decide +kernel
theorem dX12_isThere_11 : decode cX12_isThere 11 = .ok (.invokevirtual 239, 3) := by decide +kernel
theorem dX12_isThere_14 : decode cX12_isThere 14 = .ok (.ifCond .eq 5, 3) := by decide +kernel
theorem dX12_isThere_17 : decode cX12_isThere 17 = .ok (.iconst 0, 1) := by decide +kernel
theorem dX12_isThere_18 : decode cX12_isThere 18 = .ok (.ireturn, 1) := by decide +kernel
theorem dX12_isThere_19 : decode cX12_isThere 19 = .ok (.iconst 0, 1) := by decide +kernel
theorem dX12_isThere_20 : decode cX12_isThere 20 = .ok (.istore_n 3, 1) := by decide +kernel
theorem dX12_isThere_21 : decode cX12_isThere 21 = .ok (.iload_n 3, 1) := by decide +kernel
theorem dX12_isThere_22 : decode cX12_isThere 22 = .ok (.aload_n 0, 1) := by decide +kernel
theorem dX12_isThere_23 : decode cX12_isThere 23 = .ok (.getfield 35, 3) := by decide +kernel
theorem dX12_isThere_26 : decode cX12_isThere 26 = .ok (.iconst 0, 1) := by decide +kernel
theorem dX12_isThere_27 : decode cX12_isThere 27 = .ok (.iaload, 1) := by decide +kernel
theorem dX12_isThere_28 : decode cX12_isThere 28 = .ok (.if_icmp .ge 57, 3) := by decide +kernel
theorem dX12_isThere_31 : decode cX12_isThere 31 = .ok (.iload_n 1, 1) := by decide +kernel
theorem dX12_isThere_32 : decode cX12_isThere 32 = .ok (.iload_n 3, 1) := by decide +kernel
theorem dX12_isThere_33 : decode cX12_isThere 33 = .ok (.invokestatic 302, 3) := by decide +kernel
theorem dX12_isThere_36 : decode cX12_isThere 36 = .ok (.ifCond .eq 43, 3) := by decide +kernel
theorem dX12_isThere_39 : decode cX12_isThere 39 = .ok (.aload_n 0, 1) := by decide +kernel
theorem dX12_isThere_40 : decode cX12_isThere 40 = .ok (.iconst 0, 1) := by decide +kernel
theorem dX12_isThere_41 : decode cX12_isThere 41 = .ok (.iload_n 3, 1) := by decide +kernel
theorem dX12_isThere_42 : decode cX12_isThere 42 = .ok (.invokevirtual 239, 3) := by decide +kernel
theorem dX12_isThere_45 : decode cX12_isThere 45 = .ok (.iconst 1, 1) := by decide +kernel
theorem dX12_isThere_46 : decode cX12_isThere 46 = .ok (.if_icmp .ne 33, 3) := by decide +kernel
theorem dX12_isThere_49 : decode cX12_isThere 49 = .ok (.aload_n 0, 1) := by decide +kernel
theorem dX12_isThere_50 : decode cX12_isThere 50 = .ok (.iconst 0, 1) := by decide +kernel
theorem dX12_isThere_51 : decode cX12_isThere 51 = .ok (.iload_n 3, 1) := by decide +kernel
theorem dX12_isThere_52 : decode cX12_isThere 52 = .ok (.invokevirtual 246, 3) := by decide +kernel
theorem dX12_isThere_55 : decode cX12_isThere 55 = .ok (.iload_n 2, 1) := by decide +kernel
theorem dX12_isThere_56 : decode cX12_isThere 56 = .ok (.if_icmp .ne 23, 3) := by decide +kernel
theorem dX12_isThere_59 : decode cX12_isThere 59 = .ok (.aload_n 0, 1) := by decide +kernel
theorem dX12_isThere_60 : decode cX12_isThere 60 = .ok (.iload_n 1, 1) := by decide +kernel
theorem dX12_isThere_61 : decode cX12_isThere 61 = .ok (.iload_n 3, 1) := by decide +kernel
theorem dX12_isThere_62 : decode cX12_isThere 62 = .ok (.invokevirtual 337, 3) := by decide +kernel
theorem dX12_isThere_65 : decode cX12_isThere 65 = .ok (.ifCond .ne 14, 3) := by decide +kernel
theorem dX12_isThere_68 : decode cX12_isThere 68 = .ok (.aload_n 0, 1) := by decide +kernel
theorem dX12_isThere_69 : decode cX12_isThere 69 = .ok (.iload_n 1, 1) := by decide +kernel
theorem dX12_isThere_70 : decode cX12_isThere 70 = .ok (.iload_n 3, 1) := by decide +kernel
theorem dX12_isThere_71 : decode cX12_isThere 71 = .ok (.invokevirtual 334, 3) := by decide +kernel
theorem dX12_isThere_74 : decode cX12_isThere 74 = .ok (.ifCond .ne 5, 3) := by decide +kernel
theorem dX12_isThere_77 : decode cX12_isThere 77 = .ok (.iconst 0, 1) := by decide +kernel
theorem dX12_isThere_78 : decode cX12_isThere 78 = .ok (.ireturn, 1) := by decide +kernel
theorem dX12_isThere_79 : decode cX12_isThere 79 = .ok (.iinc 3 1, 3) := by decide +kernel
theorem dX12_isThere_82 : decode cX12_isThere 82 = .ok (.goto (-61), 3) := by decide +kernel
theorem dX12_isThere_85 : decode cX12_isThere 85 = .ok (.iconst 1, 1) := by decide +kernel
theorem dX12_isThere_86 : decode cX12_isThere 86 = .ok (.ireturn, 1) := by decide +kernel
theorem dX12_toldBy_0 : decode cX12_toldBy 0 = .ok (.iload_n 3, 1) := by decide +kernel
theorem dX12_toldBy_1 : decode cX12_toldBy 1 = .ok (.iconst 2, 1) := by decide +kernel
theorem dX12_toldBy_2 : decode cX12_toldBy 2 = .ok (.if_icmp .ne 8, 3) := by decide +kernel
theorem dX12_toldBy_5 : decode cX12_toldBy 5 = .ok (.bipush 34, 2) := by decide +kernel
theorem dX12_toldBy_7 : decode cX12_toldBy 7 = .ok (.goto 5, 3) := by decide +kernel
theorem dX12_toldBy_10 : decode cX12_toldBy 10 = .ok (.bipush 18, 2) := by decide +kernel
theorem dX12_toldBy_12 : decode cX12_toldBy 12 = .ok (.istore 4, 2) := by decide +kernel
theorem dX12_toldBy_14 : decode cX12_toldBy 14 = .ok (.iconst 0, 1) := by decide +kernel
theorem dX12_toldBy_15 : decode cX12_toldBy 15 = .ok (.istore 5, 2) := by decide +kernel
theorem dX12_toldBy_17 : decode cX12_toldBy 17 = .ok (.iconst 0, 1) := by decide +kernel
theorem dX12_toldBy_18 : decode cX12_toldBy 18 = .ok (.istore 6, 2) := by decide +kernel
theorem dX12_toldBy_20 : decode cX12_toldBy 20 = .ok (.iload 6, 2) := by decide +kernel
theorem dX12_toldBy_22 : decode cX12_toldBy 22 = .ok (.aload_n 0, 1) := by decide +kernel
theorem dX12_toldBy_23 : decode cX12_toldBy 23 = .ok (.getfield 35, 3) := by decide +kernel
theorem dX12_toldBy_26 : decode cX12_toldBy 26 = .ok (.iconst 0, 1) := by decide +kernel
theorem dX12_toldBy_27 : decode cX12_toldBy 27 = .ok (.iaload, 1) := by decide +kernel
theorem dX12_toldBy_28 : decode cX12_toldBy 28 = .ok (.if_icmp .ge 59, 3) := by decide +kernel
theorem dX12_toldBy_31 : decode cX12_toldBy 31 = .ok (.iload_n 1, 1) := by decide +kernel
theorem dX12_toldBy_32 : decode cX12_toldBy 32 = .ok (.iload 6, 2) := by decide +kernel
theorem dX12_toldBy_34 : decode cX12_toldBy 34 = .ok (.invokestatic 302, 3) := by decide +kernel
theorem dX12_toldBy_37 : decode cX12_toldBy 37 = .ok (.ifCond .eq 44, 3) := by decide +kernel
theorem dX12_toldBy_40 : decode cX12_toldBy 40 = .ok (.aload_n 0, 1) := by decide +kernel
theorem dX12_toldBy_41 : decode cX12_toldBy 41 = .ok (.iconst 0, 1) := by decide +kernel
theorem dX12_toldBy_42 : decode cX12_toldBy 42 = .ok (.iload 6, 2) := by decide +kernel
theorem dX12_toldBy_44 : decode cX12_toldBy 44 = .ok (.invokevirtual 239, 3) := by decide +kernel
theorem dX12_toldBy_47 : decode cX12_toldBy 47 = .ok (.iload_n 3, 1) := by decide +kernel
theorem dX12_toldBy_48 : decode cX12_toldBy 48 = .ok (.if_icmp .ne 33, 3) := by decide +kernel
theorem dX12_toldBy_51 : decode cX12_toldBy 51 = .ok (.aload_n 0, 1) := by decide +kernel
theorem dX12_toldBy_52 : decode cX12_toldBy 52 = .ok (.iconst 0, 1) := by decide +kernel
theorem dX12_toldBy_53 : decode cX12_toldBy 53 = .ok (.iload 6, 2) := by decide +kernel
theorem dX12_toldBy_55 : decode cX12_toldBy 55 = .ok (.invokevirtual 246, 3) := by decide +kernel
theorem dX12_toldBy_58 : decode cX12_toldBy 58 = .ok (.iload_n 2, 1) := by decide +kernel
theorem dX12_toldBy_59 : decode cX12_toldBy 59 = .ok (.if_icmp .ne 22, 3) := by decide +kernel
theorem dX12_toldBy_62 : decode cX12_toldBy 62 = .ok (.aload_n 0, 1) := by decide +kernel
theorem dX12_toldBy_63 : decode cX12_toldBy 63 = .ok (.iload_n 1, 1) := by decide +kernel
theorem dX12_toldBy_64 : decode cX12_toldBy 64 = .ok (.iload 6, 2) := by decide +kernel
theorem dX12_toldBy_66 : decode cX12_toldBy 66 = .ok (.invokevirtual 337, 3) := by decide +kernel
theorem dX12_toldBy_69 : decode cX12_toldBy 69 = .ok (.ifCond .ne 12, 3) := by decide +kernel
theorem dX12_toldBy_72 : decode cX12_toldBy 72 = .ok (.iload 5, 2) := by decide +kernel
theorem dX12_toldBy_74 : decode cX12_toldBy 74 = .ok (.iconst 1, 1) := by decide +kernel
theorem dX12_toldBy_75 : decode cX12_toldBy 75 = .ok (.iload 6, 2) := by decide +kernel
theorem dX12_toldBy_77 : decode cX12_toldBy 77 = .ok (.ishl, 1) := by decide +kernel
theorem dX12_toldBy_78 : decode cX12_toldBy 78 = .ok (.ior, 1) := by decide +kernel
theorem dX12_toldBy_79 : decode cX12_toldBy 79 = .ok (.istore 5, 2) := by decide +kernel
theorem dX12_toldBy_81 : decode cX12_toldBy 81 = .ok (.iinc 6 1, 3) := by decide +kernel
theorem dX12_toldBy_84 : decode cX12_toldBy 84 = .ok (.goto (-64), 3) := by decide +kernel
theorem dX12_toldBy_87 : decode cX12_toldBy 87 = .ok (.iconst 0, 1) := by decide +kernel
theorem dX12_toldBy_88 : decode cX12_toldBy 88 = .ok (.istore 6, 2) := by decide +kernel
theorem dX12_toldBy_90 : decode cX12_toldBy 90 = .ok (.iconst 0, 1) := by decide +kernel
theorem dX12_toldBy_91 : decode cX12_toldBy 91 = .ok (.istore 7, 2) := by decide +kernel
theorem dX12_toldBy_93 : decode cX12_toldBy 93 = .ok (.iload 7, 2) := by decide +kernel
theorem dX12_toldBy_95 : decode cX12_toldBy 95 = .ok (.aload_n 0, 1) := by decide +kernel
theorem dX12_toldBy_96 : decode cX12_toldBy 96 = .ok (.getfield 35, 3) := by decide +kernel
theorem dX12_toldBy_99 : decode cX12_toldBy 99 = .ok (.iconst 0, 1) := by decide +kernel
theorem dX12_toldBy_100 : decode cX12_toldBy 100 = .ok (.iaload, 1) := by decide +kernel
theorem dX12_toldBy_101 : decode cX12_toldBy 101 = .ok (.if_icmp .ge 93, 3) := by decide +kernel
theorem dX12_toldBy_104 : decode cX12_toldBy 104 = .ok (.iload 5, 2) := by decide +kernel
theorem dX12_toldBy_106 : decode cX12_toldBy 106 = .ok (.iload 7, 2) := by decide +kernel
theorem dX12_toldBy_108 : decode cX12_toldBy 108 = .ok (.invokestatic 302, 3) := by decide +kernel
theorem dX12_toldBy_111 : decode cX12_toldBy 111 = .ok (.istore 8, 2) := by decide +kernel
theorem dX12_toldBy_113 : decode cX12_toldBy 113 = .ok (.iconst 0, 1) := by decide +kernel
theorem dX12_toldBy_114 : decode cX12_toldBy 114 = .ok (.istore 9, 2) := by decide +kernel
theorem dX12_toldBy_116 : decode cX12_toldBy 116 = .ok (.iload 9, 2) := by decide +kernel
theorem dX12_toldBy_118 : decode cX12_toldBy 118 = .ok (.aload_n 0, 1) := by decide +kernel
theorem dX12_toldBy_119 : decode cX12_toldBy 119 = .ok (.getfield 35, 3) := by decide +kernel
theorem dX12_toldBy_122 : decode cX12_toldBy 122 = .ok (.iconst 0, 1) := by decide +kernel
theorem dX12_toldBy_123 : decode cX12_toldBy 123 = .ok (.iaload, 1) := by decide +kernel
theorem dX12_toldBy_124 : decode cX12_toldBy 124 = .ok (.if_icmp .ge 46, 3) := by decide +kernel
theorem dX12_toldBy_127 : decode cX12_toldBy 127 = .ok (.iload 8, 2) := by decide +kernel
theorem dX12_toldBy_129 : decode cX12_toldBy 129 = .ok (.ifCond .eq 32, 3) := by decide +kernel
theorem dX12_toldBy_132 : decode cX12_toldBy 132 = .ok (.iload 5, 2) := by decide +kernel
theorem dX12_toldBy_134 : decode cX12_toldBy 134 = .ok (.iload 9, 2) := by decide +kernel
theorem dX12_toldBy_136 : decode cX12_toldBy 136 = .ok (.invokestatic 302, 3) := by decide +kernel
theorem dX12_toldBy_139 : decode cX12_toldBy 139 = .ok (.ifCond .eq 18, 3) := by decide +kernel
theorem dX12_toldBy_142 : decode cX12_toldBy 142 = .ok (.aload_n 0, 1) := by decide +kernel
theorem dX12_toldBy_143 : decode cX12_toldBy 143 = .ok (.iconst 0, 1) := by decide +kernel
theorem dX12_toldBy_144 : decode cX12_toldBy 144 = .ok (.iload 9, 2) := by decide +kernel
theorem dX12_toldBy_146 : decode cX12_toldBy 146 = .ok (.invokevirtual 249, 3) := by decide +kernel
theorem dX12_toldBy_149 : decode cX12_toldBy 149 = .ok (.iload 7, 2) := by decide +kernel
theorem dX12_toldBy_151 : decode cX12_toldBy 151 = .ok (.invokestatic 302, 3) := by decide +kernel
theorem dX12_toldBy_154 : decode cX12_toldBy 154 = .ok (.ifCond .ne 7, 3) := by decide +kernel
theorem dX12_toldBy_157 : decode cX12_toldBy 157 = .ok (.iconst 1, 1) := by decide +kernel
theorem dX12_toldBy_158 : decode cX12_toldBy 158 = .ok (.goto 4, 3) := by decide +kernel
theorem dX12_toldBy_161 : decode cX12_toldBy 161 = .ok (.iconst 0, 1) := by decide +kernel
theorem dX12_toldBy_162 : decode cX12_toldBy 162 = .ok (.istore 8, 2) := by decide +kernel
theorem dX12_toldBy_164 : decode cX12_toldBy 164 = .ok (.iinc 9 1, 3) := by decide +kernel
theorem dX12_toldBy_167 : decode cX12_toldBy 167 = .ok (.goto (-51), 3) := by decide +kernel
theorem dX12_toldBy_170 : decode cX12_toldBy 170 = .ok (.iload 6, 2) := by decide +kernel
theorem dX12_toldBy_172 : decode cX12_toldBy 172 = .ok (.iload 8, 2) := by decide +kernel
theorem dX12_toldBy_174 : decode cX12_toldBy 174 = .ok (.ifCond .eq 10, 3) := by decide +kernel
theorem dX12_toldBy_177 : decode cX12_toldBy 177 = .ok (.iconst 1, 1) := by decide +kernel
theorem dX12_toldBy_178 : decode cX12_toldBy 178 = .ok (.iload 7, 2) := by decide +kernel
theorem dX12_toldBy_180 : decode cX12_toldBy 180 = .ok (.ishl, 1) := by decide +kernel
theorem dX12_toldBy_181 : decode cX12_toldBy 181 = .ok (.goto 4, 3) := by decide +kernel
theorem dX12_toldBy_184 : decode cX12_toldBy 184 = .ok (.iconst 0, 1) := by decide +kernel
theorem dX12_toldBy_185 : decode cX12_toldBy 185 = .ok (.ior, 1) := by decide +kernel
theorem dX12_toldBy_186 : decode cX12_toldBy 186 = .ok (.istore 6, 2) := by decide +kernel
theorem dX12_toldBy_188 : decode cX12_toldBy 188 = .ok (.iinc 7 1, 3) := by decide +kernel
theorem dX12_toldBy_191 : decode cX12_toldBy 191 = .ok (.goto (-98), 3) := by decide +kernel
theorem dX12_toldBy_194 : decode cX12_toldBy 194 = .ok (.iload 6, 2) := by decide +kernel
theorem dX12_toldBy_196 : decode cX12_toldBy 196 = .ok (.ifCond .ne 13, 3) := by decide +kernel
theorem dX12_toldBy_199 : decode cX12_toldBy 199 = .ok (.aload_n 0, 1) := by decide +kernel
theorem dX12_toldBy_200 : decode cX12_toldBy 200 = .ok (.getfield 35, 3) := by decide +kernel
theorem dX12_toldBy_203 : decode cX12_toldBy 203 = .ok (.iload 4, 2) := by decide +kernel
theorem dX12_toldBy_205 : decode cX12_toldBy 205 = .ok (.iload_n 2, 1) := by decide +kernel
theorem dX12_toldBy_206 : decode cX12_toldBy 206 = .ok (.iadd, 1) := by decide +kernel
theorem dX12_toldBy_207 : decode cX12_toldBy 207 = .ok (.iaload, 1) := by decide +kernel
theorem dX12_toldBy_208 : decode cX12_toldBy 208 = .ok (.ireturn, 1) := by decide +kernel
theorem dX12_toldBy_209 : decode cX12_toldBy 209 = .ok (.iconst (-1), 1) := by decide +kernel
theorem dX12_toldBy_210 : decode cX12_toldBy 210 = .ok (.istore 7, 2) := by decide +kernel
theorem dX12_toldBy_212 : decode cX12_toldBy 212 = .ok (.iconst 0, 1) := by decide +kernel
theorem dX12_toldBy_213 : decode cX12_toldBy 213 = .ok (.istore 8, 2) := by decide +kernel
theorem dX12_toldBy_215 : decode cX12_toldBy 215 = .ok (.iload 8, 2) := by decide +kernel
theorem dX12_toldBy_217 : decode cX12_toldBy 217 = .ok (.aload_n 0, 1) := by decide +kernel
theorem dX12_toldBy_218 : decode cX12_toldBy 218 = .ok (.getfield 35, 3) := by decide +kernel
theorem dX12_toldBy_221 : decode cX12_toldBy 221 = .ok (.iconst 0, 1) := by decide +kernel
theorem dX12_toldBy_222 : decode cX12_toldBy 222 = .ok (.iaload, 1) := by decide +kernel
theorem dX12_toldBy_223 : decode cX12_toldBy 223 = .ok (.if_icmp .ge 61, 3) := by decide +kernel
theorem dX12_toldBy_226 : decode cX12_toldBy 226 = .ok (.iload 6, 2) := by decide +kernel
theorem dX12_toldBy_228 : decode cX12_toldBy 228 = .ok (.invokestatic 325, 3) := by decide +kernel
theorem dX12_toldBy_231 : decode cX12_toldBy 231 = .ok (.iconst 1, 1) := by decide +kernel
theorem dX12_toldBy_232 : decode cX12_toldBy 232 = .ok (.if_icmp .ne 15, 3) := by decide +kernel
theorem dX12_toldBy_235 : decode cX12_toldBy 235 = .ok (.iload 6, 2) := by decide +kernel
theorem dX12_toldBy_237 : decode cX12_toldBy 237 = .ok (.iconst 1, 1) := by decide +kernel
theorem dX12_toldBy_238 : decode cX12_toldBy 238 = .ok (.iload 8, 2) := by decide +kernel
theorem dX12_toldBy_240 : decode cX12_toldBy 240 = .ok (.ishl, 1) := by decide +kernel
theorem dX12_toldBy_241 : decode cX12_toldBy 241 = .ok (.if_icmp .ne 37, 3) := by decide +kernel
theorem dX12_toldBy_244 : decode cX12_toldBy 244 = .ok (.goto 30, 3) := by decide +kernel
theorem dX12_toldBy_247 : decode cX12_toldBy 247 = .ok (.iload 5, 2) := by decide +kernel
theorem dX12_toldBy_249 : decode cX12_toldBy 249 = .ok (.iload 8, 2) := by decide +kernel
theorem dX12_toldBy_251 : decode cX12_toldBy 251 = .ok (.invokestatic 302, 3) := by decide +kernel
theorem dX12_toldBy_254 : decode cX12_toldBy 254 = .ok (.ifCond .ne 9, 3) := by decide +kernel
theorem dX12_toldBy_257 : decode cX12_toldBy 257 = .ok (.iload 8, 2) := by decide +kernel
theorem dX12_toldBy_259 : decode cX12_toldBy 259 = .ok (.iload_n 2, 1) := by decide +kernel
theorem dX12_toldBy_260 : decode cX12_toldBy 260 = .ok (.if_icmp .ne 18, 3) := by decide +kernel
theorem dX12_toldBy_263 : decode cX12_toldBy 263 = .ok (.aload_n 0, 1) := by decide +kernel
theorem dX12_toldBy_264 : decode cX12_toldBy 264 = .ok (.iload 6, 2) := by decide +kernel
theorem dX12_toldBy_266 : decode cX12_toldBy 266 = .ok (.iload 8, 2) := by decide +kernel
theorem dX12_toldBy_268 : decode cX12_toldBy 268 = .ok (.invokevirtual 340, 3) := by decide +kernel
theorem dX12_toldBy_271 : decode cX12_toldBy 271 = .ok (.ifCond .eq 7, 3) := by decide +kernel
theorem dX12_toldBy_274 : decode cX12_toldBy 274 = .ok (.iload 8, 2) := by decide +kernel
theorem dX12_toldBy_276 : decode cX12_toldBy 276 = .ok (.istore 7, 2) := by decide +kernel
theorem dX12_toldBy_278 : decode cX12_toldBy 278 = .ok (.iinc 8 1, 3) := by decide +kernel
theorem dX12_toldBy_281 : decode cX12_toldBy 281 = .ok (.goto (-66), 3) := by decide +kernel
theorem dX12_toldBy_284 : decode cX12_toldBy 284 = .ok (.aload_n 0, 1) := by decide +kernel
theorem dX12_toldBy_285 : decode cX12_toldBy 285 = .ok (.getfield 35, 3) := by decide +kernel
theorem dX12_toldBy_288 : decode cX12_toldBy 288 = .ok (.iload 4, 2) := by decide +kernel
theorem dX12_toldBy_290 : decode cX12_toldBy 290 = .ok (.iload 7, 2) := by decide +kernel
theorem dX12_toldBy_292 : decode cX12_toldBy 292 = .ok (.iadd, 1) := by decide +kernel
theorem dX12_toldBy_293 : decode cX12_toldBy 293 = .ok (.iaload, 1) := by decide +kernel
theorem dX12_toldBy_294 : decode cX12_toldBy 294 = .ok (.ireturn, 1) := by decide +kernel
theorem dX12_allHang_0 : decode cX12_allHang 0 = .ok (.iconst 0, 1) := by decide +kernel
theorem dX12_allHang_1 : decode cX12_allHang 1 = .ok (.istore_n 3, 1) := by decide +kernel
theorem dX12_allHang_2 : decode cX12_allHang 2 = .ok (.iload_n 3, 1) := by decide +kernel
theorem dX12_allHang_3 : decode cX12_allHang 3 = .ok (.aload_n 0, 1) := by decide +kernel
theorem dX12_allHang_4 : decode cX12_allHang 4 = .ok (.getfield 35, 3) := by decide +kernel
theorem dX12_allHang_7 : decode cX12_allHang 7 = .ok (.iconst 0, 1) := by decide +kernel
theorem dX12_allHang_8 : decode cX12_allHang 8 = .ok (.iaload, 1) := by decide +kernel
theorem dX12_allHang_9 : decode cX12_allHang 9 = .ok (.if_icmp .ge 32, 3) := by decide +kernel
theorem dX12_allHang_12 : decode cX12_allHang 12 = .ok (.iload_n 1, 1) := by decide +kernel
theorem dX12_allHang_13 : decode cX12_allHang 13 = .ok (.iload_n 3, 1) := by decide +kernel
theorem dX12_allHang_14 : decode cX12_allHang 14 = .ok (.invokestatic 302, 3) := by decide +kernel
theorem dX12_allHang_17 : decode cX12_allHang 17 = .ok (.ifCond .eq 18, 3) := by decide +kernel
theorem dX12_allHang_20 : decode cX12_allHang 20 = .ok (.aload_n 0, 1) := by decide +kernel
theorem dX12_allHang_21 : decode cX12_allHang 21 = .ok (.iconst 0, 1) := by decide +kernel
theorem dX12_allHang_22 : decode cX12_allHang 22 = .ok (.iload_n 3, 1) := by decide +kernel
theorem dX12_allHang_23 : decode cX12_allHang 23 = .ok (.invokevirtual 249, 3) := by decide +kernel
theorem dX12_allHang_26 : decode cX12_allHang 26 = .ok (.iload_n 2, 1) := by decide +kernel
theorem dX12_allHang_27 : decode cX12_allHang 27 = .ok (.invokestatic 302, 3) := by decide +kernel
theorem dX12_allHang_30 : decode cX12_allHang 30 = .ok (.ifCond .ne 5, 3) := by decide +kernel
theorem dX12_allHang_33 : decode cX12_allHang 33 = .ok (.iconst 0, 1) := by decide +kernel
theorem dX12_allHang_34 : decode cX12_allHang 34 = .ok (.ireturn, 1) := by decide +kernel
theorem dX12_allHang_35 : decode cX12_allHang 35 = .ok (.iinc 3 1, 3) := by decide +kernel
theorem dX12_allHang_38 : decode cX12_allHang 38 = .ok (.goto (-36), 3) := by decide +kernel
theorem dX12_allHang_41 : decode cX12_allHang 41 = .ok (.iconst 1, 1) := by decide +kernel
theorem dX12_allHang_42 : decode cX12_allHang 42 = .ok (.ireturn, 1) := by decide +kernel
theorem dX12_listOf_0 : decode cX12_listOf 0 = .ok (.iconst 0, 1) := by decide +kernel
theorem dX12_listOf_1 : decode cX12_listOf 1 = .ok (.istore_n 3, 1) := by decide +kernel
theorem dX12_listOf_2 : decode cX12_listOf 2 = .ok (.iconst 0, 1) := by decide +kernel
theorem dX12_listOf_3 : decode cX12_listOf 3 = .ok (.istore 4, 2) := by decide +kernel
theorem dX12_listOf_5 : decode cX12_listOf 5 = .ok (.iload 4, 2) := by decide +kernel
theorem dX12_listOf_7 : decode cX12_listOf 7 = .ok (.aload_n 0, 1) := by decide +kernel
theorem dX12_listOf_8 : decode cX12_listOf 8 = .ok (.getfield 35, 3) := by decide +kernel
theorem dX12_listOf_11 : decode cX12_listOf 11 = .ok (.iconst 0, 1) := by decide +kernel
theorem dX12_listOf_12 : decode cX12_listOf 12 = .ok (.iaload, 1) := by decide +kernel
theorem dX12_listOf_13 : decode cX12_listOf 13 = .ok (.if_icmp .ge 82, 3) := by decide +kernel
theorem dX12_listOf_16 : decode cX12_listOf 16 = .ok (.aload_n 0, 1) := by decide +kernel
theorem dX12_listOf_17 : decode cX12_listOf 17 = .ok (.iload_n 1, 1) := by decide +kernel
theorem dX12_listOf_18 : decode cX12_listOf 18 = .ok (.iload 4, 2) := by decide +kernel
theorem dX12_listOf_20 : decode cX12_listOf 20 = .ok (.invokevirtual 343, 3) := by decide +kernel
theorem dX12_listOf_23 : decode cX12_listOf 23 = .ok (.ifCond .ne 6, 3) := by decide +kernel
theorem dX12_listOf_26 : decode cX12_listOf 26 = .ok (.goto 63, 3) := by decide +kernel
theorem dX12_listOf_29 : decode cX12_listOf 29 = .ok (.aload_n 0, 1) := by decide +kernel
theorem dX12_listOf_30 : decode cX12_listOf 30 = .ok (.iload_n 1, 1) := by decide +kernel
theorem dX12_listOf_31 : decode cX12_listOf 31 = .ok (.iload 4, 2) := by decide +kernel
theorem dX12_listOf_33 : decode cX12_listOf 33 = .ok (.iconst 3, 1) := by decide +kernel
theorem dX12_listOf_34 : decode cX12_listOf 34 = .ok (.invokevirtual 346, 3) := by decide +kernel
theorem dX12_listOf_37 : decode cX12_listOf 37 = .ok (.istore 5, 2) := by decide +kernel
theorem dX12_listOf_39 : decode cX12_listOf 39 = .ok (.iload_n 3, 1) := by decide +kernel
theorem dX12_listOf_40 : decode cX12_listOf 40 = .ok (.istore 6, 2) := by decide +kernel
theorem dX12_listOf_42 : decode cX12_listOf 42 = .ok (.iload 6, 2) := by decide +kernel
theorem dX12_listOf_44 : decode cX12_listOf 44 = .ok (.ifCond .le 36, 3) := by decide +kernel
theorem dX12_listOf_47 : decode cX12_listOf 47 = .ok (.aload_n 0, 1) := by decide +kernel
theorem dX12_listOf_48 : decode cX12_listOf 48 = .ok (.iload_n 1, 1) := by decide +kernel
theorem dX12_listOf_49 : decode cX12_listOf 49 = .ok (.aload_n 2, 1) := by decide +kernel
theorem dX12_listOf_50 : decode cX12_listOf 50 = .ok (.iload 6, 2) := by decide +kernel
theorem dX12_listOf_52 : decode cX12_listOf 52 = .ok (.iconst 1, 1) := by decide +kernel
theorem dX12_listOf_53 : decode cX12_listOf 53 = .ok (.isub, 1) := by decide +kernel
theorem dX12_listOf_54 : decode cX12_listOf 54 = .ok (.iaload, 1) := by decide +kernel
theorem dX12_listOf_55 : decode cX12_listOf 55 = .ok (.iconst 3, 1) := by decide +kernel
theorem dX12_listOf_56 : decode cX12_listOf 56 = .ok (.invokevirtual 346, 3) := by decide +kernel
theorem dX12_listOf_59 : decode cX12_listOf 59 = .ok (.iload 5, 2) := by decide +kernel
theorem dX12_listOf_61 : decode cX12_listOf 61 = .ok (.if_icmp .le 19, 3) := by decide +kernel
theorem dX12_listOf_64 : decode cX12_listOf 64 = .ok (.aload_n 2, 1) := by decide +kernel
theorem dX12_listOf_65 : decode cX12_listOf 65 = .ok (.iload 6, 2) := by decide +kernel
theorem dX12_listOf_67 : decode cX12_listOf 67 = .ok (.aload_n 2, 1) := by decide +kernel
theorem dX12_listOf_68 : decode cX12_listOf 68 = .ok (.iload 6, 2) := by decide +kernel
theorem dX12_listOf_70 : decode cX12_listOf 70 = .ok (.iconst 1, 1) := by decide +kernel
theorem dX12_listOf_71 : decode cX12_listOf 71 = .ok (.isub, 1) := by decide +kernel
theorem dX12_listOf_72 : decode cX12_listOf 72 = .ok (.iaload, 1) := by decide +kernel
theorem dX12_listOf_73 : decode cX12_listOf 73 = .ok (.iastore, 1) := by decide +kernel
theorem dX12_listOf_74 : decode cX12_listOf 74 = .ok (.iinc 6 (-1), 3) := by decide +kernel
theorem dX12_listOf_77 : decode cX12_listOf 77 = .ok (.goto (-35), 3) := by decide +kernel
theorem dX12_listOf_80 : decode cX12_listOf 80 = .ok (.aload_n 2, 1) := by decide +kernel
theorem dX12_listOf_81 : decode cX12_listOf 81 = .ok (.iload 6, 2) := by decide +kernel
theorem dX12_listOf_83 : decode cX12_listOf 83 = .ok (.iload 4, 2) := by decide +kernel
theorem dX12_listOf_85 : decode cX12_listOf 85 = .ok (.iastore, 1) := by decide +kernel
theorem dX12_listOf_86 : decode cX12_listOf 86 = .ok (.iinc 3 1, 3) := by decide +kernel
theorem dX12_listOf_89 : decode cX12_listOf 89 = .ok (.iinc 4 1, 3) := by decide +kernel
theorem dX12_listOf_92 : decode cX12_listOf 92 = .ok (.goto (-87), 3) := by decide +kernel
theorem dX12_listOf_95 : decode cX12_listOf 95 = .ok (.iload_n 3, 1) := by decide +kernel
theorem dX12_listOf_96 : decode cX12_listOf 96 = .ok (.ireturn, 1) := by decide +kernel
theorem dX12_whyNot_0 : decode cX12_whyNot 0 = .ok (.aload_n 0, 1) := by decide +kernel
theorem dX12_whyNot_1 : decode cX12_whyNot 1 = .ok (.iload_n 1, 1) := by decide +kernel
theorem dX12_whyNot_2 : decode cX12_whyNot 2 = .ok (.invokevirtual 319, 3) := by decide +kernel
theorem dX12_whyNot_5 : decode cX12_whyNot 5 = .ok (.ifCond .ne 7, 3) := by decide +kernel
theorem dX12_whyNot_8 : decode cX12_whyNot 8 = .ok (.iconst 2, 1) := by decide +kernel
theorem dX12_whyNot_9 : decode cX12_whyNot 9 = .ok (.goto 17, 3) := by decide +kernel
theorem dX12_whyNot_12 : decode cX12_whyNot 12 = .ok (.aload_n 0, 1) := by decide +kernel
theorem dX12_whyNot_13 : decode cX12_whyNot 13 = .ok (.iload_n 1, 1) := by decide +kernel
theorem dX12_whyNot_14 : decode cX12_whyNot 14 = .ok (.invokevirtual 322, 3) := by decide +kernel
theorem dX12_whyNot_17 : decode cX12_whyNot 17 = .ok (.ifCond .eq 8, 3) := by decide +kernel
theorem dX12_whyNot_20 : decode cX12_whyNot 20 = .ok (.bipush 9, 2) := by decide +kernel
theorem dX12_whyNot_22 : decode cX12_whyNot 22 = .ok (.goto 4, 3) := by decide +kernel
theorem dX12_whyNot_25 : decode cX12_whyNot 25 = .ok (.iconst 0, 1) := by decide +kernel
theorem dX12_whyNot_26 : decode cX12_whyNot 26 = .ok (.ireturn, 1) := by decide +kernel
theorem dX12_size_0 : decode cX12_size 0 = .ok (.aload_n 0, 1) := by decide +kernel
theorem dX12_size_1 : decode cX12_size 1 = .ok (.iconst 0, 1) := by decide +kernel
theorem dX12_size_2 : decode cX12_size 2 = .ok (.putfield 75, 3) := by decide +kernel
theorem dX12_size_5 : decode cX12_size 5 = .ok (.aload_n 0, 1) := by decide +kernel
theorem dX12_size_6 : decode cX12_size 6 = .ok (.aload_n 0, 1) := by decide +kernel
theorem dX12_size_7 : decode cX12_size 7 = .ok (.iload_n 1, 1) := by decide +kernel
theorem dX12_size_8 : decode cX12_size 8 = .ok (.invokevirtual 349, 3) := by decide +kernel
theorem dX12_size_11 : decode cX12_size 11 = .ok (.putfield 78, 3) := by decide +kernel
theorem dX12_size_14 : decode cX12_size 14 = .ok (.aload_n 0, 1) := by decide +kernel
theorem dX12_size_15 : decode cX12_size 15 = .ok (.getfield 78, 3) := by decide +kernel
theorem dX12_size_18 : decode cX12_size 18 = .ok (.ifCond .le 7, 3) := by decide +kernel
theorem dX12_size_21 : decode cX12_size 21 = .ok (.iconst (-1), 1) := by decide +kernel
theorem dX12_size_22 : decode cX12_size 22 = .ok (.goto 12, 3) := by decide +kernel
theorem dX12_size_25 : decode cX12_size 25 = .ok (.aload_n 0, 1) := by decide +kernel
theorem dX12_size_26 : decode cX12_size 26 = .ok (.iload_n 1, 1) := by decide +kernel
theorem dX12_size_27 : decode cX12_size 27 = .ok (.aload_n 0, 1) := by decide +kernel
theorem dX12_size_28 : decode cX12_size 28 = .ok (.getfield 41, 3) := by decide +kernel
theorem dX12_size_31 : decode cX12_size 31 = .ok (.invokevirtual 352, 3) := by decide +kernel
theorem dX12_size_34 : decode cX12_size 34 = .ok (.ireturn, 1) := by decide +kernel
theorem dX12_thing_0 : decode cX12_thing 0 = .ok (.aload_n 0, 1) := by decide +kernel
theorem dX12_thing_1 : decode cX12_thing 1 = .ok (.iconst 0, 1) := by decide +kernel
theorem dX12_thing_2 : decode cX12_thing 2 = .ok (.putfield 75, 3) := by decide +kernel
theorem dX12_thing_5 : decode cX12_thing 5 = .ok (.aload_n 0, 1) := by decide +kernel
theorem dX12_thing_6 : decode cX12_thing 6 = .ok (.aload_n 0, 1) := by decide +kernel
theorem dX12_thing_7 : decode cX12_thing 7 = .ok (.iload_n 1, 1) := by decide +kernel
theorem dX12_thing_8 : decode cX12_thing 8 = .ok (.invokevirtual 349, 3) := by decide +kernel
theorem dX12_thing_11 : decode cX12_thing 11 = .ok (.putfield 78, 3) := by decide +kernel
theorem dX12_thing_14 : decode cX12_thing 14 = .ok (.aload_n 0, 1) := by decide +kernel
theorem dX12_thing_15 : decode cX12_thing 15 = .ok (.getfield 78, 3) := by decide +kernel
theorem dX12_thing_18 : decode cX12_thing 18 = .ok (.ifCond .le 5, 3) := by decide +kernel
theorem dX12_thing_21 : decode cX12_thing 21 = .ok (.iconst (-1), 1) := by decide +kernel
theorem dX12_thing_22 : decode cX12_thing 22 = .ok (.ireturn, 1) := by decide +kernel
theorem dX12_thing_23 : decode cX12_thing 23 = .ok (.aload_n 0, 1) := by decide +kernel
theorem dX12_thing_24 : decode cX12_thing 24 = .ok (.aload_n 0, 1) := by decide +kernel
theorem dX12_thing_25 : decode cX12_thing 25 = .ok (.iload_n 1, 1) := by decide +kernel
theorem dX12_thing_26 : decode cX12_thing 26 = .ok (.aload_n 0, 1) := by decide +kernel
theorem dX12_thing_27 : decode cX12_thing 27 = .ok (.getfield 41, 3) := by decide +kernel
theorem dX12_thing_30 : decode cX12_thing 30 = .ok (.invokevirtual 352, 3) := by decide +kernel
theorem dX12_thing_33 : decode cX12_thing 33 = .ok (.putfield 356, 3) := by decide +kernel
theorem dX12_thing_36 : decode cX12_thing 36 = .ok (.iload_n 2, 1) := by decide +kernel
theorem dX12_thing_37 : decode cX12_thing 37 = .ok (.i2l, 1) := by decide +kernel
theorem dX12_thing_38 : decode cX12_thing 38 = .ok (.lconst 0, 1) := by decide +kernel
theorem dX12_thing_39 : decode cX12_thing 39 = .ok (.aload_n 0, 1) := by decide +kernel
theorem dX12_thing_40 : decode cX12_thing 40 = .ok (.getfield 356, 3) := by decide +kernel
theorem dX12_thing_43 : decode cX12_thing 43 = .ok (.iconst 1, 1) := by decide +kernel
theorem dX12_thing_44 : decode cX12_thing 44 = .ok (.isub, 1) := by decide +kernel
theorem dX12_thing_45 : decode cX12_thing 45 = .ok (.i2l, 1) := by decide +kernel
theorem dX12_thing_46 : decode cX12_thing 46 = .ok (.invokestatic 110, 3) := by decide +kernel
theorem dX12_thing_49 : decode cX12_thing 49 = .ok (.ifCond .eq 12, 3) := by decide +kernel
theorem dX12_thing_52 : decode cX12_thing 52 = .ok (.aload_n 0, 1) := by decide +kernel
theorem dX12_thing_53 : decode cX12_thing 53 = .ok (.getfield 41, 3) := by decide +kernel
theorem dX12_thing_56 : decode cX12_thing 56 = .ok (.iload_n 2, 1) := by decide +kernel
theorem dX12_thing_57 : decode cX12_thing 57 = .ok (.iaload, 1) := by decide +kernel
theorem dX12_thing_58 : decode cX12_thing 58 = .ok (.goto 9, 3) := by decide +kernel
theorem dX12_thing_61 : decode cX12_thing 61 = .ok (.aload_n 0, 1) := by decide +kernel
theorem dX12_thing_62 : decode cX12_thing 62 = .ok (.bipush 8, 2) := by decide +kernel
theorem dX12_thing_64 : decode cX12_thing 64 = .ok (.invokevirtual 299, 3) := by decide +kernel
theorem dX12_thing_67 : decode cX12_thing 67 = .ok (.ireturn, 1) := by decide +kernel
theorem dX12_whyNoThing_0 : decode cX12_whyNoThing 0 = .ok (.aload_n 0, 1) := by decide +kernel
theorem dX12_whyNoThing_1 : decode cX12_whyNoThing 1 = .ok (.iload_n 1, 1) := by decide +kernel
theorem dX12_whyNoThing_2 : decode cX12_whyNoThing 2 = .ok (.invokevirtual 319, 3) := by decide +kernel
theorem dX12_whyNoThing_5 : decode cX12_whyNoThing 5 = .ok (.ifCond .eq 11, 3) := by decide +kernel
theorem dX12_whyNoThing_8 : decode cX12_whyNoThing 8 = .ok (.aload_n 0, 1) := by decide +kernel
theorem dX12_whyNoThing_9 : decode cX12_whyNoThing 9 = .ok (.iload_n 2, 1) := by decide +kernel
theorem dX12_whyNoThing_10 : decode cX12_whyNoThing 10 = .ok (.invokevirtual 311, 3) := by decide +kernel
theorem dX12_whyNoThing_13 : decode cX12_whyNoThing 13 = .ok (.ifCond .ne 5, 3) := by decide +kernel
theorem dX12_whyNoThing_16 : decode cX12_whyNoThing 16 = .ok (.iconst 2, 1) := by decide +kernel
theorem dX12_whyNoThing_17 : decode cX12_whyNoThing 17 = .ok (.ireturn, 1) := by decide +kernel
theorem dX12_whyNoThing_18 : decode cX12_whyNoThing 18 = .ok (.aload_n 0, 1) := by decide +kernel
theorem dX12_whyNoThing_19 : decode cX12_whyNoThing 19 = .ok (.iload_n 1, 1) := by decide +kernel
theorem dX12_whyNoThing_20 : decode cX12_whyNoThing 20 = .ok (.invokevirtual 322, 3) := by decide +kernel
theorem dX12_whyNoThing_23 : decode cX12_whyNoThing 23 = .ok (.ifCond .eq 8, 3) := by decide +kernel
theorem dX12_whyNoThing_26 : decode cX12_whyNoThing 26 = .ok (.bipush 9, 2) := by decide +kernel
theorem dX12_whyNoThing_28 : decode cX12_whyNoThing 28 = .ok (.goto 18, 3) := by decide +kernel
theorem dX12_whyNoThing_31 : decode cX12_whyNoThing 31 = .ok (.aload_n 0, 1) := by decide +kernel
theorem dX12_whyNoThing_32 : decode cX12_whyNoThing 32 = .ok (.iload_n 1, 1) := by decide +kernel
theorem dX12_whyNoThing_33 : decode cX12_whyNoThing 33 = .ok (.iload_n 2, 1) := by decide +kernel
theorem dX12_whyNoThing_34 : decode cX12_whyNoThing 34 = .ok (.invokevirtual 343, 3) := by decide +kernel
theorem dX12_whyNoThing_37 : decode cX12_whyNoThing 37 = .ok (.ifCond .eq 7, 3) := by decide +kernel
theorem dX12_whyNoThing_40 : decode cX12_whyNoThing 40 = .ok (.iconst 0, 1) := by decide +kernel
theorem dX12_whyNoThing_41 : decode cX12_whyNoThing 41 = .ok (.goto 5, 3) := by decide +kernel
theorem dX12_whyNoThing_44 : decode cX12_whyNoThing 44 = .ok (.bipush 8, 2) := by decide +kernel
theorem dX12_whyNoThing_46 : decode cX12_whyNoThing 46 = .ok (.ireturn, 1) := by decide +kernel
theorem dX12_says_0 : decode cX12_says 0 = .ok (.aload_n 0, 1) := by decide +kernel
theorem dX12_says_1 : decode cX12_says 1 = .ok (.iconst 0, 1) := by decide +kernel
theorem dX12_says_2 : decode cX12_says 2 = .ok (.putfield 75, 3) := by decide +kernel
theorem dX12_says_5 : decode cX12_says 5 = .ok (.aload_n 0, 1) := by decide +kernel
theorem dX12_says_6 : decode cX12_says 6 = .ok (.aload_n 0, 1) := by decide +kernel
theorem dX12_says_7 : decode cX12_says 7 = .ok (.iload_n 1, 1) := by decide +kernel
theorem dX12_says_8 : decode cX12_says 8 = .ok (.iload_n 2, 1) := by decide +kernel
theorem dX12_says_9 : decode cX12_says 9 = .ok (.invokevirtual 359, 3) := by decide +kernel
theorem dX12_says_12 : decode cX12_says 12 = .ok (.putfield 78, 3) := by decide +kernel
theorem dX12_says_15 : decode cX12_says 15 = .ok (.aload_n 0, 1) := by decide +kernel
theorem dX12_says_16 : decode cX12_says 16 = .ok (.getfield 78, 3) := by decide +kernel
theorem dX12_says_19 : decode cX12_says 19 = .ok (.ifCond .le 7, 3) := by decide +kernel
theorem dX12_says_22 : decode cX12_says 22 = .ok (.iconst (-1), 1) := by decide +kernel
theorem dX12_says_23 : decode cX12_says 23 = .ok (.goto 10, 3) := by decide +kernel
theorem dX12_says_26 : decode cX12_says 26 = .ok (.aload_n 0, 1) := by decide +kernel
theorem dX12_says_27 : decode cX12_says 27 = .ok (.iload_n 1, 1) := by decide +kernel
theorem dX12_says_28 : decode cX12_says 28 = .ok (.iload_n 2, 1) := by decide +kernel
theorem dX12_says_29 : decode cX12_says 29 = .ok (.iconst 2, 1) := by decide +kernel
theorem dX12_says_30 : decode cX12_says 30 = .ok (.invokevirtual 346, 3) := by decide +kernel
theorem dX12_says_33 : decode cX12_says 33 = .ok (.ireturn, 1) := by decide +kernel
theorem dX12_key_0 : decode cX12_key 0 = .ok (.aload_n 0, 1) := by decide +kernel
theorem dX12_key_1 : decode cX12_key 1 = .ok (.iconst 0, 1) := by decide +kernel
theorem dX12_key_2 : decode cX12_key 2 = .ok (.putfield 75, 3) := by decide +kernel
theorem dX12_key_5 : decode cX12_key 5 = .ok (.aload_n 0, 1) := by decide +kernel
theorem dX12_key_6 : decode cX12_key 6 = .ok (.aload_n 0, 1) := by decide +kernel
theorem dX12_key_7 : decode cX12_key 7 = .ok (.iload_n 1, 1) := by decide +kernel
theorem dX12_key_8 : decode cX12_key 8 = .ok (.iload_n 2, 1) := by decide +kernel
theorem dX12_key_9 : decode cX12_key 9 = .ok (.invokevirtual 359, 3) := by decide +kernel
theorem dX12_key_12 : decode cX12_key 12 = .ok (.putfield 78, 3) := by decide +kernel
theorem dX12_key_15 : decode cX12_key 15 = .ok (.aload_n 0, 1) := by decide +kernel
theorem dX12_key_16 : decode cX12_key 16 = .ok (.getfield 78, 3) := by decide +kernel
theorem dX12_key_19 : decode cX12_key 19 = .ok (.ifCond .le 7, 3) := by decide +kernel
theorem dX12_key_22 : decode cX12_key 22 = .ok (.iconst (-1), 1) := by decide +kernel
theorem dX12_key_23 : decode cX12_key 23 = .ok (.goto 10, 3) := by decide +kernel
theorem dX12_key_26 : decode cX12_key 26 = .ok (.aload_n 0, 1) := by decide +kernel
theorem dX12_key_27 : decode cX12_key 27 = .ok (.iload_n 1, 1) := by decide +kernel
theorem dX12_key_28 : decode cX12_key 28 = .ok (.iload_n 2, 1) := by decide +kernel
theorem dX12_key_29 : decode cX12_key 29 = .ok (.iconst 3, 1) := by decide +kernel
theorem dX12_key_30 : decode cX12_key 30 = .ok (.invokevirtual 346, 3) := by decide +kernel
theorem dX12_key_33 : decode cX12_key 33 = .ok (.ireturn, 1) := by decide +kernel
theorem dX12_placeIn_0 : decode cX12_placeIn 0 = .ok (.aload_n 0, 1) := by decide +kernel
theorem dX12_placeIn_1 : decode cX12_placeIn 1 = .ok (.aload_n 0, 1) := by decide +kernel
theorem dX12_placeIn_2 : decode cX12_placeIn 2 = .ok (.iload_n 1, 1) := by decide +kernel
theorem dX12_placeIn_3 : decode cX12_placeIn 3 = .ok (.aload_n 0, 1) := by decide +kernel
theorem dX12_placeIn_4 : decode cX12_placeIn 4 = .ok (.getfield 41, 3) := by decide +kernel
theorem dX12_placeIn_7 : decode cX12_placeIn 7 = .ok (.invokevirtual 352, 3) := by decide +kernel
theorem dX12_placeIn_10 : decode cX12_placeIn 10 = .ok (.putfield 356, 3) := by decide +kernel
theorem dX12_placeIn_13 : decode cX12_placeIn 13 = .ok (.iconst 0, 1) := by decide +kernel
theorem dX12_placeIn_14 : decode cX12_placeIn 14 = .ok (.istore_n 3, 1) := by decide +kernel
theorem dX12_placeIn_15 : decode cX12_placeIn 15 = .ok (.iload_n 3, 1) := by decide +kernel
theorem dX12_placeIn_16 : decode cX12_placeIn 16 = .ok (.aload_n 0, 1) := by decide +kernel
theorem dX12_placeIn_17 : decode cX12_placeIn 17 = .ok (.getfield 356, 3) := by decide +kernel
theorem dX12_placeIn_20 : decode cX12_placeIn 20 = .ok (.if_icmp .ge 21, 3) := by decide +kernel
theorem dX12_placeIn_23 : decode cX12_placeIn 23 = .ok (.aload_n 0, 1) := by decide +kernel
theorem dX12_placeIn_24 : decode cX12_placeIn 24 = .ok (.getfield 41, 3) := by decide +kernel
theorem dX12_placeIn_27 : decode cX12_placeIn 27 = .ok (.iload_n 3, 1) := by decide +kernel
theorem dX12_placeIn_28 : decode cX12_placeIn 28 = .ok (.iaload, 1) := by decide +kernel
theorem dX12_placeIn_29 : decode cX12_placeIn 29 = .ok (.iload_n 2, 1) := by decide +kernel
theorem dX12_placeIn_30 : decode cX12_placeIn 30 = .ok (.if_icmp .ne 5, 3) := by decide +kernel
theorem dX12_placeIn_33 : decode cX12_placeIn 33 = .ok (.iload_n 3, 1) := by decide +kernel
theorem dX12_placeIn_34 : decode cX12_placeIn 34 = .ok (.ireturn, 1) := by decide +kernel
theorem dX12_placeIn_35 : decode cX12_placeIn 35 = .ok (.iinc 3 1, 3) := by decide +kernel
theorem dX12_placeIn_38 : decode cX12_placeIn 38 = .ok (.goto (-23), 3) := by decide +kernel
theorem dX12_placeIn_41 : decode cX12_placeIn 41 = .ok (.iconst (-1), 1) := by decide +kernel
theorem dX12_placeIn_42 : decode cX12_placeIn 42 = .ok (.ireturn, 1) := by decide +kernel
theorem dX12_place_0 : decode cX12_place 0 = .ok (.aload_n 0, 1) := by decide +kernel
theorem dX12_place_1 : decode cX12_place 1 = .ok (.iconst 0, 1) := by decide +kernel
theorem dX12_place_2 : decode cX12_place 2 = .ok (.putfield 75, 3) := by decide +kernel
theorem dX12_place_5 : decode cX12_place 5 = .ok (.aload_n 0, 1) := by decide +kernel
theorem dX12_place_6 : decode cX12_place 6 = .ok (.aload_n 0, 1) := by decide +kernel
theorem dX12_place_7 : decode cX12_place 7 = .ok (.iload_n 1, 1) := by decide +kernel
theorem dX12_place_8 : decode cX12_place 8 = .ok (.iload_n 2, 1) := by decide +kernel
theorem dX12_place_9 : decode cX12_place 9 = .ok (.invokevirtual 359, 3) := by decide +kernel
theorem dX12_place_12 : decode cX12_place 12 = .ok (.putfield 78, 3) := by decide +kernel
theorem dX12_place_15 : decode cX12_place 15 = .ok (.aload_n 0, 1) := by decide +kernel
theorem dX12_place_16 : decode cX12_place 16 = .ok (.getfield 78, 3) := by decide +kernel
theorem dX12_place_19 : decode cX12_place 19 = .ok (.ifCond .le 7, 3) := by decide +kernel
theorem dX12_place_22 : decode cX12_place 22 = .ok (.iconst (-1), 1) := by decide +kernel
theorem dX12_place_23 : decode cX12_place 23 = .ok (.goto 9, 3) := by decide +kernel
theorem dX12_place_26 : decode cX12_place 26 = .ok (.aload_n 0, 1) := by decide +kernel
theorem dX12_place_27 : decode cX12_place 27 = .ok (.iload_n 1, 1) := by decide +kernel
theorem dX12_place_28 : decode cX12_place 28 = .ok (.iload_n 2, 1) := by decide +kernel
theorem dX12_place_29 : decode cX12_place 29 = .ok (.invokevirtual 362, 3) := by decide +kernel
theorem dX12_place_32 : decode cX12_place 32 = .ok (.ireturn, 1) := by decide +kernel
theorem dX12_whyNotTwo_0 : decode cX12_whyNotTwo 0 = .ok (.aload_n 0, 1) := by decide +kernel
theorem dX12_whyNotTwo_1 : decode cX12_whyNotTwo 1 = .ok (.iload_n 1, 1) := by decide +kernel
theorem dX12_whyNotTwo_2 : decode cX12_whyNotTwo 2 = .ok (.invokevirtual 319, 3) := by decide +kernel
theorem dX12_whyNotTwo_5 : decode cX12_whyNotTwo 5 = .ok (.ifCond .eq 11, 3) := by decide +kernel
theorem dX12_whyNotTwo_8 : decode cX12_whyNotTwo 8 = .ok (.aload_n 0, 1) := by decide +kernel
theorem dX12_whyNotTwo_9 : decode cX12_whyNotTwo 9 = .ok (.iload_n 2, 1) := by decide +kernel
theorem dX12_whyNotTwo_10 : decode cX12_whyNotTwo 10 = .ok (.invokevirtual 319, 3) := by decide +kernel
theorem dX12_whyNotTwo_13 : decode cX12_whyNotTwo 13 = .ok (.ifCond .ne 7, 3) := by decide +kernel
theorem dX12_whyNotTwo_16 : decode cX12_whyNotTwo 16 = .ok (.iconst 2, 1) := by decide +kernel
theorem dX12_whyNotTwo_17 : decode cX12_whyNotTwo 17 = .ok (.goto 25, 3) := by decide +kernel
theorem dX12_whyNotTwo_20 : decode cX12_whyNotTwo 20 = .ok (.aload_n 0, 1) := by decide +kernel
theorem dX12_whyNotTwo_21 : decode cX12_whyNotTwo 21 = .ok (.iload_n 1, 1) := by decide +kernel
theorem dX12_whyNotTwo_22 : decode cX12_whyNotTwo 22 = .ok (.invokevirtual 322, 3) := by decide +kernel
theorem dX12_whyNotTwo_25 : decode cX12_whyNotTwo 25 = .ok (.ifCond .ne 11, 3) := by decide +kernel
theorem dX12_whyNotTwo_28 : decode cX12_whyNotTwo 28 = .ok (.aload_n 0, 1) := by decide +kernel
theorem dX12_whyNotTwo_29 : decode cX12_whyNotTwo 29 = .ok (.iload_n 2, 1) := by decide +kernel
theorem dX12_whyNotTwo_30 : decode cX12_whyNotTwo 30 = .ok (.invokevirtual 322, 3) := by decide +kernel
theorem dX12_whyNotTwo_33 : decode cX12_whyNotTwo 33 = .ok (.ifCond .eq 8, 3) := by decide +kernel
theorem dX12_whyNotTwo_36 : decode cX12_whyNotTwo 36 = .ok (.bipush 9, 2) := by decide +kernel
theorem dX12_whyNotTwo_38 : decode cX12_whyNotTwo 38 = .ok (.goto 4, 3) := by decide +kernel
theorem dX12_whyNotTwo_41 : decode cX12_whyNotTwo 41 = .ok (.iconst 0, 1) := by decide +kernel
theorem dX12_whyNotTwo_42 : decode cX12_whyNotTwo 42 = .ok (.ireturn, 1) := by decide +kernel
theorem dX12_like_0 : decode cX12_like 0 = .ok (.aload_n 0, 1) := by decide +kernel
theorem dX12_like_1 : decode cX12_like 1 = .ok (.iconst 0, 1) := by decide +kernel
theorem dX12_like_2 : decode cX12_like 2 = .ok (.putfield 75, 3) := by decide +kernel
theorem dX12_like_5 : decode cX12_like 5 = .ok (.aload_n 0, 1) := by decide +kernel
theorem dX12_like_6 : decode cX12_like 6 = .ok (.aload_n 0, 1) := by decide +kernel
theorem dX12_like_7 : decode cX12_like 7 = .ok (.iload_n 1, 1) := by decide +kernel
theorem dX12_like_8 : decode cX12_like 8 = .ok (.iload_n 2, 1) := by decide +kernel
theorem dX12_like_9 : decode cX12_like 9 = .ok (.invokevirtual 365, 3) := by decide +kernel
theorem dX12_like_12 : decode cX12_like 12 = .ok (.putfield 78, 3) := by decide +kernel
theorem dX12_like_15 : decode cX12_like 15 = .ok (.aload_n 0, 1) := by decide +kernel
theorem dX12_like_16 : decode cX12_like 16 = .ok (.getfield 78, 3) := by decide +kernel
theorem dX12_like_19 : decode cX12_like 19 = .ok (.ifCond .le 5, 3) := by decide +kernel
theorem dX12_like_22 : decode cX12_like 22 = .ok (.iconst (-1), 1) := by decide +kernel
theorem dX12_like_23 : decode cX12_like 23 = .ok (.ireturn, 1) := by decide +kernel
theorem dX12_like_24 : decode cX12_like 24 = .ok (.aload_n 0, 1) := by decide +kernel
theorem dX12_like_25 : decode cX12_like 25 = .ok (.aload_n 0, 1) := by decide +kernel
theorem dX12_like_26 : decode cX12_like 26 = .ok (.iload_n 1, 1) := by decide +kernel
theorem dX12_like_27 : decode cX12_like 27 = .ok (.aload_n 0, 1) := by decide +kernel
theorem dX12_like_28 : decode cX12_like 28 = .ok (.getfield 41, 3) := by decide +kernel
theorem dX12_like_31 : decode cX12_like 31 = .ok (.invokevirtual 352, 3) := by decide +kernel
theorem dX12_like_34 : decode cX12_like 34 = .ok (.putfield 356, 3) := by decide +kernel
theorem dX12_like_37 : decode cX12_like 37 = .ok (.aload_n 0, 1) := by decide +kernel
theorem dX12_like_38 : decode cX12_like 38 = .ok (.aload_n 0, 1) := by decide +kernel
theorem dX12_like_39 : decode cX12_like 39 = .ok (.iload_n 2, 1) := by decide +kernel
theorem dX12_like_40 : decode cX12_like 40 = .ok (.aload_n 0, 1) := by decide +kernel
theorem dX12_like_41 : decode cX12_like 41 = .ok (.getfield 44, 3) := by decide +kernel
theorem dX12_like_44 : decode cX12_like 44 = .ok (.invokevirtual 352, 3) := by decide +kernel
theorem dX12_like_47 : decode cX12_like 47 = .ok (.putfield 368, 3) := by decide +kernel
theorem dX12_like_50 : decode cX12_like 50 = .ok (.aload_n 0, 1) := by decide +kernel
theorem dX12_like_51 : decode cX12_like 51 = .ok (.getfield 356, 3) := by decide +kernel
theorem dX12_like_54 : decode cX12_like 54 = .ok (.aload_n 0, 1) := by decide +kernel
theorem dX12_like_55 : decode cX12_like 55 = .ok (.getfield 368, 3) := by decide +kernel
theorem dX12_like_58 : decode cX12_like 58 = .ok (.if_icmp .eq 5, 3) := by decide +kernel
theorem dX12_like_61 : decode cX12_like 61 = .ok (.iconst 0, 1) := by decide +kernel
theorem dX12_like_62 : decode cX12_like 62 = .ok (.ireturn, 1) := by decide +kernel
theorem dX12_like_63 : decode cX12_like 63 = .ok (.iconst 0, 1) := by decide +kernel
theorem dX12_like_64 : decode cX12_like 64 = .ok (.istore_n 3, 1) := by decide +kernel
theorem dX12_like_65 : decode cX12_like 65 = .ok (.iload_n 3, 1) := by decide +kernel
theorem dX12_like_66 : decode cX12_like 66 = .ok (.aload_n 0, 1) := by decide +kernel
theorem dX12_like_67 : decode cX12_like 67 = .ok (.getfield 356, 3) := by decide +kernel
theorem dX12_like_70 : decode cX12_like 70 = .ok (.if_icmp .ge 80, 3) := by decide +kernel
theorem dX12_like_73 : decode cX12_like 73 = .ok (.aload_n 0, 1) := by decide +kernel
theorem dX12_like_74 : decode cX12_like 74 = .ok (.getfield 41, 3) := by decide +kernel
theorem dX12_like_77 : decode cX12_like 77 = .ok (.iload_n 3, 1) := by decide +kernel
theorem dX12_like_78 : decode cX12_like 78 = .ok (.iaload, 1) := by decide +kernel
theorem dX12_like_79 : decode cX12_like 79 = .ok (.aload_n 0, 1) := by decide +kernel
theorem dX12_like_80 : decode cX12_like 80 = .ok (.getfield 44, 3) := by decide +kernel
theorem dX12_like_83 : decode cX12_like 83 = .ok (.iload_n 3, 1) := by decide +kernel
theorem dX12_like_84 : decode cX12_like 84 = .ok (.iaload, 1) := by decide +kernel
theorem dX12_like_85 : decode cX12_like 85 = .ok (.if_icmp .ne 57, 3) := by decide +kernel
theorem dX12_like_88 : decode cX12_like 88 = .ok (.aload_n 0, 1) := by decide +kernel
theorem dX12_like_89 : decode cX12_like 89 = .ok (.iload_n 1, 1) := by decide +kernel
theorem dX12_like_90 : decode cX12_like 90 = .ok (.aload_n 0, 1) := by decide +kernel
theorem dX12_like_91 : decode cX12_like 91 = .ok (.getfield 41, 3) := by decide +kernel
theorem dX12_like_94 : decode cX12_like 94 = .ok (.iload_n 3, 1) := by decide +kernel
theorem dX12_like_95 : decode cX12_like 95 = .ok (.iaload, 1) := by decide +kernel
theorem dX12_like_96 : decode cX12_like 96 = .ok (.iconst 2, 1) := by decide +kernel
theorem dX12_like_97 : decode cX12_like 97 = .ok (.invokevirtual 346, 3) := by decide +kernel
theorem dX12_like_100 : decode cX12_like 100 = .ok (.aload_n 0, 1) := by decide +kernel
theorem dX12_like_101 : decode cX12_like 101 = .ok (.iload_n 2, 1) := by decide +kernel
theorem dX12_like_102 : decode cX12_like 102 = .ok (.aload_n 0, 1) := by decide +kernel
theorem dX12_like_103 : decode cX12_like 103 = .ok (.getfield 41, 3) := by decide +kernel
theorem dX12_like_106 : decode cX12_like 106 = .ok (.iload_n 3, 1) := by decide +kernel
theorem dX12_like_107 : decode cX12_like 107 = .ok (.iaload, 1) := by decide +kernel
theorem dX12_like_108 : decode cX12_like 108 = .ok (.iconst 2, 1) := by decide +kernel
theorem dX12_like_109 : decode cX12_like 109 = .ok (.invokevirtual 346, 3) := by decide +kernel
theorem dX12_like_112 : decode cX12_like 112 = .ok (.if_icmp .ne 30, 3) := by decide +kernel
theorem dX12_like_115 : decode cX12_like 115 = .ok (.aload_n 0, 1) := by decide +kernel
theorem dX12_like_116 : decode cX12_like 116 = .ok (.iload_n 1, 1) := by decide +kernel
theorem dX12_like_117 : decode cX12_like 117 = .ok (.aload_n 0, 1) := by decide +kernel
theorem dX12_like_118 : decode cX12_like 118 = .ok (.getfield 41, 3) := by decide +kernel
theorem dX12_like_121 : decode cX12_like 121 = .ok (.iload_n 3, 1) := by decide +kernel
theorem dX12_like_122 : decode cX12_like 122 = .ok (.iaload, 1) := by decide +kernel
theorem dX12_like_123 : decode cX12_like 123 = .ok (.iconst 3, 1) := by decide +kernel
theorem dX12_like_124 : decode cX12_like 124 = .ok (.invokevirtual 346, 3) := by decide +kernel
theorem dX12_like_127 : decode cX12_like 127 = .ok (.aload_n 0, 1) := by decide +kernel
theorem dX12_like_128 : decode cX12_like 128 = .ok (.iload_n 2, 1) := by decide +kernel
theorem dX12_like_129 : decode cX12_like 129 = .ok (.aload_n 0, 1) := by decide +kernel
theorem dX12_like_130 : decode cX12_like 130 = .ok (.getfield 41, 3) := by decide +kernel
theorem dX12_like_133 : decode cX12_like 133 = .ok (.iload_n 3, 1) := by decide +kernel
theorem dX12_like_134 : decode cX12_like 134 = .ok (.iaload, 1) := by decide +kernel
theorem dX12_like_135 : decode cX12_like 135 = .ok (.iconst 3, 1) := by decide +kernel
theorem dX12_like_136 : decode cX12_like 136 = .ok (.invokevirtual 346, 3) := by decide +kernel
theorem dX12_like_139 : decode cX12_like 139 = .ok (.if_icmp .eq 5, 3) := by decide +kernel
theorem dX12_like_142 : decode cX12_like 142 = .ok (.iconst 0, 1) := by decide +kernel
theorem dX12_like_143 : decode cX12_like 143 = .ok (.ireturn, 1) := by decide +kernel
theorem dX12_like_144 : decode cX12_like 144 = .ok (.iinc 3 1, 3) := by decide +kernel
theorem dX12_like_147 : decode cX12_like 147 = .ok (.goto (-82), 3) := by decide +kernel
theorem dX12_like_150 : decode cX12_like 150 = .ok (.iconst 0, 1) := by decide +kernel
theorem dX12_like_151 : decode cX12_like 151 = .ok (.istore_n 3, 1) := by decide +kernel
theorem dX12_like_152 : decode cX12_like 152 = .ok (.iload_n 3, 1) := by decide +kernel
theorem dX12_like_153 : decode cX12_like 153 = .ok (.aload_n 0, 1) := by decide +kernel
theorem dX12_like_154 : decode cX12_like 154 = .ok (.getfield 35, 3) := by decide +kernel
theorem dX12_like_157 : decode cX12_like 157 = .ok (.iconst 0, 1) := by decide +kernel
theorem dX12_like_158 : decode cX12_like 158 = .ok (.iaload, 1) := by decide +kernel
theorem dX12_like_159 : decode cX12_like 159 = .ok (.if_icmp .ge 26, 3) := by decide +kernel
theorem dX12_like_162 : decode cX12_like 162 = .ok (.aload_n 0, 1) := by decide +kernel
theorem dX12_like_163 : decode cX12_like 163 = .ok (.iload_n 1, 1) := by decide +kernel
theorem dX12_like_164 : decode cX12_like 164 = .ok (.iload_n 3, 1) := by decide +kernel
theorem dX12_like_165 : decode cX12_like 165 = .ok (.invokevirtual 334, 3) := by decide +kernel
theorem dX12_like_168 : decode cX12_like 168 = .ok (.aload_n 0, 1) := by decide +kernel
theorem dX12_like_169 : decode cX12_like 169 = .ok (.iload_n 2, 1) := by decide +kernel
theorem dX12_like_170 : decode cX12_like 170 = .ok (.iload_n 3, 1) := by decide +kernel
theorem dX12_like_171 : decode cX12_like 171 = .ok (.invokevirtual 334, 3) := by decide +kernel
theorem dX12_like_174 : decode cX12_like 174 = .ok (.if_icmp .eq 5, 3) := by decide +kernel
theorem dX12_like_177 : decode cX12_like 177 = .ok (.iconst 0, 1) := by decide +kernel
theorem dX12_like_178 : decode cX12_like 178 = .ok (.ireturn, 1) := by decide +kernel
theorem dX12_like_179 : decode cX12_like 179 = .ok (.iinc 3 1, 3) := by decide +kernel
theorem dX12_like_182 : decode cX12_like 182 = .ok (.goto (-30), 3) := by decide +kernel
theorem dX12_like_185 : decode cX12_like 185 = .ok (.iconst 1, 1) := by decide +kernel
theorem dX12_like_186 : decode cX12_like 186 = .ok (.ireturn, 1) := by decide +kernel
theorem dX12_apart_0 : decode cX12_apart 0 = .ok (.aload_n 0, 1) := by decide +kernel
theorem dX12_apart_1 : decode cX12_apart 1 = .ok (.iconst 0, 1) := by decide +kernel
theorem dX12_apart_2 : decode cX12_apart 2 = .ok (.putfield 75, 3) := by decide +kernel
theorem dX12_apart_5 : decode cX12_apart 5 = .ok (.aload_n 0, 1) := by decide +kernel
theorem dX12_apart_6 : decode cX12_apart 6 = .ok (.aload_n 0, 1) := by decide +kernel
theorem dX12_apart_7 : decode cX12_apart 7 = .ok (.iload_n 1, 1) := by decide +kernel
theorem dX12_apart_8 : decode cX12_apart 8 = .ok (.iload_n 2, 1) := by decide +kernel
theorem dX12_apart_9 : decode cX12_apart 9 = .ok (.invokevirtual 365, 3) := by decide +kernel
theorem dX12_apart_12 : decode cX12_apart 12 = .ok (.putfield 78, 3) := by decide +kernel
theorem dX12_apart_15 : decode cX12_apart 15 = .ok (.aload_n 0, 1) := by decide +kernel
theorem dX12_apart_16 : decode cX12_apart 16 = .ok (.getfield 78, 3) := by decide +kernel
theorem dX12_apart_19 : decode cX12_apart 19 = .ok (.ifCond .le 5, 3) := by decide +kernel
theorem dX12_apart_22 : decode cX12_apart 22 = .ok (.iconst (-1), 1) := by decide +kernel
theorem dX12_apart_23 : decode cX12_apart 23 = .ok (.ireturn, 1) := by decide +kernel
theorem dX12_apart_24 : decode cX12_apart 24 = .ok (.aload_n 0, 1) := by decide +kernel
theorem dX12_apart_25 : decode cX12_apart 25 = .ok (.aload_n 0, 1) := by decide +kernel
theorem dX12_apart_26 : decode cX12_apart 26 = .ok (.iload_n 1, 1) := by decide +kernel
theorem dX12_apart_27 : decode cX12_apart 27 = .ok (.aload_n 0, 1) := by decide +kernel
theorem dX12_apart_28 : decode cX12_apart 28 = .ok (.getfield 41, 3) := by decide +kernel
theorem dX12_apart_31 : decode cX12_apart 31 = .ok (.invokevirtual 352, 3) := by decide +kernel
theorem dX12_apart_34 : decode cX12_apart 34 = .ok (.putfield 356, 3) := by decide +kernel
theorem dX12_apart_37 : decode cX12_apart 37 = .ok (.aload_n 0, 1) := by decide +kernel
theorem dX12_apart_38 : decode cX12_apart 38 = .ok (.aload_n 0, 1) := by decide +kernel
theorem dX12_apart_39 : decode cX12_apart 39 = .ok (.iload_n 2, 1) := by decide +kernel
theorem dX12_apart_40 : decode cX12_apart 40 = .ok (.aload_n 0, 1) := by decide +kernel
theorem dX12_apart_41 : decode cX12_apart 41 = .ok (.getfield 44, 3) := by decide +kernel
theorem dX12_apart_44 : decode cX12_apart 44 = .ok (.invokevirtual 352, 3) := by decide +kernel
theorem dX12_apart_47 : decode cX12_apart 47 = .ok (.putfield 368, 3) := by decide +kernel
theorem dX12_apart_50 : decode cX12_apart 50 = .ok (.iconst 0, 1) := by decide +kernel
theorem dX12_apart_51 : decode cX12_apart 51 = .ok (.istore_n 3, 1) := by decide +kernel
theorem dX12_apart_52 : decode cX12_apart 52 = .ok (.iload_n 3, 1) := by decide +kernel
theorem dX12_apart_53 : decode cX12_apart 53 = .ok (.aload_n 0, 1) := by decide +kernel
theorem dX12_apart_54 : decode cX12_apart 54 = .ok (.getfield 356, 3) := by decide +kernel
theorem dX12_apart_57 : decode cX12_apart 57 = .ok (.if_icmp .lt 11, 3) := by decide +kernel
theorem dX12_apart_60 : decode cX12_apart 60 = .ok (.iload_n 3, 1) := by decide +kernel
theorem dX12_apart_61 : decode cX12_apart 61 = .ok (.aload_n 0, 1) := by decide +kernel
theorem dX12_apart_62 : decode cX12_apart 62 = .ok (.getfield 368, 3) := by decide +kernel
theorem dX12_apart_65 : decode cX12_apart 65 = .ok (.if_icmp .ge 69, 3) := by decide +kernel
theorem dX12_apart_68 : decode cX12_apart 68 = .ok (.iload_n 3, 1) := by decide +kernel
theorem dX12_apart_69 : decode cX12_apart 69 = .ok (.aload_n 0, 1) := by decide +kernel
theorem dX12_apart_70 : decode cX12_apart 70 = .ok (.getfield 356, 3) := by decide +kernel
theorem dX12_apart_73 : decode cX12_apart 73 = .ok (.if_icmp .ge 53, 3) := by decide +kernel
theorem dX12_apart_76 : decode cX12_apart 76 = .ok (.iload_n 3, 1) := by decide +kernel
theorem dX12_apart_77 : decode cX12_apart 77 = .ok (.aload_n 0, 1) := by decide +kernel
theorem dX12_apart_78 : decode cX12_apart 78 = .ok (.getfield 368, 3) := by decide +kernel
theorem dX12_apart_81 : decode cX12_apart 81 = .ok (.if_icmp .ge 45, 3) := by decide +kernel
theorem dX12_apart_84 : decode cX12_apart 84 = .ok (.aload_n 0, 1) := by decide +kernel
theorem dX12_apart_85 : decode cX12_apart 85 = .ok (.getfield 41, 3) := by decide +kernel
theorem dX12_apart_88 : decode cX12_apart 88 = .ok (.iload_n 3, 1) := by decide +kernel
theorem dX12_apart_89 : decode cX12_apart 89 = .ok (.iaload, 1) := by decide +kernel
theorem dX12_apart_90 : decode cX12_apart 90 = .ok (.aload_n 0, 1) := by decide +kernel
theorem dX12_apart_91 : decode cX12_apart 91 = .ok (.getfield 44, 3) := by decide +kernel
theorem dX12_apart_94 : decode cX12_apart 94 = .ok (.iload_n 3, 1) := by decide +kernel
theorem dX12_apart_95 : decode cX12_apart 95 = .ok (.iaload, 1) := by decide +kernel
theorem dX12_apart_96 : decode cX12_apart 96 = .ok (.if_icmp .ne 30, 3) := by decide +kernel
theorem dX12_apart_99 : decode cX12_apart 99 = .ok (.aload_n 0, 1) := by decide +kernel
theorem dX12_apart_100 : decode cX12_apart 100 = .ok (.iload_n 1, 1) := by decide +kernel
theorem dX12_apart_101 : decode cX12_apart 101 = .ok (.aload_n 0, 1) := by decide +kernel
theorem dX12_apart_102 : decode cX12_apart 102 = .ok (.getfield 41, 3) := by decide +kernel
theorem dX12_apart_105 : decode cX12_apart 105 = .ok (.iload_n 3, 1) := by decide +kernel
theorem dX12_apart_106 : decode cX12_apart 106 = .ok (.iaload, 1) := by decide +kernel
theorem dX12_apart_107 : decode cX12_apart 107 = .ok (.iconst 2, 1) := by decide +kernel
theorem dX12_apart_108 : decode cX12_apart 108 = .ok (.invokevirtual 346, 3) := by decide +kernel
theorem dX12_apart_111 : decode cX12_apart 111 = .ok (.aload_n 0, 1) := by decide +kernel
theorem dX12_apart_112 : decode cX12_apart 112 = .ok (.iload_n 2, 1) := by decide +kernel
theorem dX12_apart_113 : decode cX12_apart 113 = .ok (.aload_n 0, 1) := by decide +kernel
theorem dX12_apart_114 : decode cX12_apart 114 = .ok (.getfield 41, 3) := by decide +kernel
theorem dX12_apart_117 : decode cX12_apart 117 = .ok (.iload_n 3, 1) := by decide +kernel
theorem dX12_apart_118 : decode cX12_apart 118 = .ok (.iaload, 1) := by decide +kernel
theorem dX12_apart_119 : decode cX12_apart 119 = .ok (.iconst 2, 1) := by decide +kernel
theorem dX12_apart_120 : decode cX12_apart 120 = .ok (.invokevirtual 346, 3) := by decide +kernel
theorem dX12_apart_123 : decode cX12_apart 123 = .ok (.if_icmp .eq 5, 3) := by decide +kernel
theorem dX12_apart_126 : decode cX12_apart 126 = .ok (.iload_n 3, 1) := by decide +kernel
theorem dX12_apart_127 : decode cX12_apart 127 = .ok (.ireturn, 1) := by decide +kernel
theorem dX12_apart_128 : decode cX12_apart 128 = .ok (.iinc 3 1, 3) := by decide +kernel
theorem dX12_apart_131 : decode cX12_apart 131 = .ok (.goto (-79), 3) := by decide +kernel
theorem dX12_apart_134 : decode cX12_apart 134 = .ok (.aload_n 0, 1) := by decide +kernel
theorem dX12_apart_135 : decode cX12_apart 135 = .ok (.bipush 8, 2) := by decide +kernel
theorem dX12_apart_137 : decode cX12_apart 137 = .ok (.invokevirtual 299, 3) := by decide +kernel
theorem dX12_apart_140 : decode cX12_apart 140 = .ok (.ireturn, 1) := by decide +kernel
theorem dX12_quarrels_0 : decode cX12_quarrels 0 = .ok (.aload_n 0, 1) := by decide +kernel
theorem dX12_quarrels_1 : decode cX12_quarrels 1 = .ok (.iconst 0, 1) := by decide +kernel
theorem dX12_quarrels_2 : decode cX12_quarrels 2 = .ok (.putfield 75, 3) := by decide +kernel
theorem dX12_quarrels_5 : decode cX12_quarrels 5 = .ok (.aload_n 0, 1) := by decide +kernel
theorem dX12_quarrels_6 : decode cX12_quarrels 6 = .ok (.iconst 0, 1) := by decide +kernel
theorem dX12_quarrels_7 : decode cX12_quarrels 7 = .ok (.putfield 78, 3) := by decide +kernel
theorem dX12_quarrels_10 : decode cX12_quarrels 10 = .ok (.aload_n 0, 1) := by decide +kernel
theorem dX12_quarrels_11 : decode cX12_quarrels 11 = .ok (.iload_n 1, 1) := by decide +kernel
theorem dX12_quarrels_12 : decode cX12_quarrels 12 = .ok (.invokevirtual 319, 3) := by decide +kernel
theorem dX12_quarrels_15 : decode cX12_quarrels 15 = .ok (.ifCond .eq 11, 3) := by decide +kernel
theorem dX12_quarrels_18 : decode cX12_quarrels 18 = .ok (.aload_n 0, 1) := by decide +kernel
theorem dX12_quarrels_19 : decode cX12_quarrels 19 = .ok (.iload_n 1, 1) := by decide +kernel
theorem dX12_quarrels_20 : decode cX12_quarrels 20 = .ok (.invokevirtual 371, 3) := by decide +kernel
theorem dX12_quarrels_23 : decode cX12_quarrels 23 = .ok (.goto 8, 3) := by decide +kernel
theorem dX12_quarrels_26 : decode cX12_quarrels 26 = .ok (.aload_n 0, 1) := by decide +kernel
theorem dX12_quarrels_27 : decode cX12_quarrels 27 = .ok (.iconst 2, 1) := by decide +kernel
theorem dX12_quarrels_28 : decode cX12_quarrels 28 = .ok (.invokevirtual 299, 3) := by decide +kernel
theorem dX12_quarrels_31 : decode cX12_quarrels 31 = .ok (.ireturn, 1) := by decide +kernel
theorem dX12_with_0 : decode cX12_with 0 = .ok (.aload_n 0, 1) := by decide +kernel
theorem dX12_with_1 : decode cX12_with 1 = .ok (.iconst 0, 1) := by decide +kernel
theorem dX12_with_2 : decode cX12_with 2 = .ok (.putfield 75, 3) := by decide +kernel
theorem dX12_with_5 : decode cX12_with 5 = .ok (.aload_n 0, 1) := by decide +kernel
theorem dX12_with_6 : decode cX12_with 6 = .ok (.iconst 0, 1) := by decide +kernel
theorem dX12_with_7 : decode cX12_with 7 = .ok (.putfield 78, 3) := by decide +kernel
theorem dX12_with_10 : decode cX12_with 10 = .ok (.aload_n 0, 1) := by decide +kernel
theorem dX12_with_11 : decode cX12_with 11 = .ok (.iload_n 1, 1) := by decide +kernel
theorem dX12_with_12 : decode cX12_with 12 = .ok (.invokevirtual 319, 3) := by decide +kernel
theorem dX12_with_15 : decode cX12_with 15 = .ok (.ifCond .eq 11, 3) := by decide +kernel
theorem dX12_with_18 : decode cX12_with 18 = .ok (.aload_n 0, 1) := by decide +kernel
theorem dX12_with_19 : decode cX12_with 19 = .ok (.iload_n 2, 1) := by decide +kernel
theorem dX12_with_20 : decode cX12_with 20 = .ok (.invokevirtual 311, 3) := by decide +kernel
theorem dX12_with_23 : decode cX12_with 23 = .ok (.ifCond .ne 9, 3) := by decide +kernel
theorem dX12_with_26 : decode cX12_with 26 = .ok (.aload_n 0, 1) := by decide +kernel
theorem dX12_with_27 : decode cX12_with 27 = .ok (.iconst 2, 1) := by decide +kernel
theorem dX12_with_28 : decode cX12_with 28 = .ok (.invokevirtual 299, 3) := by decide +kernel
theorem dX12_with_31 : decode cX12_with 31 = .ok (.ireturn, 1) := by decide +kernel
theorem dX12_with_32 : decode cX12_with 32 = .ok (.iload_n 1, 1) := by decide +kernel
theorem dX12_with_33 : decode cX12_with 33 = .ok (.iload_n 2, 1) := by decide +kernel
theorem dX12_with_34 : decode cX12_with 34 = .ok (.invokestatic 302, 3) := by decide +kernel
theorem dX12_with_37 : decode cX12_with 37 = .ok (.ifCond .eq 12, 3) := by decide +kernel
theorem dX12_with_40 : decode cX12_with 40 = .ok (.aload_n 0, 1) := by decide +kernel
theorem dX12_with_41 : decode cX12_with 41 = .ok (.iload_n 1, 1) := by decide +kernel
theorem dX12_with_42 : decode cX12_with 42 = .ok (.iload_n 2, 1) := by decide +kernel
theorem dX12_with_43 : decode cX12_with 43 = .ok (.invokevirtual 334, 3) := by decide +kernel
theorem dX12_with_46 : decode cX12_with 46 = .ok (.goto 9, 3) := by decide +kernel
theorem dX12_with_49 : decode cX12_with 49 = .ok (.aload_n 0, 1) := by decide +kernel
theorem dX12_with_50 : decode cX12_with 50 = .ok (.bipush 8, 2) := by decide +kernel
theorem dX12_with_52 : decode cX12_with 52 = .ok (.invokevirtual 299, 3) := by decide +kernel
theorem dX12_with_55 : decode cX12_with 55 = .ok (.ireturn, 1) := by decide +kernel
theorem dX12_isQuiet_0 : decode cX12_isQuiet 0 = .ok (.aload_n 0, 1) := by decide +kernel
theorem dX12_isQuiet_1 : decode cX12_isQuiet 1 = .ok (.iload_n 1, 1) := by decide +kernel
theorem dX12_isQuiet_2 : decode cX12_isQuiet 2 = .ok (.invokevirtual 371, 3) := by decide +kernel
theorem dX12_isQuiet_5 : decode cX12_isQuiet 5 = .ok (.ifCond .ne 7, 3) := by decide +kernel
theorem dX12_isQuiet_8 : decode cX12_isQuiet 8 = .ok (.iconst 1, 1) := by decide +kernel
theorem dX12_isQuiet_9 : decode cX12_isQuiet 9 = .ok (.goto 4, 3) := by decide +kernel
theorem dX12_isQuiet_12 : decode cX12_isQuiet 12 = .ok (.iconst 0, 1) := by decide +kernel
theorem dX12_isQuiet_13 : decode cX12_isQuiet 13 = .ok (.ireturn, 1) := by decide +kernel
theorem dX12_leastOut_0 : decode cX12_leastOut 0 = .ok (.aload_n 0, 1) := by decide +kernel
theorem dX12_leastOut_1 : decode cX12_leastOut 1 = .ok (.iconst 0, 1) := by decide +kernel
theorem dX12_leastOut_2 : decode cX12_leastOut 2 = .ok (.putfield 75, 3) := by decide +kernel
theorem dX12_leastOut_5 : decode cX12_leastOut 5 = .ok (.aload_n 0, 1) := by decide +kernel
theorem dX12_leastOut_6 : decode cX12_leastOut 6 = .ok (.aload_n 0, 1) := by decide +kernel
theorem dX12_leastOut_7 : decode cX12_leastOut 7 = .ok (.iload_n 1, 1) := by decide +kernel
theorem dX12_leastOut_8 : decode cX12_leastOut 8 = .ok (.invokevirtual 349, 3) := by decide +kernel
theorem dX12_leastOut_11 : decode cX12_leastOut 11 = .ok (.putfield 78, 3) := by decide +kernel
theorem dX12_leastOut_14 : decode cX12_leastOut 14 = .ok (.aload_n 0, 1) := by decide +kernel
theorem dX12_leastOut_15 : decode cX12_leastOut 15 = .ok (.getfield 78, 3) := by decide +kernel
theorem dX12_leastOut_18 : decode cX12_leastOut 18 = .ok (.ifCond .le 5, 3) := by decide +kernel
theorem dX12_leastOut_21 : decode cX12_leastOut 21 = .ok (.iconst (-1), 1) := by decide +kernel
theorem dX12_leastOut_22 : decode cX12_leastOut 22 = .ok (.ireturn, 1) := by decide +kernel
theorem dX12_leastOut_23 : decode cX12_leastOut 23 = .ok (.iconst (-1), 1) := by decide +kernel
theorem dX12_leastOut_24 : decode cX12_leastOut 24 = .ok (.istore_n 2, 1) := by decide +kernel
theorem dX12_leastOut_25 : decode cX12_leastOut 25 = .ok (.iconst 0, 1) := by decide +kernel
theorem dX12_leastOut_26 : decode cX12_leastOut 26 = .ok (.istore_n 3, 1) := by decide +kernel
theorem dX12_leastOut_27 : decode cX12_leastOut 27 = .ok (.iload_n 3, 1) := by decide +kernel
theorem dX12_leastOut_28 : decode cX12_leastOut 28 = .ok (.iload_n 1, 1) := by decide +kernel
theorem dX12_leastOut_29 : decode cX12_leastOut 29 = .ok (.if_icmp .gt 61, 3) := by decide +kernel
theorem dX12_leastOut_32 : decode cX12_leastOut 32 = .ok (.iload_n 3, 1) := by decide +kernel
theorem dX12_leastOut_33 : decode cX12_leastOut 33 = .ok (.iload_n 1, 1) := by decide +kernel
theorem dX12_leastOut_34 : decode cX12_leastOut 34 = .ok (.iconst (-1), 1) := by decide +kernel
theorem dX12_leastOut_35 : decode cX12_leastOut 35 = .ok (.ixor, 1) := by decide +kernel
theorem dX12_leastOut_36 : decode cX12_leastOut 36 = .ok (.iand, 1) := by decide +kernel
theorem dX12_leastOut_37 : decode cX12_leastOut 37 = .ok (.ifCond .ne 47, 3) := by decide +kernel
theorem dX12_leastOut_40 : decode cX12_leastOut 40 = .ok (.iload_n 2, 1) := by decide +kernel
theorem dX12_leastOut_41 : decode cX12_leastOut 41 = .ok (.ifCond .lt 17, 3) := by decide +kernel
theorem dX12_leastOut_44 : decode cX12_leastOut 44 = .ok (.iload_n 3, 1) := by decide +kernel
theorem dX12_leastOut_45 : decode cX12_leastOut 45 = .ok (.invokestatic 325, 3) := by decide +kernel
theorem dX12_leastOut_48 : decode cX12_leastOut 48 = .ok (.iload_n 2, 1) := by decide +kernel
theorem dX12_leastOut_49 : decode cX12_leastOut 49 = .ok (.invokestatic 325, 3) := by decide +kernel
theorem dX12_leastOut_52 : decode cX12_leastOut 52 = .ok (.if_icmp .lt 6, 3) := by decide +kernel
theorem dX12_leastOut_55 : decode cX12_leastOut 55 = .ok (.goto 29, 3) := by decide +kernel
theorem dX12_leastOut_58 : decode cX12_leastOut 58 = .ok (.aload_n 0, 1) := by decide +kernel
theorem dX12_leastOut_59 : decode cX12_leastOut 59 = .ok (.iload_n 1, 1) := by decide +kernel
theorem dX12_leastOut_60 : decode cX12_leastOut 60 = .ok (.iload_n 3, 1) := by decide +kernel
theorem dX12_leastOut_61 : decode cX12_leastOut 61 = .ok (.iconst (-1), 1) := by decide +kernel
theorem dX12_leastOut_62 : decode cX12_leastOut 62 = .ok (.ixor, 1) := by decide +kernel
theorem dX12_leastOut_63 : decode cX12_leastOut 63 = .ok (.iand, 1) := by decide +kernel
theorem dX12_leastOut_64 : decode cX12_leastOut 64 = .ok (.invokevirtual 322, 3) := by decide +kernel
theorem dX12_leastOut_67 : decode cX12_leastOut 67 = .ok (.ifCond .ne 17, 3) := by decide +kernel
theorem dX12_leastOut_70 : decode cX12_leastOut 70 = .ok (.aload_n 0, 1) := by decide +kernel
theorem dX12_leastOut_71 : decode cX12_leastOut 71 = .ok (.iload_n 1, 1) := by decide +kernel
theorem dX12_leastOut_72 : decode cX12_leastOut 72 = .ok (.iload_n 3, 1) := by decide +kernel
theorem dX12_leastOut_73 : decode cX12_leastOut 73 = .ok (.iconst (-1), 1) := by decide +kernel
theorem dX12_leastOut_74 : decode cX12_leastOut 74 = .ok (.ixor, 1) := by decide +kernel
theorem dX12_leastOut_75 : decode cX12_leastOut 75 = .ok (.iand, 1) := by decide +kernel
theorem dX12_leastOut_76 : decode cX12_leastOut 76 = .ok (.invokevirtual 374, 3) := by decide +kernel
theorem dX12_leastOut_79 : decode cX12_leastOut 79 = .ok (.ifCond .eq 5, 3) := by decide +kernel
theorem dX12_leastOut_82 : decode cX12_leastOut 82 = .ok (.iload_n 3, 1) := by decide +kernel
theorem dX12_leastOut_83 : decode cX12_leastOut 83 = .ok (.istore_n 2, 1) := by decide +kernel
theorem dX12_leastOut_84 : decode cX12_leastOut 84 = .ok (.iinc 3 1, 3) := by decide +kernel
theorem dX12_leastOut_87 : decode cX12_leastOut 87 = .ok (.goto (-60), 3) := by decide +kernel
theorem dX12_leastOut_90 : decode cX12_leastOut 90 = .ok (.iload_n 2, 1) := by decide +kernel
theorem dX12_leastOut_91 : decode cX12_leastOut 91 = .ok (.ireturn, 1) := by decide +kernel
theorem dX12_mostQuiet_0 : decode cX12_mostQuiet 0 = .ok (.aload_n 0, 1) := by decide +kernel
theorem dX12_mostQuiet_1 : decode cX12_mostQuiet 1 = .ok (.iconst 0, 1) := by decide +kernel
theorem dX12_mostQuiet_2 : decode cX12_mostQuiet 2 = .ok (.putfield 75, 3) := by decide +kernel
theorem dX12_mostQuiet_5 : decode cX12_mostQuiet 5 = .ok (.aload_n 0, 1) := by decide +kernel
theorem dX12_mostQuiet_6 : decode cX12_mostQuiet 6 = .ok (.iconst 0, 1) := by decide +kernel
theorem dX12_mostQuiet_7 : decode cX12_mostQuiet 7 = .ok (.putfield 78, 3) := by decide +kernel
theorem dX12_mostQuiet_10 : decode cX12_mostQuiet 10 = .ok (.iconst 0, 1) := by decide +kernel
theorem dX12_mostQuiet_11 : decode cX12_mostQuiet 11 = .ok (.istore_n 1, 1) := by decide +kernel
theorem dX12_mostQuiet_12 : decode cX12_mostQuiet 12 = .ok (.iconst 0, 1) := by decide +kernel
theorem dX12_mostQuiet_13 : decode cX12_mostQuiet 13 = .ok (.istore_n 2, 1) := by decide +kernel
theorem dX12_mostQuiet_14 : decode cX12_mostQuiet 14 = .ok (.iload_n 2, 1) := by decide +kernel
theorem dX12_mostQuiet_15 : decode cX12_mostQuiet 15 = .ok (.iconst 1, 1) := by decide +kernel
theorem dX12_mostQuiet_16 : decode cX12_mostQuiet 16 = .ok (.aload_n 0, 1) := by decide +kernel
theorem dX12_mostQuiet_17 : decode cX12_mostQuiet 17 = .ok (.getfield 35, 3) := by decide +kernel
theorem dX12_mostQuiet_20 : decode cX12_mostQuiet 20 = .ok (.iconst 0, 1) := by decide +kernel
theorem dX12_mostQuiet_21 : decode cX12_mostQuiet 21 = .ok (.iaload, 1) := by decide +kernel
theorem dX12_mostQuiet_22 : decode cX12_mostQuiet 22 = .ok (.ishl, 1) := by decide +kernel
theorem dX12_mostQuiet_23 : decode cX12_mostQuiet 23 = .ok (.if_icmp .ge 38, 3) := by decide +kernel
theorem dX12_mostQuiet_26 : decode cX12_mostQuiet 26 = .ok (.iload_n 2, 1) := by decide +kernel
theorem dX12_mostQuiet_27 : decode cX12_mostQuiet 27 = .ok (.invokestatic 325, 3) := by decide +kernel
theorem dX12_mostQuiet_30 : decode cX12_mostQuiet 30 = .ok (.iload_n 1, 1) := by decide +kernel
theorem dX12_mostQuiet_31 : decode cX12_mostQuiet 31 = .ok (.if_icmp .le 24, 3) := by decide +kernel
theorem dX12_mostQuiet_34 : decode cX12_mostQuiet 34 = .ok (.aload_n 0, 1) := by decide +kernel
theorem dX12_mostQuiet_35 : decode cX12_mostQuiet 35 = .ok (.iload_n 2, 1) := by decide +kernel
theorem dX12_mostQuiet_36 : decode cX12_mostQuiet 36 = .ok (.invokevirtual 322, 3) := by decide +kernel
theorem dX12_mostQuiet_39 : decode cX12_mostQuiet 39 = .ok (.ifCond .ne 16, 3) := by decide +kernel
theorem dX12_mostQuiet_42 : decode cX12_mostQuiet 42 = .ok (.aload_n 0, 1) := by decide +kernel
theorem dX12_mostQuiet_43 : decode cX12_mostQuiet 43 = .ok (.iload_n 2, 1) := by decide +kernel
theorem dX12_mostQuiet_44 : decode cX12_mostQuiet 44 = .ok (.invokevirtual 374, 3) := by decide +kernel
theorem dX12_mostQuiet_47 : decode cX12_mostQuiet 47 = .ok (.ifCond .eq 8, 3) := by decide +kernel
theorem dX12_mostQuiet_50 : decode cX12_mostQuiet 50 = .ok (.iload_n 2, 1) := by decide +kernel
theorem dX12_mostQuiet_51 : decode cX12_mostQuiet 51 = .ok (.invokestatic 325, 3) := by decide +kernel
theorem dX12_mostQuiet_54 : decode cX12_mostQuiet 54 = .ok (.istore_n 1, 1) := by decide +kernel
theorem dX12_mostQuiet_55 : decode cX12_mostQuiet 55 = .ok (.iinc 2 1, 3) := by decide +kernel
theorem dX12_mostQuiet_58 : decode cX12_mostQuiet 58 = .ok (.goto (-44), 3) := by decide +kernel
theorem dX12_mostQuiet_61 : decode cX12_mostQuiet 61 = .ok (.iload_n 1, 1) := by decide +kernel
theorem dX12_mostQuiet_62 : decode cX12_mostQuiet 62 = .ok (.ireturn, 1) := by decide +kernel
theorem dX12_need_0 : decode cX12_need 0 = .ok (.iconst 0, 1) := by decide +kernel
theorem dX12_need_1 : decode cX12_need 1 = .ok (.istore 4, 2) := by decide +kernel
theorem dX12_need_3 : decode cX12_need 3 = .ok (.iload 4, 2) := by decide +kernel
theorem dX12_need_5 : decode cX12_need 5 = .ok (.aload_n 0, 1) := by decide +kernel
theorem dX12_need_6 : decode cX12_need 6 = .ok (.getfield 35, 3) := by decide +kernel
theorem dX12_need_9 : decode cX12_need 9 = .ok (.iconst 0, 1) := by decide +kernel
theorem dX12_need_10 : decode cX12_need 10 = .ok (.iaload, 1) := by decide +kernel
theorem dX12_need_11 : decode cX12_need 11 = .ok (.if_icmp .ge 25, 3) := by decide +kernel
theorem dX12_need_14 : decode cX12_need 14 = .ok (.aload_n 0, 1) := by decide +kernel
theorem dX12_need_15 : decode cX12_need 15 = .ok (.getfield 51, 3) := by decide +kernel
theorem dX12_need_18 : decode cX12_need 18 = .ok (.iload 4, 2) := by decide +kernel
theorem dX12_need_20 : decode cX12_need 20 = .ok (.aload_n 0, 1) := by decide +kernel
theorem dX12_need_21 : decode cX12_need 21 = .ok (.iconst 0, 1) := by decide +kernel
theorem dX12_need_22 : decode cX12_need 22 = .ok (.iload 4, 2) := by decide +kernel
theorem dX12_need_24 : decode cX12_need 24 = .ok (.invokevirtual 249, 3) := by decide +kernel
theorem dX12_need_27 : decode cX12_need 27 = .ok (.iload_n 1, 1) := by decide +kernel
theorem dX12_need_28 : decode cX12_need 28 = .ok (.iand, 1) := by decide +kernel
theorem dX12_need_29 : decode cX12_need 29 = .ok (.iastore, 1) := by decide +kernel
theorem dX12_need_30 : decode cX12_need 30 = .ok (.iinc 4 1, 3) := by decide +kernel
theorem dX12_need_33 : decode cX12_need 33 = .ok (.goto (-30), 3) := by decide +kernel
theorem dX12_need_36 : decode cX12_need 36 = .ok (.iload_n 3, 1) := by decide +kernel
theorem dX12_need_37 : decode cX12_need 37 = .ok (.ifCond .lt 15, 3) := by decide +kernel
theorem dX12_need_40 : decode cX12_need 40 = .ok (.aload_n 0, 1) := by decide +kernel
theorem dX12_need_41 : decode cX12_need 41 = .ok (.getfield 51, 3) := by decide +kernel
theorem dX12_need_44 : decode cX12_need 44 = .ok (.iload_n 3, 1) := by decide +kernel
theorem dX12_need_45 : decode cX12_need 45 = .ok (.dup2, 1) := by decide +kernel
theorem dX12_need_46 : decode cX12_need 46 = .ok (.iaload, 1) := by decide +kernel
theorem dX12_need_47 : decode cX12_need 47 = .ok (.iconst 1, 1) := by decide +kernel
theorem dX12_need_48 : decode cX12_need 48 = .ok (.iload_n 2, 1) := by decide +kernel
theorem dX12_need_49 : decode cX12_need 49 = .ok (.ishl, 1) := by decide +kernel
theorem dX12_need_50 : decode cX12_need 50 = .ok (.ior, 1) := by decide +kernel
theorem dX12_need_51 : decode cX12_need 51 = .ok (.iastore, 1) := by decide +kernel
theorem dX12_need_52 : decode cX12_need 52 = .ok (.return_, 1) := by decide +kernel
theorem dX12_countWays_0 : decode cX12_countWays 0 = .ok (.iload_n 1, 1) := by decide +kernel
theorem dX12_countWays_1 : decode cX12_countWays 1 = .ok (.istore_n 2, 1) := by decide +kernel
theorem dX12_countWays_2 : decode cX12_countWays 2 = .ok (.iload_n 2, 1) := by decide +kernel
theorem dX12_countWays_3 : decode cX12_countWays 3 = .ok (.ifCond .lt 98, 3) := by decide +kernel
theorem dX12_countWays_6 : decode cX12_countWays 6 = .ok (.iload_n 2, 1) := by decide +kernel
theorem dX12_countWays_7 : decode cX12_countWays 7 = .ok (.iload_n 1, 1) := by decide +kernel
theorem dX12_countWays_8 : decode cX12_countWays 8 = .ok (.iconst (-1), 1) := by decide +kernel
theorem dX12_countWays_9 : decode cX12_countWays 9 = .ok (.ixor, 1) := by decide +kernel
theorem dX12_countWays_10 : decode cX12_countWays 10 = .ok (.iand, 1) := by decide +kernel
theorem dX12_countWays_11 : decode cX12_countWays 11 = .ok (.ifCond .eq 6, 3) := by decide +kernel
theorem dX12_countWays_14 : decode cX12_countWays 14 = .ok (.goto 81, 3) := by decide +kernel
theorem dX12_countWays_17 : decode cX12_countWays 17 = .ok (.aload_n 0, 1) := by decide +kernel
theorem dX12_countWays_18 : decode cX12_countWays 18 = .ok (.getfield 48, 3) := by decide +kernel
theorem dX12_countWays_21 : decode cX12_countWays 21 = .ok (.iload_n 2, 1) := by decide +kernel
theorem dX12_countWays_22 : decode cX12_countWays 22 = .ok (.iload_n 2, 1) := by decide +kernel
theorem dX12_countWays_23 : decode cX12_countWays 23 = .ok (.iload_n 1, 1) := by decide +kernel
theorem dX12_countWays_24 : decode cX12_countWays 24 = .ok (.if_icmp .ne 7, 3) := by decide +kernel
theorem dX12_countWays_27 : decode cX12_countWays 27 = .ok (.lconst 1, 1) := by decide +kernel
theorem dX12_countWays_28 : decode cX12_countWays 28 = .ok (.goto 4, 3) := by decide +kernel
theorem dX12_countWays_31 : decode cX12_countWays 31 = .ok (.lconst 0, 1) := by decide +kernel
theorem dX12_countWays_32 : decode cX12_countWays 32 = .ok (.lastore, 1) := by decide +kernel
theorem dX12_countWays_33 : decode cX12_countWays 33 = .ok (.iconst 0, 1) := by decide +kernel
theorem dX12_countWays_34 : decode cX12_countWays 34 = .ok (.istore_n 3, 1) := by decide +kernel
theorem dX12_countWays_35 : decode cX12_countWays 35 = .ok (.iload_n 3, 1) := by decide +kernel
theorem dX12_countWays_36 : decode cX12_countWays 36 = .ok (.aload_n 0, 1) := by decide +kernel
theorem dX12_countWays_37 : decode cX12_countWays 37 = .ok (.getfield 35, 3) := by decide +kernel
theorem dX12_countWays_40 : decode cX12_countWays 40 = .ok (.iconst 0, 1) := by decide +kernel
theorem dX12_countWays_41 : decode cX12_countWays 41 = .ok (.iaload, 1) := by decide +kernel
theorem dX12_countWays_42 : decode cX12_countWays 42 = .ok (.if_icmp .ge 53, 3) := by decide +kernel
theorem dX12_countWays_45 : decode cX12_countWays 45 = .ok (.iload_n 1, 1) := by decide +kernel
theorem dX12_countWays_46 : decode cX12_countWays 46 = .ok (.iload_n 2, 1) := by decide +kernel
theorem dX12_countWays_47 : decode cX12_countWays 47 = .ok (.iconst (-1), 1) := by decide +kernel
theorem dX12_countWays_48 : decode cX12_countWays 48 = .ok (.ixor, 1) := by decide +kernel
theorem dX12_countWays_49 : decode cX12_countWays 49 = .ok (.iand, 1) := by decide +kernel
theorem dX12_countWays_50 : decode cX12_countWays 50 = .ok (.iload_n 3, 1) := by decide +kernel
theorem dX12_countWays_51 : decode cX12_countWays 51 = .ok (.invokestatic 302, 3) := by decide +kernel
theorem dX12_countWays_54 : decode cX12_countWays 54 = .ok (.ifCond .eq 35, 3) := by decide +kernel
theorem dX12_countWays_57 : decode cX12_countWays 57 = .ok (.aload_n 0, 1) := by decide +kernel
theorem dX12_countWays_58 : decode cX12_countWays 58 = .ok (.getfield 51, 3) := by decide +kernel
theorem dX12_countWays_61 : decode cX12_countWays 61 = .ok (.iload_n 3, 1) := by decide +kernel
theorem dX12_countWays_62 : decode cX12_countWays 62 = .ok (.iaload, 1) := by decide +kernel
theorem dX12_countWays_63 : decode cX12_countWays 63 = .ok (.iload_n 2, 1) := by decide +kernel
theorem dX12_countWays_64 : decode cX12_countWays 64 = .ok (.iconst (-1), 1) := by decide +kernel
theorem dX12_countWays_65 : decode cX12_countWays 65 = .ok (.ixor, 1) := by decide +kernel
theorem dX12_countWays_66 : decode cX12_countWays 66 = .ok (.iand, 1) := by decide +kernel
theorem dX12_countWays_67 : decode cX12_countWays 67 = .ok (.ifCond .ne 22, 3) := by decide +kernel
theorem dX12_countWays_70 : decode cX12_countWays 70 = .ok (.aload_n 0, 1) := by decide +kernel
theorem dX12_countWays_71 : decode cX12_countWays 71 = .ok (.getfield 48, 3) := by decide +kernel
theorem dX12_countWays_74 : decode cX12_countWays 74 = .ok (.iload_n 2, 1) := by decide +kernel
theorem dX12_countWays_75 : decode cX12_countWays 75 = .ok (.dup2, 1) := by decide +kernel
theorem dX12_countWays_76 : decode cX12_countWays 76 = .ok (.laload, 1) := by decide +kernel
theorem dX12_countWays_77 : decode cX12_countWays 77 = .ok (.aload_n 0, 1) := by decide +kernel
theorem dX12_countWays_78 : decode cX12_countWays 78 = .ok (.getfield 48, 3) := by decide +kernel
theorem dX12_countWays_81 : decode cX12_countWays 81 = .ok (.iload_n 2, 1) := by decide +kernel
theorem dX12_countWays_82 : decode cX12_countWays 82 = .ok (.iconst 1, 1) := by decide +kernel
theorem dX12_countWays_83 : decode cX12_countWays 83 = .ok (.iload_n 3, 1) := by decide +kernel
theorem dX12_countWays_84 : decode cX12_countWays 84 = .ok (.ishl, 1) := by decide +kernel
theorem dX12_countWays_85 : decode cX12_countWays 85 = .ok (.ior, 1) := by decide +kernel
theorem dX12_countWays_86 : decode cX12_countWays 86 = .ok (.laload, 1) := by decide +kernel
theorem dX12_countWays_87 : decode cX12_countWays 87 = .ok (.ladd, 1) := by decide +kernel
theorem dX12_countWays_88 : decode cX12_countWays 88 = .ok (.lastore, 1) := by decide +kernel
theorem dX12_countWays_89 : decode cX12_countWays 89 = .ok (.iinc 3 1, 3) := by decide +kernel
theorem dX12_countWays_92 : decode cX12_countWays 92 = .ok (.goto (-57), 3) := by decide +kernel
theorem dX12_countWays_95 : decode cX12_countWays 95 = .ok (.iinc 2 (-1), 3) := by decide +kernel
theorem dX12_countWays_98 : decode cX12_countWays 98 = .ok (.goto (-96), 3) := by decide +kernel
theorem dX12_countWays_101 : decode cX12_countWays 101 = .ok (.return_, 1) := by decide +kernel
theorem dX12_orders_0 : decode cX12_orders 0 = .ok (.aload_n 0, 1) := by decide +kernel
theorem dX12_orders_1 : decode cX12_orders 1 = .ok (.iconst 0, 1) := by decide +kernel
theorem dX12_orders_2 : decode cX12_orders 2 = .ok (.putfield 75, 3) := by decide +kernel
theorem dX12_orders_5 : decode cX12_orders 5 = .ok (.aload_n 0, 1) := by decide +kernel
theorem dX12_orders_6 : decode cX12_orders 6 = .ok (.aload_n 0, 1) := by decide +kernel
theorem dX12_orders_7 : decode cX12_orders 7 = .ok (.iload_n 1, 1) := by decide +kernel
theorem dX12_orders_8 : decode cX12_orders 8 = .ok (.invokevirtual 349, 3) := by decide +kernel
theorem dX12_orders_11 : decode cX12_orders 11 = .ok (.putfield 78, 3) := by decide +kernel
theorem dX12_orders_14 : decode cX12_orders 14 = .ok (.aload_n 0, 1) := by decide +kernel
theorem dX12_orders_15 : decode cX12_orders 15 = .ok (.getfield 78, 3) := by decide +kernel
theorem dX12_orders_18 : decode cX12_orders 18 = .ok (.ifCond .le 7, 3) := by decide +kernel
theorem dX12_orders_21 : decode cX12_orders 21 = .ok (.ldc2_w 106, 3) := by decide +kernel
theorem dX12_orders_24 : decode cX12_orders 24 = .ok (.lreturn, 1) := by decide +kernel
theorem dX12_orders_25 : decode cX12_orders 25 = .ok (.aload_n 0, 1) := by decide +kernel
theorem dX12_orders_26 : decode cX12_orders 26 = .ok (.iload_n 1, 1) := by decide +kernel
theorem dX12_orders_27 : decode cX12_orders 27 = .ok (.iconst (-1), 1) := by decide +kernel
theorem dX12_orders_28 : decode cX12_orders 28 = .ok (.iconst (-1), 1) := by decide +kernel
theorem dX12_orders_29 : decode cX12_orders 29 = .ok (.invokevirtual 377, 3) := by decide +kernel
theorem dX12_orders_32 : decode cX12_orders 32 = .ok (.aload_n 0, 1) := by decide +kernel
theorem dX12_orders_33 : decode cX12_orders 33 = .ok (.iload_n 1, 1) := by decide +kernel
theorem dX12_orders_34 : decode cX12_orders 34 = .ok (.invokevirtual 381, 3) := by decide +kernel
theorem dX12_orders_37 : decode cX12_orders 37 = .ok (.aload_n 0, 1) := by decide +kernel
theorem dX12_orders_38 : decode cX12_orders 38 = .ok (.getfield 48, 3) := by decide +kernel
theorem dX12_orders_41 : decode cX12_orders 41 = .ok (.iconst 0, 1) := by decide +kernel
theorem dX12_orders_42 : decode cX12_orders 42 = .ok (.laload, 1) := by decide +kernel
theorem dX12_orders_43 : decode cX12_orders 43 = .ok (.lreturn, 1) := by decide +kernel
theorem dX12_ahead_0 : decode cX12_ahead 0 = .ok (.aload_n 0, 1) := by decide +kernel
theorem dX12_ahead_1 : decode cX12_ahead 1 = .ok (.iconst 0, 1) := by decide +kernel
theorem dX12_ahead_2 : decode cX12_ahead 2 = .ok (.putfield 75, 3) := by decide +kernel
theorem dX12_ahead_5 : decode cX12_ahead 5 = .ok (.aload_n 0, 1) := by decide +kernel
theorem dX12_ahead_6 : decode cX12_ahead 6 = .ok (.iconst 0, 1) := by decide +kernel
theorem dX12_ahead_7 : decode cX12_ahead 7 = .ok (.putfield 78, 3) := by decide +kernel
theorem dX12_ahead_10 : decode cX12_ahead 10 = .ok (.aload_n 0, 1) := by decide +kernel
theorem dX12_ahead_11 : decode cX12_ahead 11 = .ok (.iload_n 1, 1) := by decide +kernel
theorem dX12_ahead_12 : decode cX12_ahead 12 = .ok (.invokevirtual 319, 3) := by decide +kernel
theorem dX12_ahead_15 : decode cX12_ahead 15 = .ok (.ifCond .eq 40, 3) := by decide +kernel
theorem dX12_ahead_18 : decode cX12_ahead 18 = .ok (.aload_n 0, 1) := by decide +kernel
theorem dX12_ahead_19 : decode cX12_ahead 19 = .ok (.iload_n 2, 1) := by decide +kernel
theorem dX12_ahead_20 : decode cX12_ahead 20 = .ok (.invokevirtual 311, 3) := by decide +kernel
theorem dX12_ahead_23 : decode cX12_ahead 23 = .ok (.ifCond .eq 32, 3) := by decide +kernel
theorem dX12_ahead_26 : decode cX12_ahead 26 = .ok (.aload_n 0, 1) := by decide +kernel
theorem dX12_ahead_27 : decode cX12_ahead 27 = .ok (.iload_n 3, 1) := by decide +kernel
theorem dX12_ahead_28 : decode cX12_ahead 28 = .ok (.invokevirtual 311, 3) := by decide +kernel
theorem dX12_ahead_31 : decode cX12_ahead 31 = .ok (.ifCond .eq 24, 3) := by decide +kernel
theorem dX12_ahead_34 : decode cX12_ahead 34 = .ok (.iload_n 2, 1) := by decide +kernel
theorem dX12_ahead_35 : decode cX12_ahead 35 = .ok (.iload_n 3, 1) := by decide +kernel
theorem dX12_ahead_36 : decode cX12_ahead 36 = .ok (.if_icmp .eq 19, 3) := by decide +kernel
theorem dX12_ahead_39 : decode cX12_ahead 39 = .ok (.iload_n 1, 1) := by decide +kernel
theorem dX12_ahead_40 : decode cX12_ahead 40 = .ok (.iload_n 2, 1) := by decide +kernel
theorem dX12_ahead_41 : decode cX12_ahead 41 = .ok (.invokestatic 302, 3) := by decide +kernel
theorem dX12_ahead_44 : decode cX12_ahead 44 = .ok (.ifCond .eq 11, 3) := by decide +kernel
theorem dX12_ahead_47 : decode cX12_ahead 47 = .ok (.iload_n 1, 1) := by decide +kernel
theorem dX12_ahead_48 : decode cX12_ahead 48 = .ok (.iload_n 3, 1) := by decide +kernel
theorem dX12_ahead_49 : decode cX12_ahead 49 = .ok (.invokestatic 302, 3) := by decide +kernel
theorem dX12_ahead_52 : decode cX12_ahead 52 = .ok (.ifCond .ne 9, 3) := by decide +kernel
theorem dX12_ahead_55 : decode cX12_ahead 55 = .ok (.aload_n 0, 1) := by decide +kernel
theorem dX12_ahead_56 : decode cX12_ahead 56 = .ok (.iconst 2, 1) := by decide +kernel
theorem dX12_ahead_57 : decode cX12_ahead 57 = .ok (.invokevirtual 90, 3) := by decide +kernel
theorem dX12_ahead_60 : decode cX12_ahead 60 = .ok (.ireturn, 1) := by decide +kernel
theorem dX12_ahead_61 : decode cX12_ahead 61 = .ok (.aload_n 0, 1) := by decide +kernel
theorem dX12_ahead_62 : decode cX12_ahead 62 = .ok (.iload_n 1, 1) := by decide +kernel
theorem dX12_ahead_63 : decode cX12_ahead 63 = .ok (.invokevirtual 322, 3) := by decide +kernel
theorem dX12_ahead_66 : decode cX12_ahead 66 = .ok (.ifCond .eq 10, 3) := by decide +kernel
theorem dX12_ahead_69 : decode cX12_ahead 69 = .ok (.aload_n 0, 1) := by decide +kernel
theorem dX12_ahead_70 : decode cX12_ahead 70 = .ok (.bipush 9, 2) := by decide +kernel
theorem dX12_ahead_72 : decode cX12_ahead 72 = .ok (.invokevirtual 90, 3) := by decide +kernel
theorem dX12_ahead_75 : decode cX12_ahead 75 = .ok (.ireturn, 1) := by decide +kernel
theorem dX12_ahead_76 : decode cX12_ahead 76 = .ok (.aload_n 0, 1) := by decide +kernel
theorem dX12_ahead_77 : decode cX12_ahead 77 = .ok (.iload_n 1, 1) := by decide +kernel
theorem dX12_ahead_78 : decode cX12_ahead 78 = .ok (.iconst (-1), 1) := by decide +kernel
theorem dX12_ahead_79 : decode cX12_ahead 79 = .ok (.iconst (-1), 1) := by decide +kernel
theorem dX12_ahead_80 : decode cX12_ahead 80 = .ok (.invokevirtual 377, 3) := by decide +kernel
theorem dX12_ahead_83 : decode cX12_ahead 83 = .ok (.aload_n 0, 1) := by decide +kernel
theorem dX12_ahead_84 : decode cX12_ahead 84 = .ok (.iload_n 1, 1) := by decide +kernel
theorem dX12_ahead_85 : decode cX12_ahead 85 = .ok (.invokevirtual 381, 3) := by decide +kernel
theorem dX12_ahead_88 : decode cX12_ahead 88 = .ok (.aload_n 0, 1) := by decide +kernel
theorem dX12_ahead_89 : decode cX12_ahead 89 = .ok (.getfield 48, 3) := by decide +kernel
theorem dX12_ahead_92 : decode cX12_ahead 92 = .ok (.iconst 0, 1) := by decide +kernel
theorem dX12_ahead_93 : decode cX12_ahead 93 = .ok (.laload, 1) := by decide +kernel
theorem dX12_ahead_94 : decode cX12_ahead 94 = .ok (.lstore 4, 2) := by decide +kernel
theorem dX12_ahead_96 : decode cX12_ahead 96 = .ok (.aload_n 0, 1) := by decide +kernel
theorem dX12_ahead_97 : decode cX12_ahead 97 = .ok (.iload_n 1, 1) := by decide +kernel
theorem dX12_ahead_98 : decode cX12_ahead 98 = .ok (.iload_n 2, 1) := by decide +kernel
theorem dX12_ahead_99 : decode cX12_ahead 99 = .ok (.iload_n 3, 1) := by decide +kernel
theorem dX12_ahead_100 : decode cX12_ahead 100 = .ok (.invokevirtual 377, 3) := by decide +kernel
theorem dX12_ahead_103 : decode cX12_ahead 103 = .ok (.aload_n 0, 1) := by decide +kernel
theorem dX12_ahead_104 : decode cX12_ahead 104 = .ok (.iload_n 1, 1) := by decide +kernel
theorem dX12_ahead_105 : decode cX12_ahead 105 = .ok (.invokevirtual 381, 3) := by decide +kernel
theorem dX12_ahead_108 : decode cX12_ahead 108 = .ok (.aload_n 0, 1) := by decide +kernel
theorem dX12_ahead_109 : decode cX12_ahead 109 = .ok (.aload_n 0, 1) := by decide +kernel
theorem dX12_ahead_110 : decode cX12_ahead 110 = .ok (.getfield 48, 3) := by decide +kernel
theorem dX12_ahead_113 : decode cX12_ahead 113 = .ok (.iconst 0, 1) := by decide +kernel
theorem dX12_ahead_114 : decode cX12_ahead 114 = .ok (.laload, 1) := by decide +kernel
theorem dX12_ahead_115 : decode cX12_ahead 115 = .ok (.lload 4, 2) := by decide +kernel
theorem dX12_ahead_117 : decode cX12_ahead 117 = .ok (.invokevirtual 384, 3) := by decide +kernel
theorem dX12_ahead_120 : decode cX12_ahead 120 = .ok (.ireturn, 1) := by decide +kernel
theorem dX12_ordered_0 : decode cX12_ordered 0 = .ok (.aload_n 0, 1) := by decide +kernel
theorem dX12_ordered_1 : decode cX12_ordered 1 = .ok (.iconst 0, 1) := by decide +kernel
theorem dX12_ordered_2 : decode cX12_ordered 2 = .ok (.putfield 75, 3) := by decide +kernel
theorem dX12_ordered_5 : decode cX12_ordered 5 = .ok (.aload_n 0, 1) := by decide +kernel
theorem dX12_ordered_6 : decode cX12_ordered 6 = .ok (.aload_n 0, 1) := by decide +kernel
theorem dX12_ordered_7 : decode cX12_ordered 7 = .ok (.iload_n 1, 1) := by decide +kernel
theorem dX12_ordered_8 : decode cX12_ordered 8 = .ok (.invokevirtual 349, 3) := by decide +kernel
theorem dX12_ordered_11 : decode cX12_ordered 11 = .ok (.putfield 78, 3) := by decide +kernel
theorem dX12_ordered_14 : decode cX12_ordered 14 = .ok (.aload_n 0, 1) := by decide +kernel
theorem dX12_ordered_15 : decode cX12_ordered 15 = .ok (.getfield 78, 3) := by decide +kernel
theorem dX12_ordered_18 : decode cX12_ordered 18 = .ok (.ifCond .le 5, 3) := by decide +kernel
theorem dX12_ordered_21 : decode cX12_ordered 21 = .ok (.iconst (-1), 1) := by decide +kernel
theorem dX12_ordered_22 : decode cX12_ordered 22 = .ok (.ireturn, 1) := by decide +kernel
theorem dX12_ordered_23 : decode cX12_ordered 23 = .ok (.aload_n 0, 1) := by decide +kernel
theorem dX12_ordered_24 : decode cX12_ordered 24 = .ok (.iload_n 1, 1) := by decide +kernel
theorem dX12_ordered_25 : decode cX12_ordered 25 = .ok (.iconst (-1), 1) := by decide +kernel
theorem dX12_ordered_26 : decode cX12_ordered 26 = .ok (.iconst (-1), 1) := by decide +kernel
theorem dX12_ordered_27 : decode cX12_ordered 27 = .ok (.invokevirtual 377, 3) := by decide +kernel
theorem dX12_ordered_30 : decode cX12_ordered 30 = .ok (.aload_n 0, 1) := by decide +kernel
theorem dX12_ordered_31 : decode cX12_ordered 31 = .ok (.iload_n 1, 1) := by decide +kernel
theorem dX12_ordered_32 : decode cX12_ordered 32 = .ok (.invokevirtual 381, 3) := by decide +kernel
theorem dX12_ordered_35 : decode cX12_ordered 35 = .ok (.lload_n 2, 1) := by decide +kernel
theorem dX12_ordered_36 : decode cX12_ordered 36 = .ok (.lconst 0, 1) := by decide +kernel
theorem dX12_ordered_37 : decode cX12_ordered 37 = .ok (.aload_n 0, 1) := by decide +kernel
theorem dX12_ordered_38 : decode cX12_ordered 38 = .ok (.getfield 48, 3) := by decide +kernel
theorem dX12_ordered_41 : decode cX12_ordered 41 = .ok (.iconst 0, 1) := by decide +kernel
theorem dX12_ordered_42 : decode cX12_ordered 42 = .ok (.laload, 1) := by decide +kernel
theorem dX12_ordered_43 : decode cX12_ordered 43 = .ok (.lconst 1, 1) := by decide +kernel
theorem dX12_ordered_44 : decode cX12_ordered 44 = .ok (.lsub, 1) := by decide +kernel
theorem dX12_ordered_45 : decode cX12_ordered 45 = .ok (.invokestatic 110, 3) := by decide +kernel
theorem dX12_ordered_48 : decode cX12_ordered 48 = .ok (.ifCond .ne 9, 3) := by decide +kernel
theorem dX12_ordered_51 : decode cX12_ordered 51 = .ok (.aload_n 0, 1) := by decide +kernel
theorem dX12_ordered_52 : decode cX12_ordered 52 = .ok (.iconst 5, 1) := by decide +kernel
theorem dX12_ordered_53 : decode cX12_ordered 53 = .ok (.invokevirtual 299, 3) := by decide +kernel
theorem dX12_ordered_56 : decode cX12_ordered 56 = .ok (.ireturn, 1) := by decide +kernel
theorem dX12_ordered_57 : decode cX12_ordered 57 = .ok (.lload_n 2, 1) := by decide +kernel
theorem dX12_ordered_58 : decode cX12_ordered 58 = .ok (.lstore 4, 2) := by decide +kernel
theorem dX12_ordered_60 : decode cX12_ordered 60 = .ok (.iconst 0, 1) := by decide +kernel
theorem dX12_ordered_61 : decode cX12_ordered 61 = .ok (.istore 6, 2) := by decide +kernel
theorem dX12_ordered_63 : decode cX12_ordered 63 = .ok (.iconst 0, 1) := by decide +kernel
theorem dX12_ordered_64 : decode cX12_ordered 64 = .ok (.istore 7, 2) := by decide +kernel
theorem dX12_ordered_66 : decode cX12_ordered 66 = .ok (.iload 6, 2) := by decide +kernel
theorem dX12_ordered_68 : decode cX12_ordered 68 = .ok (.iload_n 1, 1) := by decide +kernel
theorem dX12_ordered_69 : decode cX12_ordered 69 = .ok (.if_icmp .eq 138, 3) := by decide +kernel
theorem dX12_ordered_72 : decode cX12_ordered 72 = .ok (.iconst 0, 1) := by decide +kernel
theorem dX12_ordered_73 : decode cX12_ordered 73 = .ok (.istore 8, 2) := by decide +kernel
theorem dX12_ordered_75 : decode cX12_ordered 75 = .ok (.iconst 0, 1) := by decide +kernel
theorem dX12_ordered_76 : decode cX12_ordered 76 = .ok (.istore 9, 2) := by decide +kernel
theorem dX12_ordered_78 : decode cX12_ordered 78 = .ok (.iload 9, 2) := by decide +kernel
theorem dX12_ordered_80 : decode cX12_ordered 80 = .ok (.ifCond .ne 100, 3) := by decide +kernel
theorem dX12_ordered_83 : decode cX12_ordered 83 = .ok (.iload_n 1, 1) := by decide +kernel
theorem dX12_ordered_84 : decode cX12_ordered 84 = .ok (.iload 6, 2) := by decide +kernel
theorem dX12_ordered_86 : decode cX12_ordered 86 = .ok (.iconst (-1), 1) := by decide +kernel
theorem dX12_ordered_87 : decode cX12_ordered 87 = .ok (.ixor, 1) := by decide +kernel
theorem dX12_ordered_88 : decode cX12_ordered 88 = .ok (.iand, 1) := by decide +kernel
theorem dX12_ordered_89 : decode cX12_ordered 89 = .ok (.iload 8, 2) := by decide +kernel
theorem dX12_ordered_91 : decode cX12_ordered 91 = .ok (.invokestatic 302, 3) := by decide +kernel
theorem dX12_ordered_94 : decode cX12_ordered 94 = .ok (.ifCond .eq 22, 3) := by decide +kernel
theorem dX12_ordered_97 : decode cX12_ordered 97 = .ok (.aload_n 0, 1) := by decide +kernel
theorem dX12_ordered_98 : decode cX12_ordered 98 = .ok (.getfield 51, 3) := by decide +kernel
theorem dX12_ordered_101 : decode cX12_ordered 101 = .ok (.iload 8, 2) := by decide +kernel
theorem dX12_ordered_103 : decode cX12_ordered 103 = .ok (.iaload, 1) := by decide +kernel
theorem dX12_ordered_104 : decode cX12_ordered 104 = .ok (.iload 6, 2) := by decide +kernel
theorem dX12_ordered_106 : decode cX12_ordered 106 = .ok (.iconst (-1), 1) := by decide +kernel
theorem dX12_ordered_107 : decode cX12_ordered 107 = .ok (.ixor, 1) := by decide +kernel
theorem dX12_ordered_108 : decode cX12_ordered 108 = .ok (.iand, 1) := by decide +kernel
theorem dX12_ordered_109 : decode cX12_ordered 109 = .ok (.ifCond .ne 7, 3) := by decide +kernel
theorem dX12_ordered_112 : decode cX12_ordered 112 = .ok (.iconst 1, 1) := by decide +kernel
theorem dX12_ordered_113 : decode cX12_ordered 113 = .ok (.goto 4, 3) := by decide +kernel
theorem dX12_ordered_116 : decode cX12_ordered 116 = .ok (.iconst 0, 1) := by decide +kernel
theorem dX12_ordered_117 : decode cX12_ordered 117 = .ok (.istore 10, 2) := by decide +kernel
theorem dX12_ordered_119 : decode cX12_ordered 119 = .ok (.iload 10, 2) := by decide +kernel
theorem dX12_ordered_121 : decode cX12_ordered 121 = .ok (.ifCond .eq 27, 3) := by decide +kernel
theorem dX12_ordered_124 : decode cX12_ordered 124 = .ok (.lload 4, 2) := by decide +kernel
theorem dX12_ordered_126 : decode cX12_ordered 126 = .ok (.aload_n 0, 1) := by decide +kernel
theorem dX12_ordered_127 : decode cX12_ordered 127 = .ok (.getfield 48, 3) := by decide +kernel
theorem dX12_ordered_130 : decode cX12_ordered 130 = .ok (.iload 6, 2) := by decide +kernel
theorem dX12_ordered_132 : decode cX12_ordered 132 = .ok (.iconst 1, 1) := by decide +kernel
theorem dX12_ordered_133 : decode cX12_ordered 133 = .ok (.iload 8, 2) := by decide +kernel
theorem dX12_ordered_135 : decode cX12_ordered 135 = .ok (.ishl, 1) := by decide +kernel
theorem dX12_ordered_136 : decode cX12_ordered 136 = .ok (.ior, 1) := by decide +kernel
theorem dX12_ordered_137 : decode cX12_ordered 137 = .ok (.laload, 1) := by decide +kernel
theorem dX12_ordered_138 : decode cX12_ordered 138 = .ok (.lcmp, 1) := by decide +kernel
theorem dX12_ordered_139 : decode cX12_ordered 139 = .ok (.ifCond .ge 9, 3) := by decide +kernel
theorem dX12_ordered_142 : decode cX12_ordered 142 = .ok (.iconst 1, 1) := by decide +kernel
theorem dX12_ordered_143 : decode cX12_ordered 143 = .ok (.istore 9, 2) := by decide +kernel
theorem dX12_ordered_145 : decode cX12_ordered 145 = .ok (.goto 32, 3) := by decide +kernel
theorem dX12_ordered_148 : decode cX12_ordered 148 = .ok (.lload 4, 2) := by decide +kernel
theorem dX12_ordered_150 : decode cX12_ordered 150 = .ok (.iload 10, 2) := by decide +kernel
theorem dX12_ordered_152 : decode cX12_ordered 152 = .ok (.ifCond .eq 18, 3) := by decide +kernel
theorem dX12_ordered_155 : decode cX12_ordered 155 = .ok (.aload_n 0, 1) := by decide +kernel
theorem dX12_ordered_156 : decode cX12_ordered 156 = .ok (.getfield 48, 3) := by decide +kernel
theorem dX12_ordered_159 : decode cX12_ordered 159 = .ok (.iload 6, 2) := by decide +kernel
theorem dX12_ordered_161 : decode cX12_ordered 161 = .ok (.iconst 1, 1) := by decide +kernel
theorem dX12_ordered_162 : decode cX12_ordered 162 = .ok (.iload 8, 2) := by decide +kernel
theorem dX12_ordered_164 : decode cX12_ordered 164 = .ok (.ishl, 1) := by decide +kernel
theorem dX12_ordered_165 : decode cX12_ordered 165 = .ok (.ior, 1) := by decide +kernel
theorem dX12_ordered_166 : decode cX12_ordered 166 = .ok (.laload, 1) := by decide +kernel
theorem dX12_ordered_167 : decode cX12_ordered 167 = .ok (.goto 4, 3) := by decide +kernel
theorem dX12_ordered_170 : decode cX12_ordered 170 = .ok (.lconst 0, 1) := by decide +kernel
theorem dX12_ordered_171 : decode cX12_ordered 171 = .ok (.lsub, 1) := by decide +kernel
theorem dX12_ordered_172 : decode cX12_ordered 172 = .ok (.lstore 4, 2) := by decide +kernel
theorem dX12_ordered_174 : decode cX12_ordered 174 = .ok (.iinc 8 1, 3) := by decide +kernel
theorem dX12_ordered_177 : decode cX12_ordered 177 = .ok (.goto (-99), 3) := by decide +kernel
theorem dX12_ordered_180 : decode cX12_ordered 180 = .ok (.aload_n 0, 1) := by decide +kernel
theorem dX12_ordered_181 : decode cX12_ordered 181 = .ok (.getfield 35, 3) := by decide +kernel
theorem dX12_ordered_184 : decode cX12_ordered 184 = .ok (.bipush 119, 2) := by decide +kernel
theorem dX12_ordered_186 : decode cX12_ordered 186 = .ok (.iload 7, 2) := by decide +kernel
theorem dX12_ordered_188 : decode cX12_ordered 188 = .ok (.iadd, 1) := by decide +kernel
theorem dX12_ordered_189 : decode cX12_ordered 189 = .ok (.iload 8, 2) := by decide +kernel
theorem dX12_ordered_191 : decode cX12_ordered 191 = .ok (.iastore, 1) := by decide +kernel
theorem dX12_ordered_192 : decode cX12_ordered 192 = .ok (.iinc 7 1, 3) := by decide +kernel
theorem dX12_ordered_195 : decode cX12_ordered 195 = .ok (.iload 6, 2) := by decide +kernel
theorem dX12_ordered_197 : decode cX12_ordered 197 = .ok (.iconst 1, 1) := by decide +kernel
theorem dX12_ordered_198 : decode cX12_ordered 198 = .ok (.iload 8, 2) := by decide +kernel
theorem dX12_ordered_200 : decode cX12_ordered 200 = .ok (.ishl, 1) := by decide +kernel
theorem dX12_ordered_201 : decode cX12_ordered 201 = .ok (.ior, 1) := by decide +kernel
theorem dX12_ordered_202 : decode cX12_ordered 202 = .ok (.istore 6, 2) := by decide +kernel
theorem dX12_ordered_204 : decode cX12_ordered 204 = .ok (.goto (-138), 3) := by decide +kernel
theorem dX12_ordered_207 : decode cX12_ordered 207 = .ok (.aload_n 0, 1) := by decide +kernel
theorem dX12_ordered_208 : decode cX12_ordered 208 = .ok (.getfield 35, 3) := by decide +kernel
theorem dX12_ordered_211 : decode cX12_ordered 211 = .ok (.bipush 118, 2) := by decide +kernel
theorem dX12_ordered_213 : decode cX12_ordered 213 = .ok (.iload 7, 2) := by decide +kernel
theorem dX12_ordered_215 : decode cX12_ordered 215 = .ok (.iastore, 1) := by decide +kernel
theorem dX12_ordered_216 : decode cX12_ordered 216 = .ok (.iload 7, 2) := by decide +kernel
theorem dX12_ordered_218 : decode cX12_ordered 218 = .ok (.ireturn, 1) := by decide +kernel
theorem dX12_orderSet_0 : decode cX12_orderSet 0 = .ok (.iconst 0, 1) := by decide +kernel
theorem dX12_orderSet_1 : decode cX12_orderSet 1 = .ok (.istore_n 1, 1) := by decide +kernel
theorem dX12_orderSet_2 : decode cX12_orderSet 2 = .ok (.iconst 0, 1) := by decide +kernel
theorem dX12_orderSet_3 : decode cX12_orderSet 3 = .ok (.istore_n 2, 1) := by decide +kernel
theorem dX12_orderSet_4 : decode cX12_orderSet 4 = .ok (.iload_n 2, 1) := by decide +kernel
theorem dX12_orderSet_5 : decode cX12_orderSet 5 = .ok (.aload_n 0, 1) := by decide +kernel
theorem dX12_orderSet_6 : decode cX12_orderSet 6 = .ok (.getfield 35, 3) := by decide +kernel
theorem dX12_orderSet_9 : decode cX12_orderSet 9 = .ok (.bipush 118, 2) := by decide +kernel
theorem dX12_orderSet_11 : decode cX12_orderSet 11 = .ok (.iaload, 1) := by decide +kernel
theorem dX12_orderSet_12 : decode cX12_orderSet 12 = .ok (.if_icmp .ge 23, 3) := by decide +kernel
theorem dX12_orderSet_15 : decode cX12_orderSet 15 = .ok (.iload_n 1, 1) := by decide +kernel
theorem dX12_orderSet_16 : decode cX12_orderSet 16 = .ok (.iconst 1, 1) := by decide +kernel
theorem dX12_orderSet_17 : decode cX12_orderSet 17 = .ok (.aload_n 0, 1) := by decide +kernel
theorem dX12_orderSet_18 : decode cX12_orderSet 18 = .ok (.getfield 35, 3) := by decide +kernel
theorem dX12_orderSet_21 : decode cX12_orderSet 21 = .ok (.bipush 119, 2) := by decide +kernel
theorem dX12_orderSet_23 : decode cX12_orderSet 23 = .ok (.iload_n 2, 1) := by decide +kernel
theorem dX12_orderSet_24 : decode cX12_orderSet 24 = .ok (.iadd, 1) := by decide +kernel
theorem dX12_orderSet_25 : decode cX12_orderSet 25 = .ok (.iaload, 1) := by decide +kernel
theorem dX12_orderSet_26 : decode cX12_orderSet 26 = .ok (.ishl, 1) := by decide +kernel
theorem dX12_orderSet_27 : decode cX12_orderSet 27 = .ok (.ior, 1) := by decide +kernel
theorem dX12_orderSet_28 : decode cX12_orderSet 28 = .ok (.istore_n 1, 1) := by decide +kernel
theorem dX12_orderSet_29 : decode cX12_orderSet 29 = .ok (.iinc 2 1, 3) := by decide +kernel
theorem dX12_orderSet_32 : decode cX12_orderSet 32 = .ok (.goto (-28), 3) := by decide +kernel
theorem dX12_orderSet_35 : decode cX12_orderSet 35 = .ok (.iload_n 1, 1) := by decide +kernel
theorem dX12_orderSet_36 : decode cX12_orderSet 36 = .ok (.ireturn, 1) := by decide +kernel
theorem dX12_order_0 : decode cX12_order 0 = .ok (.aload_n 0, 1) := by decide +kernel
theorem dX12_order_1 : decode cX12_order 1 = .ok (.iconst 0, 1) := by decide +kernel
theorem dX12_order_2 : decode cX12_order 2 = .ok (.putfield 75, 3) := by decide +kernel
theorem dX12_order_5 : decode cX12_order 5 = .ok (.aload_n 0, 1) := by decide +kernel
theorem dX12_order_6 : decode cX12_order 6 = .ok (.iconst 0, 1) := by decide +kernel
theorem dX12_order_7 : decode cX12_order 7 = .ok (.putfield 78, 3) := by decide +kernel
theorem dX12_order_10 : decode cX12_order 10 = .ok (.aload_n 0, 1) := by decide +kernel
theorem dX12_order_11 : decode cX12_order 11 = .ok (.iload_n 1, 1) := by decide +kernel
theorem dX12_order_12 : decode cX12_order 12 = .ok (.invokevirtual 388, 3) := by decide +kernel
theorem dX12_order_15 : decode cX12_order 15 = .ok (.ifCond .ne 9, 3) := by decide +kernel
theorem dX12_order_18 : decode cX12_order 18 = .ok (.aload_n 0, 1) := by decide +kernel
theorem dX12_order_19 : decode cX12_order 19 = .ok (.iconst 1, 1) := by decide +kernel
theorem dX12_order_20 : decode cX12_order 20 = .ok (.invokevirtual 90, 3) := by decide +kernel
theorem dX12_order_23 : decode cX12_order 23 = .ok (.ireturn, 1) := by decide +kernel
theorem dX12_order_24 : decode cX12_order 24 = .ok (.aload_n 0, 1) := by decide +kernel
theorem dX12_order_25 : decode cX12_order 25 = .ok (.getfield 17, 3) := by decide +kernel
theorem dX12_order_28 : decode cX12_order 28 = .ok (.iload_n 1, 1) := by decide +kernel
theorem dX12_order_29 : decode cX12_order 29 = .ok (.iaload, 1) := by decide +kernel
theorem dX12_order_30 : decode cX12_order 30 = .ok (.ifCond .ge 9, 3) := by decide +kernel
theorem dX12_order_33 : decode cX12_order 33 = .ok (.aload_n 0, 1) := by decide +kernel
theorem dX12_order_34 : decode cX12_order 34 = .ok (.iconst 3, 1) := by decide +kernel
theorem dX12_order_35 : decode cX12_order 35 = .ok (.invokevirtual 90, 3) := by decide +kernel
theorem dX12_order_38 : decode cX12_order 38 = .ok (.ireturn, 1) := by decide +kernel
theorem dX12_order_39 : decode cX12_order 39 = .ok (.iload_n 2, 1) := by decide +kernel
theorem dX12_order_40 : decode cX12_order 40 = .ok (.i2l, 1) := by decide +kernel
theorem dX12_order_41 : decode cX12_order 41 = .ok (.lconst 0, 1) := by decide +kernel
theorem dX12_order_42 : decode cX12_order 42 = .ok (.ldc2_w 391, 3) := by decide +kernel
theorem dX12_order_45 : decode cX12_order 45 = .ok (.invokestatic 110, 3) := by decide +kernel
theorem dX12_order_48 : decode cX12_order 48 = .ok (.ifCond .ne 9, 3) := by decide +kernel
theorem dX12_order_51 : decode cX12_order 51 = .ok (.aload_n 0, 1) := by decide +kernel
theorem dX12_order_52 : decode cX12_order 52 = .ok (.iconst 5, 1) := by decide +kernel
theorem dX12_order_53 : decode cX12_order 53 = .ok (.invokevirtual 90, 3) := by decide +kernel
theorem dX12_order_56 : decode cX12_order 56 = .ok (.ireturn, 1) := by decide +kernel
theorem dX12_order_57 : decode cX12_order 57 = .ok (.aload_n 0, 1) := by decide +kernel
theorem dX12_order_58 : decode cX12_order 58 = .ok (.getfield 17, 3) := by decide +kernel
theorem dX12_order_61 : decode cX12_order 61 = .ok (.iload_n 1, 1) := by decide +kernel
theorem dX12_order_62 : decode cX12_order 62 = .ok (.iaload, 1) := by decide +kernel
theorem dX12_order_63 : decode cX12_order 63 = .ok (.iload_n 2, 1) := by decide +kernel
theorem dX12_order_64 : decode cX12_order 64 = .ok (.if_icmp .ge 9, 3) := by decide +kernel
theorem dX12_order_67 : decode cX12_order 67 = .ok (.aload_n 0, 1) := by decide +kernel
theorem dX12_order_68 : decode cX12_order 68 = .ok (.iconst 4, 1) := by decide +kernel
theorem dX12_order_69 : decode cX12_order 69 = .ok (.invokevirtual 90, 3) := by decide +kernel
theorem dX12_order_72 : decode cX12_order 72 = .ok (.ireturn, 1) := by decide +kernel
theorem dX12_order_73 : decode cX12_order 73 = .ok (.iconst 0, 1) := by decide +kernel
theorem dX12_order_74 : decode cX12_order 74 = .ok (.istore_n 3, 1) := by decide +kernel
theorem dX12_order_75 : decode cX12_order 75 = .ok (.iconst 0, 1) := by decide +kernel
theorem dX12_order_76 : decode cX12_order 76 = .ok (.istore 4, 2) := by decide +kernel
theorem dX12_order_78 : decode cX12_order 78 = .ok (.iload 4, 2) := by decide +kernel
theorem dX12_order_80 : decode cX12_order 80 = .ok (.iload_n 2, 1) := by decide +kernel
theorem dX12_order_81 : decode cX12_order 81 = .ok (.if_icmp .ge 66, 3) := by decide +kernel
theorem dX12_order_84 : decode cX12_order 84 = .ok (.aload_n 0, 1) := by decide +kernel
theorem dX12_order_85 : decode cX12_order 85 = .ok (.iload_n 1, 1) := by decide +kernel
theorem dX12_order_86 : decode cX12_order 86 = .ok (.iload 4, 2) := by decide +kernel
theorem dX12_order_88 : decode cX12_order 88 = .ok (.invokevirtual 393, 3) := by decide +kernel
theorem dX12_order_91 : decode cX12_order 91 = .ok (.lconst 0, 1) := by decide +kernel
theorem dX12_order_92 : decode cX12_order 92 = .ok (.aload_n 0, 1) := by decide +kernel
theorem dX12_order_93 : decode cX12_order 93 = .ok (.getfield 35, 3) := by decide +kernel
theorem dX12_order_96 : decode cX12_order 96 = .ok (.iconst 0, 1) := by decide +kernel
theorem dX12_order_97 : decode cX12_order 97 = .ok (.iaload, 1) := by decide +kernel
theorem dX12_order_98 : decode cX12_order 98 = .ok (.iconst 1, 1) := by decide +kernel
theorem dX12_order_99 : decode cX12_order 99 = .ok (.isub, 1) := by decide +kernel
theorem dX12_order_100 : decode cX12_order 100 = .ok (.i2l, 1) := by decide +kernel
theorem dX12_order_101 : decode cX12_order 101 = .ok (.invokestatic 110, 3) := by decide +kernel
theorem dX12_order_104 : decode cX12_order 104 = .ok (.ifCond .eq 18, 3) := by decide +kernel
theorem dX12_order_107 : decode cX12_order 107 = .ok (.iload_n 3, 1) := by decide +kernel
theorem dX12_order_108 : decode cX12_order 108 = .ok (.aload_n 0, 1) := by decide +kernel
theorem dX12_order_109 : decode cX12_order 109 = .ok (.iload_n 1, 1) := by decide +kernel
theorem dX12_order_110 : decode cX12_order 110 = .ok (.iload 4, 2) := by decide +kernel
theorem dX12_order_112 : decode cX12_order 112 = .ok (.invokevirtual 393, 3) := by decide +kernel
theorem dX12_order_115 : decode cX12_order 115 = .ok (.l2i, 1) := by decide +kernel
theorem dX12_order_116 : decode cX12_order 116 = .ok (.invokestatic 302, 3) := by decide +kernel
theorem dX12_order_119 : decode cX12_order 119 = .ok (.ifCond .eq 9, 3) := by decide +kernel
theorem dX12_order_122 : decode cX12_order 122 = .ok (.aload_n 0, 1) := by decide +kernel
theorem dX12_order_123 : decode cX12_order 123 = .ok (.iconst 5, 1) := by decide +kernel
theorem dX12_order_124 : decode cX12_order 124 = .ok (.invokevirtual 90, 3) := by decide +kernel
theorem dX12_order_127 : decode cX12_order 127 = .ok (.ireturn, 1) := by decide +kernel
theorem dX12_order_128 : decode cX12_order 128 = .ok (.iload_n 3, 1) := by decide +kernel
theorem dX12_order_129 : decode cX12_order 129 = .ok (.iconst 1, 1) := by decide +kernel
theorem dX12_order_130 : decode cX12_order 130 = .ok (.aload_n 0, 1) := by decide +kernel
theorem dX12_order_131 : decode cX12_order 131 = .ok (.iload_n 1, 1) := by decide +kernel
theorem dX12_order_132 : decode cX12_order 132 = .ok (.iload 4, 2) := by decide +kernel
theorem dX12_order_134 : decode cX12_order 134 = .ok (.invokevirtual 393, 3) := by decide +kernel
theorem dX12_order_137 : decode cX12_order 137 = .ok (.l2i, 1) := by decide +kernel
theorem dX12_order_138 : decode cX12_order 138 = .ok (.ishl, 1) := by decide +kernel
theorem dX12_order_139 : decode cX12_order 139 = .ok (.ior, 1) := by decide +kernel
theorem dX12_order_140 : decode cX12_order 140 = .ok (.istore_n 3, 1) := by decide +kernel
theorem dX12_order_141 : decode cX12_order 141 = .ok (.iinc 4 1, 3) := by decide +kernel
theorem dX12_order_144 : decode cX12_order 144 = .ok (.goto (-66), 3) := by decide +kernel
