theorem dX12_stepWord_203 : decode cX12_stepWord 203 = .ok (.ireturn, 1) := by decide +kernel
theorem dX12_isAt_0 : decode cX12_isAt 0 = .ok (.aload_n 0, 1) := by decide +kernel
theorem dX12_isAt_1 : decode cX12_isAt 1 = .ok (.bipush 97, 2) := by decide +kernel
theorem dX12_isAt_3 : decode cX12_isAt 3 = .ok (.bipush 116, 2) := by decide +kernel
theorem dX12_isAt_5 : decode cX12_isAt 5 = .ok (.iconst 0, 1) := by decide +kernel
theorem dX12_isAt_6 : decode cX12_isAt 6 = .ok (.iconst 0, 1) := by decide +kernel
theorem dX12_isAt_7 : decode cX12_isAt 7 = .ok (.iconst 0, 1) := by decide +kernel
theorem dX12_isAt_8 : decode cX12_isAt 8 = .ok (.iconst 0, 1) := by decide +kernel
theorem dX12_isAt_9 : decode cX12_isAt 9 = .ok (.invokestatic 148, 3) := by decide +kernel
theorem dX12_isAt_12 : decode cX12_isAt 12 = .ok (.invokevirtual 152, 3) := by decide +kernel
theorem dX12_isAt_15 : decode cX12_isAt 15 = .ok (.ireturn, 1) := by decide +kernel
theorem dX12_isTo_0 : decode cX12_isTo 0 = .ok (.aload_n 0, 1) := by decide +kernel
theorem dX12_isTo_1 : decode cX12_isTo 1 = .ok (.bipush 116, 2) := by decide +kernel
theorem dX12_isTo_3 : decode cX12_isTo 3 = .ok (.bipush 111, 2) := by decide +kernel
theorem dX12_isTo_5 : decode cX12_isTo 5 = .ok (.iconst 0, 1) := by decide +kernel
theorem dX12_isTo_6 : decode cX12_isTo 6 = .ok (.iconst 0, 1) := by decide +kernel
theorem dX12_isTo_7 : decode cX12_isTo 7 = .ok (.iconst 0, 1) := by decide +kernel
theorem dX12_isTo_8 : decode cX12_isTo 8 = .ok (.iconst 0, 1) := by decide +kernel
theorem dX12_isTo_9 : decode cX12_isTo 9 = .ok (.invokestatic 148, 3) := by decide +kernel
theorem dX12_isTo_12 : decode cX12_isTo 12 = .ok (.invokevirtual 152, 3) := by decide +kernel
theorem dX12_isTo_15 : decode cX12_isTo 15 = .ok (.ireturn, 1) := by decide +kernel
theorem dX12_isLate_0 : decode cX12_isLate 0 = .ok (.aload_n 0, 1) := by decide +kernel
theorem dX12_isLate_1 : decode cX12_isLate 1 = .ok (.bipush 108, 2) := by decide +kernel
theorem dX12_isLate_3 : decode cX12_isLate 3 = .ok (.bipush 97, 2) := by decide +kernel
theorem dX12_isLate_5 : decode cX12_isLate 5 = .ok (.bipush 116, 2) := by decide +kernel
theorem dX12_isLate_7 : decode cX12_isLate 7 = .ok (.bipush 101, 2) := by decide +kernel
theorem dX12_isLate_9 : decode cX12_isLate 9 = .ok (.iconst 0, 1) := by decide +kernel
theorem dX12_isLate_10 : decode cX12_isLate 10 = .ok (.iconst 0, 1) := by decide +kernel
theorem dX12_isLate_11 : decode cX12_isLate 11 = .ok (.invokestatic 148, 3) := by decide +kernel
theorem dX12_isLate_14 : decode cX12_isLate 14 = .ok (.invokevirtual 152, 3) := by decide +kernel
theorem dX12_isLate_17 : decode cX12_isLate 17 = .ok (.ireturn, 1) := by decide +kernel
theorem dX12_isTwice_0 : decode cX12_isTwice 0 = .ok (.aload_n 0, 1) := by decide +kernel
theorem dX12_isTwice_1 : decode cX12_isTwice 1 = .ok (.bipush 116, 2) := by decide +kernel
theorem dX12_isTwice_3 : decode cX12_isTwice 3 = .ok (.bipush 119, 2) := by decide +kernel
theorem dX12_isTwice_5 : decode cX12_isTwice 5 = .ok (.bipush 105, 2) := by decide +kernel
theorem dX12_isTwice_7 : decode cX12_isTwice 7 = .ok (.bipush 99, 2) := by decide +kernel
theorem dX12_isTwice_9 : decode cX12_isTwice 9 = .ok (.bipush 101, 2) := by decide +kernel
theorem dX12_isTwice_11 : decode cX12_isTwice 11 = .ok (.iconst 0, 1) := by decide +kernel
theorem dX12_isTwice_12 : decode cX12_isTwice 12 = .ok (.invokestatic 148, 3) := by decide +kernel
theorem dX12_isTwice_15 : decode cX12_isTwice 15 = .ok (.invokevirtual 152, 3) := by decide +kernel
theorem dX12_isTwice_18 : decode cX12_isTwice 18 = .ok (.ireturn, 1) := by decide +kernel
theorem dX12_isHas_0 : decode cX12_isHas 0 = .ok (.aload_n 0, 1) := by decide +kernel
theorem dX12_isHas_1 : decode cX12_isHas 1 = .ok (.bipush 104, 2) := by decide +kernel
theorem dX12_isHas_3 : decode cX12_isHas 3 = .ok (.bipush 97, 2) := by decide +kernel
theorem dX12_isHas_5 : decode cX12_isHas 5 = .ok (.bipush 115, 2) := by decide +kernel
theorem dX12_isHas_7 : decode cX12_isHas 7 = .ok (.iconst 0, 1) := by decide +kernel
theorem dX12_isHas_8 : decode cX12_isHas 8 = .ok (.iconst 0, 1) := by decide +kernel
theorem dX12_isHas_9 : decode cX12_isHas 9 = .ok (.iconst 0, 1) := by decide +kernel
theorem dX12_isHas_10 : decode cX12_isHas 10 = .ok (.invokestatic 148, 3) := by decide +kernel
theorem dX12_isHas_13 : decode cX12_isHas 13 = .ok (.invokevirtual 152, 3) := by decide +kernel
theorem dX12_isHas_16 : decode cX12_isHas 16 = .ok (.ireturn, 1) := by decide +kernel
theorem dX12_isQuietWord_0 : decode cX12_isQuietWord 0 = .ok (.aload_n 0, 1) := by decide +kernel
theorem dX12_isQuietWord_1 : decode cX12_isQuietWord 1 = .ok (.bipush 113, 2) := by decide +kernel
theorem dX12_isQuietWord_3 : decode cX12_isQuietWord 3 = .ok (.bipush 117, 2) := by decide +kernel
theorem dX12_isQuietWord_5 : decode cX12_isQuietWord 5 = .ok (.bipush 105, 2) := by decide +kernel
theorem dX12_isQuietWord_7 : decode cX12_isQuietWord 7 = .ok (.bipush 101, 2) := by decide +kernel
theorem dX12_isQuietWord_9 : decode cX12_isQuietWord 9 = .ok (.bipush 116, 2) := by decide +kernel
theorem dX12_isQuietWord_11 : decode cX12_isQuietWord 11 = .ok (.iconst 0, 1) := by decide +kernel
theorem dX12_isQuietWord_12 : decode cX12_isQuietWord 12 = .ok (.invokestatic 148, 3) := by decide +kernel
theorem dX12_isQuietWord_15 : decode cX12_isQuietWord 15 = .ok (.invokevirtual 152, 3) := by decide +kernel
theorem dX12_isQuietWord_18 : decode cX12_isQuietWord 18 = .ok (.ireturn, 1) := by decide +kernel
theorem dX12_isDayWord_0 : decode cX12_isDayWord 0 = .ok (.aload_n 0, 1) := by decide +kernel
theorem dX12_isDayWord_1 : decode cX12_isDayWord 1 = .ok (.bipush 100, 2) := by decide +kernel
theorem dX12_isDayWord_3 : decode cX12_isDayWord 3 = .ok (.bipush 97, 2) := by decide +kernel
theorem dX12_isDayWord_5 : decode cX12_isDayWord 5 = .ok (.bipush 121, 2) := by decide +kernel
theorem dX12_isDayWord_7 : decode cX12_isDayWord 7 = .ok (.iconst 0, 1) := by decide +kernel
theorem dX12_isDayWord_8 : decode cX12_isDayWord 8 = .ok (.iconst 0, 1) := by decide +kernel
theorem dX12_isDayWord_9 : decode cX12_isDayWord 9 = .ok (.iconst 0, 1) := by decide +kernel
theorem dX12_isDayWord_10 : decode cX12_isDayWord 10 = .ok (.invokestatic 148, 3) := by decide +kernel
theorem dX12_isDayWord_13 : decode cX12_isDayWord 13 = .ok (.invokevirtual 152, 3) := by decide +kernel
theorem dX12_isDayWord_16 : decode cX12_isDayWord 16 = .ok (.ireturn, 1) := by decide +kernel
theorem dX12_isEnd_0 : decode cX12_isEnd 0 = .ok (.aload_n 0, 1) := by decide +kernel
theorem dX12_isEnd_1 : decode cX12_isEnd 1 = .ok (.bipush 101, 2) := by decide +kernel
theorem dX12_isEnd_3 : decode cX12_isEnd 3 = .ok (.bipush 110, 2) := by decide +kernel
theorem dX12_isEnd_5 : decode cX12_isEnd 5 = .ok (.bipush 100, 2) := by decide +kernel
theorem dX12_isEnd_7 : decode cX12_isEnd 7 = .ok (.iconst 0, 1) := by decide +kernel
theorem dX12_isEnd_8 : decode cX12_isEnd 8 = .ok (.iconst 0, 1) := by decide +kernel
theorem dX12_isEnd_9 : decode cX12_isEnd 9 = .ok (.iconst 0, 1) := by decide +kernel
theorem dX12_isEnd_10 : decode cX12_isEnd 10 = .ok (.invokestatic 148, 3) := by decide +kernel
theorem dX12_isEnd_13 : decode cX12_isEnd 13 = .ok (.invokevirtual 152, 3) := by decide +kernel
theorem dX12_isEnd_16 : decode cX12_isEnd 16 = .ok (.ireturn, 1) := by decide +kernel
theorem dX12_isKept_0 : decode cX12_isKept 0 = .ok (.aload_n 0, 1) := by decide +kernel
theorem dX12_isKept_1 : decode cX12_isKept 1 = .ok (.invokevirtual 156, 3) := by decide +kernel
theorem dX12_isKept_4 : decode cX12_isKept 4 = .ok (.ifCond .ne 52, 3) := by decide +kernel
theorem dX12_isKept_7 : decode cX12_isKept 7 = .ok (.aload_n 0, 1) := by decide +kernel
theorem dX12_isKept_8 : decode cX12_isKept 8 = .ok (.invokevirtual 160, 3) := by decide +kernel
theorem dX12_isKept_11 : decode cX12_isKept 11 = .ok (.ifCond .ge 45, 3) := by decide +kernel
theorem dX12_isKept_14 : decode cX12_isKept 14 = .ok (.aload_n 0, 1) := by decide +kernel
theorem dX12_isKept_15 : decode cX12_isKept 15 = .ok (.invokevirtual 164, 3) := by decide +kernel
theorem dX12_isKept_18 : decode cX12_isKept 18 = .ok (.ifCond .ne 38, 3) := by decide +kernel
theorem dX12_isKept_21 : decode cX12_isKept 21 = .ok (.aload_n 0, 1) := by decide +kernel
theorem dX12_isKept_22 : decode cX12_isKept 22 = .ok (.invokevirtual 167, 3) := by decide +kernel
theorem dX12_isKept_25 : decode cX12_isKept 25 = .ok (.ifCond .ne 31, 3) := by decide +kernel
theorem dX12_isKept_28 : decode cX12_isKept 28 = .ok (.aload_n 0, 1) := by decide +kernel
theorem dX12_isKept_29 : decode cX12_isKept 29 = .ok (.invokevirtual 170, 3) := by decide +kernel
theorem dX12_isKept_32 : decode cX12_isKept 32 = .ok (.ifCond .ne 24, 3) := by decide +kernel
theorem dX12_isKept_35 : decode cX12_isKept 35 = .ok (.aload_n 0, 1) := by decide +kernel
theorem dX12_isKept_36 : decode cX12_isKept 36 = .ok (.invokevirtual 173, 3) := by decide +kernel
theorem dX12_isKept_39 : decode cX12_isKept 39 = .ok (.ifCond .ne 17, 3) := by decide +kernel
theorem dX12_isKept_42 : decode cX12_isKept 42 = .ok (.aload_n 0, 1) := by decide +kernel
theorem dX12_isKept_43 : decode cX12_isKept 43 = .ok (.invokevirtual 176, 3) := by decide +kernel
theorem dX12_isKept_46 : decode cX12_isKept 46 = .ok (.ifCond .ne 10, 3) := by decide +kernel
theorem dX12_isKept_49 : decode cX12_isKept 49 = .ok (.aload_n 0, 1) := by decide +kernel
theorem dX12_isKept_50 : decode cX12_isKept 50 = .ok (.invokevirtual 179, 3) := by decide +kernel
theorem dX12_isKept_53 : decode cX12_isKept 53 = .ok (.ifCond .lt 5, 3) := by decide +kernel
theorem dX12_isKept_56 : decode cX12_isKept 56 = .ok (.iconst 1, 1) := by decide +kernel
theorem dX12_isKept_57 : decode cX12_isKept 57 = .ok (.ireturn, 1) := by decide +kernel
theorem dX12_isKept_58 : decode cX12_isKept 58 = .ok (.aload_n 0, 1) := by decide +kernel
theorem dX12_isKept_59 : decode cX12_isKept 59 = .ok (.invokevirtual 182, 3) := by decide +kernel
theorem dX12_isKept_62 : decode cX12_isKept 62 = .ok (.ifCond .ne 52, 3) := by decide +kernel
theorem dX12_isKept_65 : decode cX12_isKept 65 = .ok (.aload_n 0, 1) := by decide +kernel
theorem dX12_isKept_66 : decode cX12_isKept 66 = .ok (.invokevirtual 185, 3) := by decide +kernel
theorem dX12_isKept_69 : decode cX12_isKept 69 = .ok (.ifCond .ne 45, 3) := by decide +kernel
theorem dX12_isKept_72 : decode cX12_isKept 72 = .ok (.aload_n 0, 1) := by decide +kernel
theorem dX12_isKept_73 : decode cX12_isKept 73 = .ok (.invokevirtual 188, 3) := by decide +kernel
theorem dX12_isKept_76 : decode cX12_isKept 76 = .ok (.ifCond .ne 38, 3) := by decide +kernel
theorem dX12_isKept_79 : decode cX12_isKept 79 = .ok (.aload_n 0, 1) := by decide +kernel
theorem dX12_isKept_80 : decode cX12_isKept 80 = .ok (.invokevirtual 191, 3) := by decide +kernel
theorem dX12_isKept_83 : decode cX12_isKept 83 = .ok (.ifCond .ne 31, 3) := by decide +kernel
theorem dX12_isKept_86 : decode cX12_isKept 86 = .ok (.aload_n 0, 1) := by decide +kernel
theorem dX12_isKept_87 : decode cX12_isKept 87 = .ok (.invokevirtual 194, 3) := by decide +kernel
theorem dX12_isKept_90 : decode cX12_isKept 90 = .ok (.ifCond .ne 24, 3) := by decide +kernel
theorem dX12_isKept_93 : decode cX12_isKept 93 = .ok (.aload_n 0, 1) := by decide +kernel
theorem dX12_isKept_94 : decode cX12_isKept 94 = .ok (.invokevirtual 197, 3) := by decide +kernel
theorem dX12_isKept_97 : decode cX12_isKept 97 = .ok (.ifCond .ne 17, 3) := by decide +kernel
theorem dX12_isKept_100 : decode cX12_isKept 100 = .ok (.aload_n 0, 1) := by decide +kernel
theorem dX12_isKept_101 : decode cX12_isKept 101 = .ok (.invokevirtual 200, 3) := by decide +kernel
theorem dX12_isKept_104 : decode cX12_isKept 104 = .ok (.ifCond .ne 10, 3) := by decide +kernel
theorem dX12_isKept_107 : decode cX12_isKept 107 = .ok (.aload_n 0, 1) := by decide +kernel
theorem dX12_isKept_108 : decode cX12_isKept 108 = .ok (.invokevirtual 203, 3) := by decide +kernel
theorem dX12_isKept_111 : decode cX12_isKept 111 = .ok (.ifCond .eq 7, 3) := by decide +kernel
theorem dX12_isKept_114 : decode cX12_isKept 114 = .ok (.iconst 1, 1) := by decide +kernel
theorem dX12_isKept_115 : decode cX12_isKept 115 = .ok (.goto 4, 3) := by decide +kernel
theorem dX12_isKept_118 : decode cX12_isKept 118 = .ok (.iconst 0, 1) := by decide +kernel
theorem dX12_isKept_119 : decode cX12_isKept 119 = .ok (.ireturn, 1) := by decide +kernel
theorem dX12_isName_0 : decode cX12_isName 0 = .ok (.aload_n 0, 1) := by decide +kernel
theorem dX12_isName_1 : decode cX12_isName 1 = .ok (.getfield 126, 3) := by decide +kernel
theorem dX12_isName_4 : decode cX12_isName 4 = .ok (.iconst 1, 1) := by decide +kernel
theorem dX12_isName_5 : decode cX12_isName 5 = .ok (.if_icmp .ne 23, 3) := by decide +kernel
theorem dX12_isName_8 : decode cX12_isName 8 = .ok (.aload_n 0, 1) := by decide +kernel
theorem dX12_isName_9 : decode cX12_isName 9 = .ok (.getfield 139, 3) := by decide +kernel
theorem dX12_isName_12 : decode cX12_isName 12 = .ok (.bipush 8, 2) := by decide +kernel
theorem dX12_isName_14 : decode cX12_isName 14 = .ok (.if_icmp .gt 14, 3) := by decide +kernel
theorem dX12_isName_17 : decode cX12_isName 17 = .ok (.aload_n 0, 1) := by decide +kernel
theorem dX12_isName_18 : decode cX12_isName 18 = .ok (.invokevirtual 206, 3) := by decide +kernel
theorem dX12_isName_21 : decode cX12_isName 21 = .ok (.ifCond .ne 7, 3) := by decide +kernel
theorem dX12_isName_24 : decode cX12_isName 24 = .ok (.iconst 1, 1) := by decide +kernel
theorem dX12_isName_25 : decode cX12_isName 25 = .ok (.goto 4, 3) := by decide +kernel
theorem dX12_isName_28 : decode cX12_isName 28 = .ok (.iconst 0, 1) := by decide +kernel
theorem dX12_isName_29 : decode cX12_isName 29 = .ok (.ireturn, 1) := by decide +kernel
theorem dX12_fail_0 : decode cX12_fail 0 = .ok (.aload_n 0, 1) := by decide +kernel
theorem dX12_fail_1 : decode cX12_fail 1 = .ok (.getfield 209, 3) := by decide +kernel
theorem dX12_fail_4 : decode cX12_fail 4 = .ok (.ifCond .le 4, 3) := by decide +kernel
theorem dX12_fail_7 : decode cX12_fail 7 = .ok (.return_, 1) := by decide +kernel
theorem dX12_fail_8 : decode cX12_fail 8 = .ok (.aload_n 0, 1) := by decide +kernel
theorem dX12_fail_9 : decode cX12_fail 9 = .ok (.iload_n 1, 1) := by decide +kernel
theorem dX12_fail_10 : decode cX12_fail 10 = .ok (.putfield 209, 3) := by decide +kernel
theorem dX12_fail_13 : decode cX12_fail 13 = .ok (.aload_n 0, 1) := by decide +kernel
theorem dX12_fail_14 : decode cX12_fail 14 = .ok (.iload_n 2, 1) := by decide +kernel
theorem dX12_fail_15 : decode cX12_fail 15 = .ok (.putfield 212, 3) := by decide +kernel
theorem dX12_fail_18 : decode cX12_fail 18 = .ok (.return_, 1) := by decide +kernel
theorem dX12_wrong_0 : decode cX12_wrong 0 = .ok (.aload_n 0, 1) := by decide +kernel
theorem dX12_wrong_1 : decode cX12_wrong 1 = .ok (.aload_n 0, 1) := by decide +kernel
theorem dX12_wrong_2 : decode cX12_wrong 2 = .ok (.getfield 126, 3) := by decide +kernel
theorem dX12_wrong_5 : decode cX12_wrong 5 = .ok (.iconst 4, 1) := by decide +kernel
theorem dX12_wrong_6 : decode cX12_wrong 6 = .ok (.if_icmp .ne 7, 3) := by decide +kernel
theorem dX12_wrong_9 : decode cX12_wrong 9 = .ok (.iconst 1, 1) := by decide +kernel
theorem dX12_wrong_10 : decode cX12_wrong 10 = .ok (.goto 4, 3) := by decide +kernel
theorem dX12_wrong_13 : decode cX12_wrong 13 = .ok (.iconst 2, 1) := by decide +kernel
theorem dX12_wrong_14 : decode cX12_wrong 14 = .ok (.aload_n 0, 1) := by decide +kernel
theorem dX12_wrong_15 : decode cX12_wrong 15 = .ok (.getfield 120, 3) := by decide +kernel
theorem dX12_wrong_18 : decode cX12_wrong 18 = .ok (.invokevirtual 215, 3) := by decide +kernel
theorem dX12_wrong_21 : decode cX12_wrong 21 = .ok (.return_, 1) := by decide +kernel
theorem dX12_must_0 : decode cX12_must 0 = .ok (.aload_n 0, 1) := by decide +kernel
theorem dX12_must_1 : decode cX12_must 1 = .ok (.getfield 209, 3) := by decide +kernel
theorem dX12_must_4 : decode cX12_must 4 = .ok (.ifCond .le 4, 3) := by decide +kernel
theorem dX12_must_7 : decode cX12_must 7 = .ok (.return_, 1) := by decide +kernel
theorem dX12_must_8 : decode cX12_must 8 = .ok (.iload_n 1, 1) := by decide +kernel
theorem dX12_must_9 : decode cX12_must 9 = .ok (.ifCond .eq 10, 3) := by decide +kernel
theorem dX12_must_12 : decode cX12_must 12 = .ok (.aload_n 0, 1) := by decide +kernel
theorem dX12_must_13 : decode cX12_must 13 = .ok (.invokevirtual 219, 3) := by decide +kernel
theorem dX12_must_16 : decode cX12_must 16 = .ok (.goto 7, 3) := by decide +kernel
theorem dX12_must_19 : decode cX12_must 19 = .ok (.aload_n 0, 1) := by decide +kernel
theorem dX12_must_20 : decode cX12_must 20 = .ok (.invokevirtual 222, 3) := by decide +kernel
theorem dX12_must_23 : decode cX12_must 23 = .ok (.return_, 1) := by decide +kernel
theorem dX12_count_0 : decode cX12_count 0 = .ok (.aload_n 0, 1) := by decide +kernel
theorem dX12_count_1 : decode cX12_count 1 = .ok (.getfield 209, 3) := by decide +kernel
theorem dX12_count_4 : decode cX12_count 4 = .ok (.ifCond .ne 15, 3) := by decide +kernel
theorem dX12_count_7 : decode cX12_count 7 = .ok (.aload_n 0, 1) := by decide +kernel
theorem dX12_count_8 : decode cX12_count 8 = .ok (.getfield 126, 3) := by decide +kernel
theorem dX12_count_11 : decode cX12_count 11 = .ok (.iconst 2, 1) := by decide +kernel
theorem dX12_count_12 : decode cX12_count 12 = .ok (.if_icmp .eq 7, 3) := by decide +kernel
theorem dX12_count_15 : decode cX12_count 15 = .ok (.aload_n 0, 1) := by decide +kernel
theorem dX12_count_16 : decode cX12_count 16 = .ok (.invokevirtual 222, 3) := by decide +kernel
theorem dX12_count_19 : decode cX12_count 19 = .ok (.aload_n 0, 1) := by decide +kernel
theorem dX12_count_20 : decode cX12_count 20 = .ok (.getfield 209, 3) := by decide +kernel
theorem dX12_count_23 : decode cX12_count 23 = .ok (.ifCond .ne 27, 3) := by decide +kernel
theorem dX12_count_26 : decode cX12_count 26 = .ok (.aload_n 0, 1) := by decide +kernel
theorem dX12_count_27 : decode cX12_count 27 = .ok (.getfield 145, 3) := by decide +kernel
theorem dX12_count_30 : decode cX12_count 30 = .ok (.i2l, 1) := by decide +kernel
theorem dX12_count_31 : decode cX12_count 31 = .ok (.iload_n 1, 1) := by decide +kernel
theorem dX12_count_32 : decode cX12_count 32 = .ok (.i2l, 1) := by decide +kernel
theorem dX12_count_33 : decode cX12_count 33 = .ok (.iload_n 2, 1) := by decide +kernel
theorem dX12_count_34 : decode cX12_count 34 = .ok (.i2l, 1) := by decide +kernel
theorem dX12_count_35 : decode cX12_count 35 = .ok (.invokestatic 110, 3) := by decide +kernel
theorem dX12_count_38 : decode cX12_count 38 = .ok (.ifCond .ne 12, 3) := by decide +kernel
theorem dX12_count_41 : decode cX12_count 41 = .ok (.aload_n 0, 1) := by decide +kernel
theorem dX12_count_42 : decode cX12_count 42 = .ok (.iconst 4, 1) := by decide +kernel
theorem dX12_count_43 : decode cX12_count 43 = .ok (.aload_n 0, 1) := by decide +kernel
theorem dX12_count_44 : decode cX12_count 44 = .ok (.getfield 120, 3) := by decide +kernel
theorem dX12_count_47 : decode cX12_count 47 = .ok (.invokevirtual 215, 3) := by decide +kernel
theorem dX12_count_50 : decode cX12_count 50 = .ok (.aload_n 0, 1) := by decide +kernel
theorem dX12_count_51 : decode cX12_count 51 = .ok (.getfield 209, 3) := by decide +kernel
theorem dX12_count_54 : decode cX12_count 54 = .ok (.ifCond .le 5, 3) := by decide +kernel
theorem dX12_count_57 : decode cX12_count 57 = .ok (.iconst 0, 1) := by decide +kernel
theorem dX12_count_58 : decode cX12_count 58 = .ok (.ireturn, 1) := by decide +kernel
theorem dX12_count_59 : decode cX12_count 59 = .ok (.aload_n 0, 1) := by decide +kernel
theorem dX12_count_60 : decode cX12_count 60 = .ok (.getfield 145, 3) := by decide +kernel
theorem dX12_count_63 : decode cX12_count 63 = .ok (.istore_n 3, 1) := by decide +kernel
theorem dX12_count_64 : decode cX12_count 64 = .ok (.aload_n 0, 1) := by decide +kernel
theorem dX12_count_65 : decode cX12_count 65 = .ok (.invokevirtual 219, 3) := by decide +kernel
theorem dX12_count_68 : decode cX12_count 68 = .ok (.iload_n 3, 1) := by decide +kernel
theorem dX12_count_69 : decode cX12_count 69 = .ok (.ireturn, 1) := by decide +kernel
theorem dX12_feed_0 : decode cX12_feed 0 = .ok (.aload_n 0, 1) := by decide +kernel
theorem dX12_feed_1 : decode cX12_feed 1 = .ok (.iconst 0, 1) := by decide +kernel
theorem dX12_feed_2 : decode cX12_feed 2 = .ok (.putfield 75, 3) := by decide +kernel
theorem dX12_feed_5 : decode cX12_feed 5 = .ok (.aload_n 0, 1) := by decide +kernel
theorem dX12_feed_6 : decode cX12_feed 6 = .ok (.getfield 225, 3) := by decide +kernel
theorem dX12_feed_9 : decode cX12_feed 9 = .ok (.bipush 20, 2) := by decide +kernel
theorem dX12_feed_11 : decode cX12_feed 11 = .ok (.iadd, 1) := by decide +kernel
theorem dX12_feed_12 : decode cX12_feed 12 = .ok (.sipush 900, 3) := by decide +kernel
theorem dX12_feed_15 : decode cX12_feed 15 = .ok (.if_icmp .le 5, 3) := by decide +kernel
theorem dX12_feed_18 : decode cX12_feed 18 = .ok (.iconst (-1), 1) := by decide +kernel
theorem dX12_feed_19 : decode cX12_feed 19 = .ok (.ireturn, 1) := by decide +kernel
theorem dX12_feed_20 : decode cX12_feed 20 = .ok (.aload_n 0, 1) := by decide +kernel
theorem dX12_feed_21 : decode cX12_feed 21 = .ok (.iload_n 1, 1) := by decide +kernel
theorem dX12_feed_22 : decode cX12_feed 22 = .ok (.invokevirtual 228, 3) := by decide +kernel
theorem dX12_feed_25 : decode cX12_feed 25 = .ok (.aload_n 0, 1) := by decide +kernel
theorem dX12_feed_26 : decode cX12_feed 26 = .ok (.iload_n 2, 1) := by decide +kernel
theorem dX12_feed_27 : decode cX12_feed 27 = .ok (.invokevirtual 228, 3) := by decide +kernel
theorem dX12_feed_30 : decode cX12_feed 30 = .ok (.aload_n 0, 1) := by decide +kernel
theorem dX12_feed_31 : decode cX12_feed 31 = .ok (.iload_n 3, 1) := by decide +kernel
theorem dX12_feed_32 : decode cX12_feed 32 = .ok (.invokevirtual 228, 3) := by decide +kernel
theorem dX12_feed_35 : decode cX12_feed 35 = .ok (.aload_n 0, 1) := by decide +kernel
theorem dX12_feed_36 : decode cX12_feed 36 = .ok (.iload 4, 2) := by decide +kernel
theorem dX12_feed_38 : decode cX12_feed 38 = .ok (.invokevirtual 228, 3) := by decide +kernel
theorem dX12_feed_41 : decode cX12_feed 41 = .ok (.aload_n 0, 1) := by decide +kernel
theorem dX12_feed_42 : decode cX12_feed 42 = .ok (.iload 5, 2) := by decide +kernel
theorem dX12_feed_44 : decode cX12_feed 44 = .ok (.invokevirtual 228, 3) := by decide +kernel
theorem dX12_feed_47 : decode cX12_feed 47 = .ok (.aload_n 0, 1) := by decide +kernel
theorem dX12_feed_48 : decode cX12_feed 48 = .ok (.getfield 225, 3) := by decide +kernel
theorem dX12_feed_51 : decode cX12_feed 51 = .ok (.ireturn, 1) := by decide +kernel
theorem dX12_lay_0 : decode cX12_lay 0 = .ok (.iconst 3, 1) := by decide +kernel
theorem dX12_lay_1 : decode cX12_lay 1 = .ok (.istore_n 2, 1) := by decide +kernel
theorem dX12_lay_2 : decode cX12_lay 2 = .ok (.iload_n 2, 1) := by decide +kernel
theorem dX12_lay_3 : decode cX12_lay 3 = .ok (.ifCond .lt 35, 3) := by decide +kernel
theorem dX12_lay_6 : decode cX12_lay 6 = .ok (.aload_n 0, 1) := by decide +kernel
theorem dX12_lay_7 : decode cX12_lay 7 = .ok (.getfield 24, 3) := by decide +kernel
theorem dX12_lay_10 : decode cX12_lay 10 = .ok (.aload_n 0, 1) := by decide +kernel
theorem dX12_lay_11 : decode cX12_lay 11 = .ok (.getfield 225, 3) := by decide +kernel
theorem dX12_lay_14 : decode cX12_lay 14 = .ok (.iload_n 1, 1) := by decide +kernel
theorem dX12_lay_15 : decode cX12_lay 15 = .ok (.bipush 8, 2) := by decide +kernel
theorem dX12_lay_17 : decode cX12_lay 17 = .ok (.iload_n 2, 1) := by decide +kernel
theorem dX12_lay_18 : decode cX12_lay 18 = .ok (.imul, 1) := by decide +kernel
theorem dX12_lay_19 : decode cX12_lay 19 = .ok (.ishr, 1) := by decide +kernel
theorem dX12_lay_20 : decode cX12_lay 20 = .ok (.i2b, 1) := by decide +kernel
theorem dX12_lay_21 : decode cX12_lay 21 = .ok (.bastore, 1) := by decide +kernel
theorem dX12_lay_22 : decode cX12_lay 22 = .ok (.aload_n 0, 1) := by decide +kernel
theorem dX12_lay_23 : decode cX12_lay 23 = .ok (.dup, 1) := by decide +kernel
theorem dX12_lay_24 : decode cX12_lay 24 = .ok (.getfield 225, 3) := by decide +kernel
theorem dX12_lay_27 : decode cX12_lay 27 = .ok (.iconst 1, 1) := by decide +kernel
theorem dX12_lay_28 : decode cX12_lay 28 = .ok (.iadd, 1) := by decide +kernel
theorem dX12_lay_29 : decode cX12_lay 29 = .ok (.putfield 225, 3) := by decide +kernel
theorem dX12_lay_32 : decode cX12_lay 32 = .ok (.iinc 2 (-1), 3) := by decide +kernel
theorem dX12_lay_35 : decode cX12_lay 35 = .ok (.goto (-33), 3) := by decide +kernel
theorem dX12_lay_38 : decode cX12_lay 38 = .ok (.return_, 1) := by decide +kernel
theorem dX12_opens_0 : decode cX12_opens 0 = .ok (.iload_n 1, 1) := by decide +kernel
theorem dX12_opens_1 : decode cX12_opens 1 = .ok (.ifCond .lt 16, 3) := by decide +kernel
theorem dX12_opens_4 : decode cX12_opens 4 = .ok (.iload_n 1, 1) := by decide +kernel
theorem dX12_opens_5 : decode cX12_opens 5 = .ok (.aload_n 0, 1) := by decide +kernel
theorem dX12_opens_6 : decode cX12_opens 6 = .ok (.getfield 225, 3) := by decide +kernel
theorem dX12_opens_9 : decode cX12_opens 9 = .ok (.if_icmp .gt 8, 3) := by decide +kernel
theorem dX12_opens_12 : decode cX12_opens 12 = .ok (.iload_n 1, 1) := by decide +kernel
theorem dX12_opens_13 : decode cX12_opens 13 = .ok (.iload_n 2, 1) := by decide +kernel
theorem dX12_opens_14 : decode cX12_opens 14 = .ok (.if_icmp .le 9, 3) := by decide +kernel
theorem dX12_opens_17 : decode cX12_opens 17 = .ok (.aload_n 0, 1) := by decide +kernel
theorem dX12_opens_18 : decode cX12_opens 18 = .ok (.iconst 5, 1) := by decide +kernel
theorem dX12_opens_19 : decode cX12_opens 19 = .ok (.invokevirtual 90, 3) := by decide +kernel
theorem dX12_opens_22 : decode cX12_opens 22 = .ok (.ireturn, 1) := by decide +kernel
theorem dX12_opens_23 : decode cX12_opens 23 = .ok (.aload_n 0, 1) := by decide +kernel
theorem dX12_opens_24 : decode cX12_opens 24 = .ok (.iload_n 1, 1) := by decide +kernel
theorem dX12_opens_25 : decode cX12_opens 25 = .ok (.putfield 114, 3) := by decide +kernel
theorem dX12_opens_28 : decode cX12_opens 28 = .ok (.aload_n 0, 1) := by decide +kernel
theorem dX12_opens_29 : decode cX12_opens 29 = .ok (.iconst 0, 1) := by decide +kernel
theorem dX12_opens_30 : decode cX12_opens 30 = .ok (.putfield 225, 3) := by decide +kernel
theorem dX12_opens_33 : decode cX12_opens 33 = .ok (.aload_n 0, 1) := by decide +kernel
theorem dX12_opens_34 : decode cX12_opens 34 = .ok (.iconst 0, 1) := by decide +kernel
theorem dX12_opens_35 : decode cX12_opens 35 = .ok (.putfield 117, 3) := by decide +kernel
theorem dX12_opens_38 : decode cX12_opens 38 = .ok (.aload_n 0, 1) := by decide +kernel
theorem dX12_opens_39 : decode cX12_opens 39 = .ok (.iconst 0, 1) := by decide +kernel
theorem dX12_opens_40 : decode cX12_opens 40 = .ok (.putfield 209, 3) := by decide +kernel
theorem dX12_opens_43 : decode cX12_opens 43 = .ok (.aload_n 0, 1) := by decide +kernel
theorem dX12_opens_44 : decode cX12_opens 44 = .ok (.invokevirtual 219, 3) := by decide +kernel
theorem dX12_opens_47 : decode cX12_opens 47 = .ok (.iconst 1, 1) := by decide +kernel
theorem dX12_opens_48 : decode cX12_opens 48 = .ok (.ireturn, 1) := by decide +kernel
theorem dX12_isWell_0 : decode cX12_isWell 0 = .ok (.aload_n 0, 1) := by decide +kernel
theorem dX12_isWell_1 : decode cX12_isWell 1 = .ok (.aload_n 0, 1) := by decide +kernel
theorem dX12_isWell_2 : decode cX12_isWell 2 = .ok (.getfield 209, 3) := by decide +kernel
theorem dX12_isWell_5 : decode cX12_isWell 5 = .ok (.putfield 28, 3) := by decide +kernel
theorem dX12_isWell_8 : decode cX12_isWell 8 = .ok (.aload_n 0, 1) := by decide +kernel
theorem dX12_isWell_9 : decode cX12_isWell 9 = .ok (.aload_n 0, 1) := by decide +kernel
theorem dX12_isWell_10 : decode cX12_isWell 10 = .ok (.getfield 209, 3) := by decide +kernel
theorem dX12_isWell_13 : decode cX12_isWell 13 = .ok (.ifCond .ne 7, 3) := by decide +kernel
theorem dX12_isWell_16 : decode cX12_isWell 16 = .ok (.iconst (-1), 1) := by decide +kernel
theorem dX12_isWell_17 : decode cX12_isWell 17 = .ok (.goto 7, 3) := by decide +kernel
theorem dX12_isWell_20 : decode cX12_isWell 20 = .ok (.aload_n 0, 1) := by decide +kernel
theorem dX12_isWell_21 : decode cX12_isWell 21 = .ok (.getfield 212, 3) := by decide +kernel
theorem dX12_isWell_24 : decode cX12_isWell 24 = .ok (.putfield 32, 3) := by decide +kernel
theorem dX12_isWell_27 : decode cX12_isWell 27 = .ok (.aload_n 0, 1) := by decide +kernel
theorem dX12_isWell_28 : decode cX12_isWell 28 = .ok (.getfield 209, 3) := by decide +kernel
theorem dX12_isWell_31 : decode cX12_isWell 31 = .ok (.ifCond .eq 12, 3) := by decide +kernel
theorem dX12_isWell_34 : decode cX12_isWell 34 = .ok (.aload_n 0, 1) := by decide +kernel
theorem dX12_isWell_35 : decode cX12_isWell 35 = .ok (.bipush 10, 2) := by decide +kernel
theorem dX12_isWell_37 : decode cX12_isWell 37 = .ok (.invokevirtual 90, 3) := by decide +kernel
theorem dX12_isWell_40 : decode cX12_isWell 40 = .ok (.ifCond .eq 7, 3) := by decide +kernel
theorem dX12_isWell_43 : decode cX12_isWell 43 = .ok (.iconst 1, 1) := by decide +kernel
theorem dX12_isWell_44 : decode cX12_isWell 44 = .ok (.goto 4, 3) := by decide +kernel
theorem dX12_isWell_47 : decode cX12_isWell 47 = .ok (.iconst 0, 1) := by decide +kernel
theorem dX12_isWell_48 : decode cX12_isWell 48 = .ok (.ireturn, 1) := by decide +kernel
theorem dX12_fault_0 : decode cX12_fault 0 = .ok (.aload_n 0, 1) := by decide +kernel
theorem dX12_fault_1 : decode cX12_fault 1 = .ok (.iconst 0, 1) := by decide +kernel
theorem dX12_fault_2 : decode cX12_fault 2 = .ok (.putfield 75, 3) := by decide +kernel
theorem dX12_fault_5 : decode cX12_fault 5 = .ok (.iload_n 1, 1) := by decide +kernel
theorem dX12_fault_6 : decode cX12_fault 6 = .ok (.ifCond .ne 10, 3) := by decide +kernel
theorem dX12_fault_9 : decode cX12_fault 9 = .ok (.aload_n 0, 1) := by decide +kernel
theorem dX12_fault_10 : decode cX12_fault 10 = .ok (.getfield 28, 3) := by decide +kernel
theorem dX12_fault_13 : decode cX12_fault 13 = .ok (.goto 16, 3) := by decide +kernel
theorem dX12_fault_16 : decode cX12_fault 16 = .ok (.iload_n 1, 1) := by decide +kernel
theorem dX12_fault_17 : decode cX12_fault 17 = .ok (.iconst 1, 1) := by decide +kernel
theorem dX12_fault_18 : decode cX12_fault 18 = .ok (.if_icmp .ne 10, 3) := by decide +kernel
theorem dX12_fault_21 : decode cX12_fault 21 = .ok (.aload_n 0, 1) := by decide +kernel
theorem dX12_fault_22 : decode cX12_fault 22 = .ok (.getfield 32, 3) := by decide +kernel
theorem dX12_fault_25 : decode cX12_fault 25 = .ok (.goto 4, 3) := by decide +kernel
theorem dX12_fault_28 : decode cX12_fault 28 = .ok (.iconst (-1), 1) := by decide +kernel
theorem dX12_fault_29 : decode cX12_fault 29 = .ok (.ireturn, 1) := by decide +kernel
theorem dX12_named_0 : decode cX12_named 0 = .ok (.iconst 0, 1) := by decide +kernel
theorem dX12_named_1 : decode cX12_named 1 = .ok (.istore 4, 2) := by decide +kernel
theorem dX12_named_3 : decode cX12_named 3 = .ok (.iload 4, 2) := by decide +kernel
theorem dX12_named_5 : decode cX12_named 5 = .ok (.iload_n 3, 1) := by decide +kernel
theorem dX12_named_6 : decode cX12_named 6 = .ok (.if_icmp .ge 34, 3) := by decide +kernel
theorem dX12_named_9 : decode cX12_named 9 = .ok (.aload_n 0, 1) := by decide +kernel
theorem dX12_named_10 : decode cX12_named 10 = .ok (.getfield 38, 3) := by decide +kernel
theorem dX12_named_13 : decode cX12_named 13 = .ok (.bipush 20, 2) := by decide +kernel
theorem dX12_named_15 : decode cX12_named 15 = .ok (.iload_n 1, 1) := by decide +kernel
theorem dX12_named_16 : decode cX12_named 16 = .ok (.imul, 1) := by decide +kernel
theorem dX12_named_17 : decode cX12_named 17 = .ok (.iload_n 2, 1) := by decide +kernel
theorem dX12_named_18 : decode cX12_named 18 = .ok (.iadd, 1) := by decide +kernel
theorem dX12_named_19 : decode cX12_named 19 = .ok (.iload 4, 2) := by decide +kernel
theorem dX12_named_21 : decode cX12_named 21 = .ok (.iadd, 1) := by decide +kernel
theorem dX12_named_22 : decode cX12_named 22 = .ok (.laload, 1) := by decide +kernel
theorem dX12_named_23 : decode cX12_named 23 = .ok (.aload_n 0, 1) := by decide +kernel
theorem dX12_named_24 : decode cX12_named 24 = .ok (.getfield 132, 3) := by decide +kernel
theorem dX12_named_27 : decode cX12_named 27 = .ok (.lcmp, 1) := by decide +kernel
theorem dX12_named_28 : decode cX12_named 28 = .ok (.ifCond .ne 6, 3) := by decide +kernel
theorem dX12_named_31 : decode cX12_named 31 = .ok (.iload 4, 2) := by decide +kernel
theorem dX12_named_33 : decode cX12_named 33 = .ok (.ireturn, 1) := by decide +kernel
theorem dX12_named_34 : decode cX12_named 34 = .ok (.iinc 4 1, 3) := by decide +kernel
theorem dX12_named_37 : decode cX12_named 37 = .ok (.goto (-34), 3) := by decide +kernel
theorem dX12_named_40 : decode cX12_named 40 = .ok (.iconst (-1), 1) := by decide +kernel
theorem dX12_named_41 : decode cX12_named 41 = .ok (.ireturn, 1) := by decide +kernel
theorem dX12_readNew_0 : decode cX12_readNew 0 = .ok (.aload_n 0, 1) := by decide +kernel
theorem dX12_readNew_1 : decode cX12_readNew 1 = .ok (.invokevirtual 219, 3) := by decide +kernel
theorem dX12_readNew_4 : decode cX12_readNew 4 = .ok (.aload_n 0, 1) := by decide +kernel
theorem dX12_readNew_5 : decode cX12_readNew 5 = .ok (.invokevirtual 232, 3) := by decide +kernel
theorem dX12_readNew_8 : decode cX12_readNew 8 = .ok (.ifCond .ne 7, 3) := by decide +kernel
theorem dX12_readNew_11 : decode cX12_readNew 11 = .ok (.aload_n 0, 1) := by decide +kernel
theorem dX12_readNew_12 : decode cX12_readNew 12 = .ok (.invokevirtual 222, 3) := by decide +kernel
theorem dX12_readNew_15 : decode cX12_readNew 15 = .ok (.aload_n 0, 1) := by decide +kernel
theorem dX12_readNew_16 : decode cX12_readNew 16 = .ok (.getfield 209, 3) := by decide +kernel
theorem dX12_readNew_19 : decode cX12_readNew 19 = .ok (.ifCond .ne 47, 3) := by decide +kernel
theorem dX12_readNew_22 : decode cX12_readNew 22 = .ok (.aload_n 0, 1) := by decide +kernel
theorem dX12_readNew_23 : decode cX12_readNew 23 = .ok (.iconst 4, 1) := by decide +kernel
theorem dX12_readNew_24 : decode cX12_readNew 24 = .ok (.iconst 0, 1) := by decide +kernel
theorem dX12_readNew_25 : decode cX12_readNew 25 = .ok (.aload_n 0, 1) := by decide +kernel
theorem dX12_readNew_26 : decode cX12_readNew 26 = .ok (.getfield 35, 3) := by decide +kernel
theorem dX12_readNew_29 : decode cX12_readNew 29 = .ok (.sipush 1440, 3) := by decide +kernel
theorem dX12_readNew_32 : decode cX12_readNew 32 = .ok (.iaload, 1) := by decide +kernel
theorem dX12_readNew_33 : decode cX12_readNew 33 = .ok (.invokevirtual 235, 3) := by decide +kernel
theorem dX12_readNew_36 : decode cX12_readNew 36 = .ok (.ifCond .ge 21, 3) := by decide +kernel
theorem dX12_readNew_39 : decode cX12_readNew 39 = .ok (.aload_n 0, 1) := by decide +kernel
theorem dX12_readNew_40 : decode cX12_readNew 40 = .ok (.iconst 4, 1) := by decide +kernel
theorem dX12_readNew_41 : decode cX12_readNew 41 = .ok (.bipush 16, 2) := by decide +kernel
theorem dX12_readNew_43 : decode cX12_readNew 43 = .ok (.aload_n 0, 1) := by decide +kernel
theorem dX12_readNew_44 : decode cX12_readNew 44 = .ok (.getfield 35, 3) := by decide +kernel
theorem dX12_readNew_47 : decode cX12_readNew 47 = .ok (.sipush 1441, 3) := by decide +kernel
theorem dX12_readNew_50 : decode cX12_readNew 50 = .ok (.iaload, 1) := by decide +kernel
theorem dX12_readNew_51 : decode cX12_readNew 51 = .ok (.invokevirtual 235, 3) := by decide +kernel
theorem dX12_readNew_54 : decode cX12_readNew 54 = .ok (.ifCond .lt 12, 3) := by decide +kernel
theorem dX12_readNew_57 : decode cX12_readNew 57 = .ok (.aload_n 0, 1) := by decide +kernel
theorem dX12_readNew_58 : decode cX12_readNew 58 = .ok (.iconst 3, 1) := by decide +kernel
theorem dX12_readNew_59 : decode cX12_readNew 59 = .ok (.aload_n 0, 1) := by decide +kernel
theorem dX12_readNew_60 : decode cX12_readNew 60 = .ok (.getfield 120, 3) := by decide +kernel
theorem dX12_readNew_63 : decode cX12_readNew 63 = .ok (.invokevirtual 215, 3) := by decide +kernel
theorem dX12_readNew_66 : decode cX12_readNew 66 = .ok (.aload_n 0, 1) := by decide +kernel
theorem dX12_readNew_67 : decode cX12_readNew 67 = .ok (.getfield 209, 3) := by decide +kernel
theorem dX12_readNew_70 : decode cX12_readNew 70 = .ok (.ifCond .le 4, 3) := by decide +kernel
theorem dX12_readNew_73 : decode cX12_readNew 73 = .ok (.return_, 1) := by decide +kernel
theorem dX12_readNew_74 : decode cX12_readNew 74 = .ok (.aload_n 0, 1) := by decide +kernel
theorem dX12_readNew_75 : decode cX12_readNew 75 = .ok (.getfield 38, 3) := by decide +kernel
theorem dX12_readNew_78 : decode cX12_readNew 78 = .ok (.bipush 80, 2) := by decide +kernel
theorem dX12_readNew_80 : decode cX12_readNew 80 = .ok (.iload_n 1, 1) := by decide +kernel
theorem dX12_readNew_81 : decode cX12_readNew 81 = .ok (.iadd, 1) := by decide +kernel
theorem dX12_readNew_82 : decode cX12_readNew 82 = .ok (.iload_n 2, 1) := by decide +kernel
theorem dX12_readNew_83 : decode cX12_readNew 83 = .ok (.iadd, 1) := by decide +kernel
theorem dX12_readNew_84 : decode cX12_readNew 84 = .ok (.aload_n 0, 1) := by decide +kernel
theorem dX12_readNew_85 : decode cX12_readNew 85 = .ok (.getfield 132, 3) := by decide +kernel
theorem dX12_readNew_88 : decode cX12_readNew 88 = .ok (.lastore, 1) := by decide +kernel
theorem dX12_readNew_89 : decode cX12_readNew 89 = .ok (.aload_n 0, 1) := by decide +kernel
theorem dX12_readNew_90 : decode cX12_readNew 90 = .ok (.invokevirtual 219, 3) := by decide +kernel
theorem dX12_readNew_93 : decode cX12_readNew 93 = .ok (.return_, 1) := by decide +kernel
theorem dX12_readTold_0 : decode cX12_readTold 0 = .ok (.aload_n 0, 1) := by decide +kernel
theorem dX12_readTold_1 : decode cX12_readTold 1 = .ok (.getfield 209, 3) := by decide +kernel
theorem dX12_readTold_4 : decode cX12_readTold 4 = .ok (.ifCond .ne 14, 3) := by decide +kernel
theorem dX12_readTold_7 : decode cX12_readTold 7 = .ok (.aload_n 0, 1) := by decide +kernel
theorem dX12_readTold_8 : decode cX12_readTold 8 = .ok (.invokevirtual 232, 3) := by decide +kernel
theorem dX12_readTold_11 : decode cX12_readTold 11 = .ok (.ifCond .ne 7, 3) := by decide +kernel
theorem dX12_readTold_14 : decode cX12_readTold 14 = .ok (.aload_n 0, 1) := by decide +kernel
theorem dX12_readTold_15 : decode cX12_readTold 15 = .ok (.invokevirtual 222, 3) := by decide +kernel
theorem dX12_readTold_18 : decode cX12_readTold 18 = .ok (.aload_n 0, 1) := by decide +kernel
theorem dX12_readTold_19 : decode cX12_readTold 19 = .ok (.getfield 209, 3) := by decide +kernel
theorem dX12_readTold_22 : decode cX12_readTold 22 = .ok (.ifCond .ne 20, 3) := by decide +kernel
theorem dX12_readTold_25 : decode cX12_readTold 25 = .ok (.aload_n 0, 1) := by decide +kernel
theorem dX12_readTold_26 : decode cX12_readTold 26 = .ok (.iconst 4, 1) := by decide +kernel
theorem dX12_readTold_27 : decode cX12_readTold 27 = .ok (.iconst 0, 1) := by decide +kernel
theorem dX12_readTold_28 : decode cX12_readTold 28 = .ok (.aload_n 0, 1) := by decide +kernel
theorem dX12_readTold_29 : decode cX12_readTold 29 = .ok (.getfield 35, 3) := by decide +kernel
theorem dX12_readTold_32 : decode cX12_readTold 32 = .ok (.sipush 1440, 3) := by decide +kernel
theorem dX12_readTold_35 : decode cX12_readTold 35 = .ok (.iaload, 1) := by decide +kernel
theorem dX12_readTold_36 : decode cX12_readTold 36 = .ok (.invokevirtual 235, 3) := by decide +kernel
theorem dX12_readTold_39 : decode cX12_readTold 39 = .ok (.goto 4, 3) := by decide +kernel
theorem dX12_readTold_42 : decode cX12_readTold 42 = .ok (.iconst 0, 1) := by decide +kernel
theorem dX12_readTold_43 : decode cX12_readTold 43 = .ok (.istore_n 1, 1) := by decide +kernel
theorem dX12_readTold_44 : decode cX12_readTold 44 = .ok (.aload_n 0, 1) := by decide +kernel
theorem dX12_readTold_45 : decode cX12_readTold 45 = .ok (.getfield 209, 3) := by decide +kernel
theorem dX12_readTold_48 : decode cX12_readTold 48 = .ok (.ifCond .ne 16, 3) := by decide +kernel
theorem dX12_readTold_51 : decode cX12_readTold 51 = .ok (.iload_n 1, 1) := by decide +kernel
theorem dX12_readTold_52 : decode cX12_readTold 52 = .ok (.ifCond .ge 12, 3) := by decide +kernel
theorem dX12_readTold_55 : decode cX12_readTold 55 = .ok (.aload_n 0, 1) := by decide +kernel
theorem dX12_readTold_56 : decode cX12_readTold 56 = .ok (.iconst 3, 1) := by decide +kernel
theorem dX12_readTold_57 : decode cX12_readTold 57 = .ok (.aload_n 0, 1) := by decide +kernel
theorem dX12_readTold_58 : decode cX12_readTold 58 = .ok (.getfield 120, 3) := by decide +kernel
theorem dX12_readTold_61 : decode cX12_readTold 61 = .ok (.invokevirtual 215, 3) := by decide +kernel
theorem dX12_readTold_64 : decode cX12_readTold 64 = .ok (.iload_n 1, 1) := by decide +kernel
theorem dX12_readTold_65 : decode cX12_readTold 65 = .ok (.ireturn, 1) := by decide +kernel
theorem dX12_kind_0 : decode cX12_kind 0 = .ok (.aload_n 0, 1) := by decide +kernel
theorem dX12_kind_1 : decode cX12_kind 1 = .ok (.getfield 35, 3) := by decide +kernel
theorem dX12_kind_4 : decode cX12_kind 4 = .ok (.iload_n 1, 1) := by decide +kernel
theorem dX12_kind_5 : decode cX12_kind 5 = .ok (.iconst 2, 1) := by decide +kernel
theorem dX12_kind_6 : decode cX12_kind 6 = .ok (.iadd, 1) := by decide +kernel
theorem dX12_kind_7 : decode cX12_kind 7 = .ok (.iload_n 2, 1) := by decide +kernel
theorem dX12_kind_8 : decode cX12_kind 8 = .ok (.iadd, 1) := by decide +kernel
theorem dX12_kind_9 : decode cX12_kind 9 = .ok (.iaload, 1) := by decide +kernel
theorem dX12_kind_10 : decode cX12_kind 10 = .ok (.ireturn, 1) := by decide +kernel
theorem dX12_hangsOn_0 : decode cX12_hangsOn 0 = .ok (.aload_n 0, 1) := by decide +kernel
theorem dX12_hangsOn_1 : decode cX12_hangsOn 1 = .ok (.getfield 35, 3) := by decide +kernel
theorem dX12_hangsOn_4 : decode cX12_hangsOn 4 = .ok (.iload_n 1, 1) := by decide +kernel
theorem dX12_hangsOn_5 : decode cX12_hangsOn 5 = .ok (.bipush 98, 2) := by decide +kernel
theorem dX12_hangsOn_7 : decode cX12_hangsOn 7 = .ok (.iadd, 1) := by decide +kernel
theorem dX12_hangsOn_8 : decode cX12_hangsOn 8 = .ok (.iload_n 2, 1) := by decide +kernel
theorem dX12_hangsOn_9 : decode cX12_hangsOn 9 = .ok (.iadd, 1) := by decide +kernel
theorem dX12_hangsOn_10 : decode cX12_hangsOn 10 = .ok (.iaload, 1) := by decide +kernel
theorem dX12_hangsOn_11 : decode cX12_hangsOn 11 = .ok (.ireturn, 1) := by decide +kernel
theorem dX12_thingOf_0 : decode cX12_thingOf 0 = .ok (.iload_n 2, 1) := by decide +kernel
theorem dX12_thingOf_1 : decode cX12_thingOf 1 = .ok (.istore_n 3, 1) := by decide +kernel
theorem dX12_thingOf_2 : decode cX12_thingOf 2 = .ok (.aload_n 0, 1) := by decide +kernel
theorem dX12_thingOf_3 : decode cX12_thingOf 3 = .ok (.iload_n 1, 1) := by decide +kernel
theorem dX12_thingOf_4 : decode cX12_thingOf 4 = .ok (.iload_n 3, 1) := by decide +kernel
theorem dX12_thingOf_5 : decode cX12_thingOf 5 = .ok (.invokevirtual 239, 3) := by decide +kernel
theorem dX12_thingOf_8 : decode cX12_thingOf 8 = .ok (.ifCond .eq 18, 3) := by decide +kernel
theorem dX12_thingOf_11 : decode cX12_thingOf 11 = .ok (.aload_n 0, 1) := by decide +kernel
theorem dX12_thingOf_12 : decode cX12_thingOf 12 = .ok (.getfield 35, 3) := by decide +kernel
theorem dX12_thingOf_15 : decode cX12_thingOf 15 = .ok (.iload_n 1, 1) := by decide +kernel
theorem dX12_thingOf_16 : decode cX12_thingOf 16 = .ok (.bipush 50, 2) := by decide +kernel
theorem dX12_thingOf_18 : decode cX12_thingOf 18 = .ok (.iadd, 1) := by decide +kernel
theorem dX12_thingOf_19 : decode cX12_thingOf 19 = .ok (.iload_n 3, 1) := by decide +kernel
theorem dX12_thingOf_20 : decode cX12_thingOf 20 = .ok (.iadd, 1) := by decide +kernel
theorem dX12_thingOf_21 : decode cX12_thingOf 21 = .ok (.iaload, 1) := by decide +kernel
theorem dX12_thingOf_22 : decode cX12_thingOf 22 = .ok (.istore_n 3, 1) := by decide +kernel
theorem dX12_thingOf_23 : decode cX12_thingOf 23 = .ok (.goto (-21), 3) := by decide +kernel
theorem dX12_thingOf_26 : decode cX12_thingOf 26 = .ok (.iload_n 3, 1) := by decide +kernel
theorem dX12_thingOf_27 : decode cX12_thingOf 27 = .ok (.ireturn, 1) := by decide +kernel
theorem dX12_fight_0 : decode cX12_fight 0 = .ok (.iload_n 0, 1) := by decide +kernel
theorem dX12_fight_1 : decode cX12_fight 1 = .ok (.iconst 2, 1) := by decide +kernel
theorem dX12_fight_2 : decode cX12_fight 2 = .ok (.if_icmp .ne 8, 3) := by decide +kernel
theorem dX12_fight_5 : decode cX12_fight 5 = .ok (.iload_n 1, 1) := by decide +kernel
theorem dX12_fight_6 : decode cX12_fight 6 = .ok (.iconst 2, 1) := by decide +kernel
theorem dX12_fight_7 : decode cX12_fight 7 = .ok (.if_icmp .eq 43, 3) := by decide +kernel
theorem dX12_fight_10 : decode cX12_fight 10 = .ok (.iload_n 0, 1) := by decide +kernel
theorem dX12_fight_11 : decode cX12_fight 11 = .ok (.iconst 3, 1) := by decide +kernel
theorem dX12_fight_12 : decode cX12_fight 12 = .ok (.if_icmp .ne 8, 3) := by decide +kernel
theorem dX12_fight_15 : decode cX12_fight 15 = .ok (.iload_n 1, 1) := by decide +kernel
theorem dX12_fight_16 : decode cX12_fight 16 = .ok (.iconst 3, 1) := by decide +kernel
theorem dX12_fight_17 : decode cX12_fight 17 = .ok (.if_icmp .eq 33, 3) := by decide +kernel
theorem dX12_fight_20 : decode cX12_fight 20 = .ok (.iload_n 0, 1) := by decide +kernel
theorem dX12_fight_21 : decode cX12_fight 21 = .ok (.iconst 1, 1) := by decide +kernel
theorem dX12_fight_22 : decode cX12_fight 22 = .ok (.if_icmp .ne 13, 3) := by decide +kernel
theorem dX12_fight_25 : decode cX12_fight 25 = .ok (.iload_n 1, 1) := by decide +kernel
theorem dX12_fight_26 : decode cX12_fight 26 = .ok (.iconst 2, 1) := by decide +kernel
theorem dX12_fight_27 : decode cX12_fight 27 = .ok (.if_icmp .eq 23, 3) := by decide +kernel
theorem dX12_fight_30 : decode cX12_fight 30 = .ok (.iload_n 1, 1) := by decide +kernel
theorem dX12_fight_31 : decode cX12_fight 31 = .ok (.iconst 3, 1) := by decide +kernel
theorem dX12_fight_32 : decode cX12_fight 32 = .ok (.if_icmp .eq 18, 3) := by decide +kernel
theorem dX12_fight_35 : decode cX12_fight 35 = .ok (.iload_n 1, 1) := by decide +kernel
theorem dX12_fight_36 : decode cX12_fight 36 = .ok (.iconst 1, 1) := by decide +kernel
theorem dX12_fight_37 : decode cX12_fight 37 = .ok (.if_icmp .ne 17, 3) := by decide +kernel
theorem dX12_fight_40 : decode cX12_fight 40 = .ok (.iload_n 0, 1) := by decide +kernel
theorem dX12_fight_41 : decode cX12_fight 41 = .ok (.iconst 2, 1) := by decide +kernel
theorem dX12_fight_42 : decode cX12_fight 42 = .ok (.if_icmp .eq 8, 3) := by decide +kernel
theorem dX12_fight_45 : decode cX12_fight 45 = .ok (.iload_n 0, 1) := by decide +kernel
theorem dX12_fight_46 : decode cX12_fight 46 = .ok (.iconst 3, 1) := by decide +kernel
theorem dX12_fight_47 : decode cX12_fight 47 = .ok (.if_icmp .ne 7, 3) := by decide +kernel
theorem dX12_fight_50 : decode cX12_fight 50 = .ok (.iconst 1, 1) := by decide +kernel
theorem dX12_fight_51 : decode cX12_fight 51 = .ok (.goto 4, 3) := by decide +kernel
theorem dX12_fight_54 : decode cX12_fight 54 = .ok (.iconst 0, 1) := by decide +kernel
theorem dX12_fight_55 : decode cX12_fight 55 = .ok (.ireturn, 1) := by decide +kernel
theorem dX12_wouldQuarrel_0 : decode cX12_wouldQuarrel 0 = .ok (.iload_n 2, 1) := by decide +kernel
theorem dX12_wouldQuarrel_1 : decode cX12_wouldQuarrel 1 = .ok (.iload_n 3, 1) := by decide +kernel
theorem dX12_wouldQuarrel_2 : decode cX12_wouldQuarrel 2 = .ok (.if_icmp .eq 36, 3) := by decide +kernel
theorem dX12_wouldQuarrel_5 : decode cX12_wouldQuarrel 5 = .ok (.aload_n 0, 1) := by decide +kernel
theorem dX12_wouldQuarrel_6 : decode cX12_wouldQuarrel 6 = .ok (.iload_n 1, 1) := by decide +kernel
theorem dX12_wouldQuarrel_7 : decode cX12_wouldQuarrel 7 = .ok (.iload_n 2, 1) := by decide +kernel
theorem dX12_wouldQuarrel_8 : decode cX12_wouldQuarrel 8 = .ok (.invokevirtual 239, 3) := by decide +kernel
theorem dX12_wouldQuarrel_11 : decode cX12_wouldQuarrel 11 = .ok (.aload_n 0, 1) := by decide +kernel
theorem dX12_wouldQuarrel_12 : decode cX12_wouldQuarrel 12 = .ok (.iload_n 1, 1) := by decide +kernel
theorem dX12_wouldQuarrel_13 : decode cX12_wouldQuarrel 13 = .ok (.iload_n 3, 1) := by decide +kernel
theorem dX12_wouldQuarrel_14 : decode cX12_wouldQuarrel 14 = .ok (.invokevirtual 239, 3) := by decide +kernel
theorem dX12_wouldQuarrel_17 : decode cX12_wouldQuarrel 17 = .ok (.invokestatic 242, 3) := by decide +kernel
theorem dX12_wouldQuarrel_20 : decode cX12_wouldQuarrel 20 = .ok (.ifCond .eq 18, 3) := by decide +kernel
theorem dX12_wouldQuarrel_23 : decode cX12_wouldQuarrel 23 = .ok (.aload_n 0, 1) := by decide +kernel
theorem dX12_wouldQuarrel_24 : decode cX12_wouldQuarrel 24 = .ok (.iload_n 1, 1) := by decide +kernel
theorem dX12_wouldQuarrel_25 : decode cX12_wouldQuarrel 25 = .ok (.iload_n 2, 1) := by decide +kernel
theorem dX12_wouldQuarrel_26 : decode cX12_wouldQuarrel 26 = .ok (.invokevirtual 246, 3) := by decide +kernel
theorem dX12_wouldQuarrel_29 : decode cX12_wouldQuarrel 29 = .ok (.aload_n 0, 1) := by decide +kernel
theorem dX12_wouldQuarrel_30 : decode cX12_wouldQuarrel 30 = .ok (.iload_n 1, 1) := by decide +kernel
theorem dX12_wouldQuarrel_31 : decode cX12_wouldQuarrel 31 = .ok (.iload_n 3, 1) := by decide +kernel
theorem dX12_wouldQuarrel_32 : decode cX12_wouldQuarrel 32 = .ok (.invokevirtual 246, 3) := by decide +kernel
theorem dX12_wouldQuarrel_35 : decode cX12_wouldQuarrel 35 = .ok (.if_icmp .eq 5, 3) := by decide +kernel
theorem dX12_wouldQuarrel_38 : decode cX12_wouldQuarrel 38 = .ok (.iconst 0, 1) := by decide +kernel
theorem dX12_wouldQuarrel_39 : decode cX12_wouldQuarrel 39 = .ok (.ireturn, 1) := by decide +kernel
theorem dX12_wouldQuarrel_40 : decode cX12_wouldQuarrel 40 = .ok (.aload_n 0, 1) := by decide +kernel
theorem dX12_wouldQuarrel_41 : decode cX12_wouldQuarrel 41 = .ok (.iload_n 1, 1) := by decide +kernel
theorem dX12_wouldQuarrel_42 : decode cX12_wouldQuarrel 42 = .ok (.iload_n 2, 1) := by decide +kernel
theorem dX12_wouldQuarrel_43 : decode cX12_wouldQuarrel 43 = .ok (.invokevirtual 249, 3) := by decide +kernel
theorem dX12_wouldQuarrel_46 : decode cX12_wouldQuarrel 46 = .ok (.iload_n 3, 1) := by decide +kernel
theorem dX12_wouldQuarrel_47 : decode cX12_wouldQuarrel 47 = .ok (.ishr, 1) := by decide +kernel
theorem dX12_wouldQuarrel_48 : decode cX12_wouldQuarrel 48 = .ok (.iconst 1, 1) := by decide +kernel
theorem dX12_wouldQuarrel_49 : decode cX12_wouldQuarrel 49 = .ok (.iand, 1) := by decide +kernel
theorem dX12_wouldQuarrel_50 : decode cX12_wouldQuarrel 50 = .ok (.ifCond .ne 20, 3) := by decide +kernel
theorem dX12_wouldQuarrel_53 : decode cX12_wouldQuarrel 53 = .ok (.aload_n 0, 1) := by decide +kernel
theorem dX12_wouldQuarrel_54 : decode cX12_wouldQuarrel 54 = .ok (.iload_n 1, 1) := by decide +kernel
theorem dX12_wouldQuarrel_55 : decode cX12_wouldQuarrel 55 = .ok (.iload_n 3, 1) := by decide +kernel
theorem dX12_wouldQuarrel_56 : decode cX12_wouldQuarrel 56 = .ok (.invokevirtual 249, 3) := by decide +kernel
theorem dX12_wouldQuarrel_59 : decode cX12_wouldQuarrel 59 = .ok (.iload_n 2, 1) := by decide +kernel
theorem dX12_wouldQuarrel_60 : decode cX12_wouldQuarrel 60 = .ok (.ishr, 1) := by decide +kernel
theorem dX12_wouldQuarrel_61 : decode cX12_wouldQuarrel 61 = .ok (.iconst 1, 1) := by decide +kernel
theorem dX12_wouldQuarrel_62 : decode cX12_wouldQuarrel 62 = .ok (.iand, 1) := by decide +kernel
theorem dX12_wouldQuarrel_63 : decode cX12_wouldQuarrel 63 = .ok (.ifCond .ne 7, 3) := by decide +kernel
theorem dX12_wouldQuarrel_66 : decode cX12_wouldQuarrel 66 = .ok (.iconst 1, 1) := by decide +kernel
theorem dX12_wouldQuarrel_67 : decode cX12_wouldQuarrel 67 = .ok (.goto 4, 3) := by decide +kernel
theorem dX12_wouldQuarrel_70 : decode cX12_wouldQuarrel 70 = .ok (.iconst 0, 1) := by decide +kernel
theorem dX12_wouldQuarrel_71 : decode cX12_wouldQuarrel 71 = .ok (.ireturn, 1) := by decide +kernel
theorem dX12_readOf_0 : decode cX12_readOf 0 = .ok (.aload_n 0, 1) := by decide +kernel
theorem dX12_readOf_1 : decode cX12_readOf 1 = .ok (.aload_n 0, 1) := by decide +kernel
theorem dX12_readOf_2 : decode cX12_readOf 2 = .ok (.invokevirtual 170, 3) := by decide +kernel
theorem dX12_readOf_5 : decode cX12_readOf 5 = .ok (.invokevirtual 252, 3) := by decide +kernel
theorem dX12_readOf_8 : decode cX12_readOf 8 = .ok (.aload_n 0, 1) := by decide +kernel
theorem dX12_readOf_9 : decode cX12_readOf 9 = .ok (.invokevirtual 256, 3) := by decide +kernel
theorem dX12_readOf_12 : decode cX12_readOf 12 = .ok (.istore_n 1, 1) := by decide +kernel
theorem dX12_readOf_13 : decode cX12_readOf 13 = .ok (.aload_n 0, 1) := by decide +kernel
theorem dX12_readOf_14 : decode cX12_readOf 14 = .ok (.getfield 209, 3) := by decide +kernel
theorem dX12_readOf_17 : decode cX12_readOf 17 = .ok (.ifCond .ne 36, 3) := by decide +kernel
theorem dX12_readOf_20 : decode cX12_readOf 20 = .ok (.aload_n 0, 1) := by decide +kernel
theorem dX12_readOf_21 : decode cX12_readOf 21 = .ok (.sipush 1440, 3) := by decide +kernel
theorem dX12_readOf_24 : decode cX12_readOf 24 = .ok (.iload_n 1, 1) := by decide +kernel
theorem dX12_readOf_25 : decode cX12_readOf 25 = .ok (.invokevirtual 239, 3) := by decide +kernel
theorem dX12_readOf_28 : decode cX12_readOf 28 = .ok (.iconst 1, 1) := by decide +kernel
theorem dX12_readOf_29 : decode cX12_readOf 29 = .ok (.if_icmp .eq 15, 3) := by decide +kernel
theorem dX12_readOf_32 : decode cX12_readOf 32 = .ok (.aload_n 0, 1) := by decide +kernel
theorem dX12_readOf_33 : decode cX12_readOf 33 = .ok (.sipush 1440, 3) := by decide +kernel
theorem dX12_readOf_36 : decode cX12_readOf 36 = .ok (.iload_n 1, 1) := by decide +kernel
theorem dX12_readOf_37 : decode cX12_readOf 37 = .ok (.invokevirtual 239, 3) := by decide +kernel
theorem dX12_readOf_40 : decode cX12_readOf 40 = .ok (.iconst 4, 1) := by decide +kernel
theorem dX12_readOf_41 : decode cX12_readOf 41 = .ok (.if_icmp .ne 12, 3) := by decide +kernel
theorem dX12_readOf_44 : decode cX12_readOf 44 = .ok (.aload_n 0, 1) := by decide +kernel
theorem dX12_readOf_45 : decode cX12_readOf 45 = .ok (.iconst 5, 1) := by decide +kernel
theorem dX12_readOf_46 : decode cX12_readOf 46 = .ok (.aload_n 0, 1) := by decide +kernel
theorem dX12_readOf_47 : decode cX12_readOf 47 = .ok (.getfield 120, 3) := by decide +kernel
theorem dX12_readOf_50 : decode cX12_readOf 50 = .ok (.invokevirtual 215, 3) := by decide +kernel
theorem dX12_readOf_53 : decode cX12_readOf 53 = .ok (.aload_n 0, 1) := by decide +kernel
theorem dX12_readOf_54 : decode cX12_readOf 54 = .ok (.iconst 1, 1) := by decide +kernel
theorem dX12_readOf_55 : decode cX12_readOf 55 = .ok (.invokevirtual 252, 3) := by decide +kernel
theorem dX12_readOf_58 : decode cX12_readOf 58 = .ok (.iload_n 1, 1) := by decide +kernel
theorem dX12_readOf_59 : decode cX12_readOf 59 = .ok (.ireturn, 1) := by decide +kernel
theorem dX12_readQuarreler_0 : decode cX12_readQuarreler 0 = .ok (.aload_n 0, 1) := by decide +kernel
theorem dX12_readQuarreler_1 : decode cX12_readQuarreler 1 = .ok (.invokevirtual 256, 3) := by decide +kernel
theorem dX12_readQuarreler_4 : decode cX12_readQuarreler 4 = .ok (.istore_n 1, 1) := by decide +kernel
theorem dX12_readQuarreler_5 : decode cX12_readQuarreler 5 = .ok (.aload_n 0, 1) := by decide +kernel
theorem dX12_readQuarreler_6 : decode cX12_readQuarreler 6 = .ok (.getfield 209, 3) := by decide +kernel
theorem dX12_readQuarreler_9 : decode cX12_readQuarreler 9 = .ok (.ifCond .ne 35, 3) := by decide +kernel
theorem dX12_readQuarreler_12 : decode cX12_readQuarreler 12 = .ok (.aload_n 0, 1) := by decide +kernel
theorem dX12_readQuarreler_13 : decode cX12_readQuarreler 13 = .ok (.sipush 1440, 3) := by decide +kernel
theorem dX12_readQuarreler_16 : decode cX12_readQuarreler 16 = .ok (.iload_n 1, 1) := by decide +kernel
theorem dX12_readQuarreler_17 : decode cX12_readQuarreler 17 = .ok (.invokevirtual 239, 3) := by decide +kernel
theorem dX12_readQuarreler_20 : decode cX12_readQuarreler 20 = .ok (.ifCond .eq 15, 3) := by decide +kernel
theorem dX12_readQuarreler_23 : decode cX12_readQuarreler 23 = .ok (.aload_n 0, 1) := by decide +kernel
theorem dX12_readQuarreler_24 : decode cX12_readQuarreler 24 = .ok (.sipush 1440, 3) := by decide +kernel
theorem dX12_readQuarreler_27 : decode cX12_readQuarreler 27 = .ok (.iload_n 1, 1) := by decide +kernel
theorem dX12_readQuarreler_28 : decode cX12_readQuarreler 28 = .ok (.invokevirtual 239, 3) := by decide +kernel
theorem dX12_readQuarreler_31 : decode cX12_readQuarreler 31 = .ok (.iconst 4, 1) := by decide +kernel
theorem dX12_readQuarreler_32 : decode cX12_readQuarreler 32 = .ok (.if_icmp .ne 12, 3) := by decide +kernel
theorem dX12_readQuarreler_35 : decode cX12_readQuarreler 35 = .ok (.aload_n 0, 1) := by decide +kernel
theorem dX12_readQuarreler_36 : decode cX12_readQuarreler 36 = .ok (.iconst 5, 1) := by decide +kernel
theorem dX12_readQuarreler_37 : decode cX12_readQuarreler 37 = .ok (.aload_n 0, 1) := by decide +kernel
theorem dX12_readQuarreler_38 : decode cX12_readQuarreler 38 = .ok (.getfield 120, 3) := by decide +kernel
theorem dX12_readQuarreler_41 : decode cX12_readQuarreler 41 = .ok (.invokevirtual 215, 3) := by decide +kernel
theorem dX12_readQuarreler_44 : decode cX12_readQuarreler 44 = .ok (.iload_n 1, 1) := by decide +kernel
theorem dX12_readQuarreler_45 : decode cX12_readQuarreler 45 = .ok (.ireturn, 1) := by decide +kernel
theorem dX12_readSettle_0 : decode cX12_readSettle 0 = .ok (.aload_n 0, 1) := by decide +kernel
theorem dX12_readSettle_1 : decode cX12_readSettle 1 = .ok (.aload_n 0, 1) := by decide +kernel
theorem dX12_readSettle_2 : decode cX12_readSettle 2 = .ok (.invokevirtual 170, 3) := by decide +kernel
theorem dX12_readSettle_5 : decode cX12_readSettle 5 = .ok (.invokevirtual 252, 3) := by decide +kernel
theorem dX12_readSettle_8 : decode cX12_readSettle 8 = .ok (.aload_n 0, 1) := by decide +kernel
theorem dX12_readSettle_9 : decode cX12_readSettle 9 = .ok (.invokevirtual 259, 3) := by decide +kernel
theorem dX12_readSettle_12 : decode cX12_readSettle 12 = .ok (.istore_n 2, 1) := by decide +kernel
theorem dX12_readSettle_13 : decode cX12_readSettle 13 = .ok (.aload_n 0, 1) := by decide +kernel
theorem dX12_readSettle_14 : decode cX12_readSettle 14 = .ok (.iconst 1, 1) := by decide +kernel
theorem dX12_readSettle_15 : decode cX12_readSettle 15 = .ok (.invokevirtual 252, 3) := by decide +kernel
theorem dX12_readSettle_18 : decode cX12_readSettle 18 = .ok (.aload_n 0, 1) := by decide +kernel
theorem dX12_readSettle_19 : decode cX12_readSettle 19 = .ok (.aload_n 0, 1) := by decide +kernel
theorem dX12_readSettle_20 : decode cX12_readSettle 20 = .ok (.invokevirtual 173, 3) := by decide +kernel
theorem dX12_readSettle_23 : decode cX12_readSettle 23 = .ok (.invokevirtual 252, 3) := by decide +kernel
theorem dX12_readSettle_26 : decode cX12_readSettle 26 = .ok (.aload_n 0, 1) := by decide +kernel
theorem dX12_readSettle_27 : decode cX12_readSettle 27 = .ok (.invokevirtual 259, 3) := by decide +kernel
theorem dX12_readSettle_30 : decode cX12_readSettle 30 = .ok (.istore_n 3, 1) := by decide +kernel
theorem dX12_readSettle_31 : decode cX12_readSettle 31 = .ok (.aload_n 0, 1) := by decide +kernel
theorem dX12_readSettle_32 : decode cX12_readSettle 32 = .ok (.getfield 209, 3) := by decide +kernel
theorem dX12_readSettle_35 : decode cX12_readSettle 35 = .ok (.ifCond .ne 24, 3) := by decide +kernel
theorem dX12_readSettle_38 : decode cX12_readSettle 38 = .ok (.aload_n 0, 1) := by decide +kernel
theorem dX12_readSettle_39 : decode cX12_readSettle 39 = .ok (.sipush 1440, 3) := by decide +kernel
theorem dX12_readSettle_42 : decode cX12_readSettle 42 = .ok (.iload_n 2, 1) := by decide +kernel
theorem dX12_readSettle_43 : decode cX12_readSettle 43 = .ok (.iload_n 3, 1) := by decide +kernel
theorem dX12_readSettle_44 : decode cX12_readSettle 44 = .ok (.invokevirtual 262, 3) := by decide +kernel
theorem dX12_readSettle_47 : decode cX12_readSettle 47 = .ok (.ifCond .ne 12, 3) := by decide +kernel
theorem dX12_readSettle_50 : decode cX12_readSettle 50 = .ok (.aload_n 0, 1) := by decide +kernel
theorem dX12_readSettle_51 : decode cX12_readSettle 51 = .ok (.iconst 5, 1) := by decide +kernel
theorem dX12_readSettle_52 : decode cX12_readSettle 52 = .ok (.aload_n 0, 1) := by decide +kernel
theorem dX12_readSettle_53 : decode cX12_readSettle 53 = .ok (.getfield 120, 3) := by decide +kernel
theorem dX12_readSettle_56 : decode cX12_readSettle 56 = .ok (.invokevirtual 215, 3) := by decide +kernel
theorem dX12_readSettle_59 : decode cX12_readSettle 59 = .ok (.aload_n 0, 1) := by decide +kernel
theorem dX12_readSettle_60 : decode cX12_readSettle 60 = .ok (.iconst 1, 1) := by decide +kernel
theorem dX12_readSettle_61 : decode cX12_readSettle 61 = .ok (.invokevirtual 252, 3) := by decide +kernel
theorem dX12_readSettle_64 : decode cX12_readSettle 64 = .ok (.aload_n 0, 1) := by decide +kernel
theorem dX12_readSettle_65 : decode cX12_readSettle 65 = .ok (.getfield 209, 3) := by decide +kernel
theorem dX12_readSettle_68 : decode cX12_readSettle 68 = .ok (.ifCond .le 5, 3) := by decide +kernel
theorem dX12_readSettle_71 : decode cX12_readSettle 71 = .ok (.iconst 0, 1) := by decide +kernel
theorem dX12_readSettle_72 : decode cX12_readSettle 72 = .ok (.ireturn, 1) := by decide +kernel
theorem dX12_readSettle_73 : decode cX12_readSettle 73 = .ok (.aload_n 0, 1) := by decide +kernel
theorem dX12_readSettle_74 : decode cX12_readSettle 74 = .ok (.getfield 35, 3) := by decide +kernel
theorem dX12_readSettle_77 : decode cX12_readSettle 77 = .ok (.sipush 1490, 3) := by decide +kernel
theorem dX12_readSettle_80 : decode cX12_readSettle 80 = .ok (.iload_n 1, 1) := by decide +kernel
theorem dX12_readSettle_81 : decode cX12_readSettle 81 = .ok (.iadd, 1) := by decide +kernel
theorem dX12_readSettle_82 : decode cX12_readSettle 82 = .ok (.iload_n 2, 1) := by decide +kernel
theorem dX12_readSettle_83 : decode cX12_readSettle 83 = .ok (.iastore, 1) := by decide +kernel
theorem dX12_readSettle_84 : decode cX12_readSettle 84 = .ok (.aload_n 0, 1) := by decide +kernel
theorem dX12_readSettle_85 : decode cX12_readSettle 85 = .ok (.getfield 35, 3) := by decide +kernel
theorem dX12_readSettle_88 : decode cX12_readSettle 88 = .ok (.sipush 1506, 3) := by decide +kernel
theorem dX12_readSettle_91 : decode cX12_readSettle 91 = .ok (.iload_n 1, 1) := by decide +kernel
theorem dX12_readSettle_92 : decode cX12_readSettle 92 = .ok (.iadd, 1) := by decide +kernel
theorem dX12_readSettle_93 : decode cX12_readSettle 93 = .ok (.iload_n 3, 1) := by decide +kernel
theorem dX12_readSettle_94 : decode cX12_readSettle 94 = .ok (.iastore, 1) := by decide +kernel
theorem dX12_readSettle_95 : decode cX12_readSettle 95 = .ok (.iconst 1, 1) := by decide +kernel
theorem dX12_readSettle_96 : decode cX12_readSettle 96 = .ok (.iload_n 2, 1) := by decide +kernel
theorem dX12_readSettle_97 : decode cX12_readSettle 97 = .ok (.ishl, 1) := by decide +kernel
theorem dX12_readSettle_98 : decode cX12_readSettle 98 = .ok (.iconst 1, 1) := by decide +kernel
theorem dX12_readSettle_99 : decode cX12_readSettle 99 = .ok (.iload_n 3, 1) := by decide +kernel
theorem dX12_readSettle_100 : decode cX12_readSettle 100 = .ok (.ishl, 1) := by decide +kernel
theorem dX12_readSettle_101 : decode cX12_readSettle 101 = .ok (.ior, 1) := by decide +kernel
theorem dX12_readSettle_102 : decode cX12_readSettle 102 = .ok (.ireturn, 1) := by decide +kernel
theorem dX12_readWhat_0 : decode cX12_readWhat 0 = .ok (.iload_n 1, 1) := by decide +kernel
theorem dX12_readWhat_1 : decode cX12_readWhat 1 = .ok (.iconst 4, 1) := by decide +kernel
theorem dX12_readWhat_2 : decode cX12_readWhat 2 = .ok (.if_icmp .ne 9, 3) := by decide +kernel
theorem dX12_readWhat_5 : decode cX12_readWhat 5 = .ok (.aload_n 0, 1) := by decide +kernel
theorem dX12_readWhat_6 : decode cX12_readWhat 6 = .ok (.iload_n 2, 1) := by decide +kernel
theorem dX12_readWhat_7 : decode cX12_readWhat 7 = .ok (.invokevirtual 266, 3) := by decide +kernel
theorem dX12_readWhat_10 : decode cX12_readWhat 10 = .ok (.ireturn, 1) := by decide +kernel
theorem dX12_readWhat_11 : decode cX12_readWhat 11 = .ok (.iconst 0, 1) := by decide +kernel
theorem dX12_readWhat_12 : decode cX12_readWhat 12 = .ok (.istore_n 3, 1) := by decide +kernel
theorem dX12_readWhat_13 : decode cX12_readWhat 13 = .ok (.iload_n 1, 1) := by decide +kernel
theorem dX12_readWhat_14 : decode cX12_readWhat 14 = .ok (.ifCond .eq 41, 3) := by decide +kernel
theorem dX12_readWhat_17 : decode cX12_readWhat 17 = .ok (.aload_n 0, 1) := by decide +kernel
theorem dX12_readWhat_18 : decode cX12_readWhat 18 = .ok (.getfield 35, 3) := by decide +kernel
theorem dX12_readWhat_21 : decode cX12_readWhat 21 = .ok (.sipush 1490, 3) := by decide +kernel
theorem dX12_readWhat_24 : decode cX12_readWhat 24 = .ok (.iload_n 2, 1) := by decide +kernel
theorem dX12_readWhat_25 : decode cX12_readWhat 25 = .ok (.iadd, 1) := by decide +kernel
theorem dX12_readWhat_26 : decode cX12_readWhat 26 = .ok (.aload_n 0, 1) := by decide +kernel
theorem dX12_readWhat_27 : decode cX12_readWhat 27 = .ok (.invokevirtual 269, 3) := by decide +kernel
theorem dX12_readWhat_30 : decode cX12_readWhat 30 = .ok (.iastore, 1) := by decide +kernel
theorem dX12_readWhat_31 : decode cX12_readWhat 31 = .ok (.aload_n 0, 1) := by decide +kernel
theorem dX12_readWhat_32 : decode cX12_readWhat 32 = .ok (.getfield 209, 3) := by decide +kernel
theorem dX12_readWhat_35 : decode cX12_readWhat 35 = .ok (.ifCond .ne 18, 3) := by decide +kernel
theorem dX12_readWhat_38 : decode cX12_readWhat 38 = .ok (.iconst 1, 1) := by decide +kernel
theorem dX12_readWhat_39 : decode cX12_readWhat 39 = .ok (.aload_n 0, 1) := by decide +kernel
theorem dX12_readWhat_40 : decode cX12_readWhat 40 = .ok (.getfield 35, 3) := by decide +kernel
theorem dX12_readWhat_43 : decode cX12_readWhat 43 = .ok (.sipush 1490, 3) := by decide +kernel
theorem dX12_readWhat_46 : decode cX12_readWhat 46 = .ok (.iload_n 2, 1) := by decide +kernel
theorem dX12_readWhat_47 : decode cX12_readWhat 47 = .ok (.iadd, 1) := by decide +kernel
theorem dX12_readWhat_48 : decode cX12_readWhat 48 = .ok (.iaload, 1) := by decide +kernel
theorem dX12_readWhat_49 : decode cX12_readWhat 49 = .ok (.ishl, 1) := by decide +kernel
theorem dX12_readWhat_50 : decode cX12_readWhat 50 = .ok (.goto 4, 3) := by decide +kernel
theorem dX12_readWhat_53 : decode cX12_readWhat 53 = .ok (.iconst 0, 1) := by decide +kernel
theorem dX12_readWhat_54 : decode cX12_readWhat 54 = .ok (.istore_n 3, 1) := by decide +kernel
theorem dX12_readWhat_55 : decode cX12_readWhat 55 = .ok (.iload_n 1, 1) := by decide +kernel
theorem dX12_readWhat_56 : decode cX12_readWhat 56 = .ok (.ifCond .eq 8, 3) := by decide +kernel
theorem dX12_readWhat_59 : decode cX12_readWhat 59 = .ok (.iload_n 1, 1) := by decide +kernel
theorem dX12_readWhat_60 : decode cX12_readWhat 60 = .ok (.iconst 3, 1) := by decide +kernel
theorem dX12_readWhat_61 : decode cX12_readWhat 61 = .ok (.if_icmp .ne 29, 3) := by decide +kernel
theorem dX12_readWhat_64 : decode cX12_readWhat 64 = .ok (.aload_n 0, 1) := by decide +kernel
theorem dX12_readWhat_65 : decode cX12_readWhat 65 = .ok (.aload_n 0, 1) := by decide +kernel
theorem dX12_readWhat_66 : decode cX12_readWhat 66 = .ok (.invokevirtual 164, 3) := by decide +kernel
theorem dX12_readWhat_69 : decode cX12_readWhat 69 = .ok (.invokevirtual 252, 3) := by decide +kernel
theorem dX12_readWhat_72 : decode cX12_readWhat 72 = .ok (.aload_n 0, 1) := by decide +kernel
theorem dX12_readWhat_73 : decode cX12_readWhat 73 = .ok (.getfield 35, 3) := by decide +kernel
theorem dX12_readWhat_76 : decode cX12_readWhat 76 = .ok (.sipush 1458, 3) := by decide +kernel
theorem dX12_readWhat_79 : decode cX12_readWhat 79 = .ok (.iload_n 2, 1) := by decide +kernel
theorem dX12_readWhat_80 : decode cX12_readWhat 80 = .ok (.iadd, 1) := by decide +kernel
theorem dX12_readWhat_81 : decode cX12_readWhat 81 = .ok (.aload_n 0, 1) := by decide +kernel
theorem dX12_readWhat_82 : decode cX12_readWhat 82 = .ok (.iconst 0, 1) := by decide +kernel
theorem dX12_readWhat_83 : decode cX12_readWhat 83 = .ok (.sipush 9999, 3) := by decide +kernel
theorem dX12_readWhat_86 : decode cX12_readWhat 86 = .ok (.invokevirtual 272, 3) := by decide +kernel
theorem dX12_readWhat_89 : decode cX12_readWhat 89 = .ok (.iastore, 1) := by decide +kernel
theorem dX12_readWhat_90 : decode cX12_readWhat 90 = .ok (.iload_n 1, 1) := by decide +kernel
theorem dX12_readWhat_91 : decode cX12_readWhat 91 = .ok (.ifCond .eq 8, 3) := by decide +kernel
theorem dX12_readWhat_94 : decode cX12_readWhat 94 = .ok (.iload_n 1, 1) := by decide +kernel
theorem dX12_readWhat_95 : decode cX12_readWhat 95 = .ok (.iconst 2, 1) := by decide +kernel
theorem dX12_readWhat_96 : decode cX12_readWhat 96 = .ok (.if_icmp .ne 29, 3) := by decide +kernel
theorem dX12_readWhat_99 : decode cX12_readWhat 99 = .ok (.aload_n 0, 1) := by decide +kernel
theorem dX12_readWhat_100 : decode cX12_readWhat 100 = .ok (.aload_n 0, 1) := by decide +kernel
theorem dX12_readWhat_101 : decode cX12_readWhat 101 = .ok (.invokevirtual 167, 3) := by decide +kernel
theorem dX12_readWhat_104 : decode cX12_readWhat 104 = .ok (.invokevirtual 252, 3) := by decide +kernel
theorem dX12_readWhat_107 : decode cX12_readWhat 107 = .ok (.aload_n 0, 1) := by decide +kernel
theorem dX12_readWhat_108 : decode cX12_readWhat 108 = .ok (.getfield 35, 3) := by decide +kernel
theorem dX12_readWhat_111 : decode cX12_readWhat 111 = .ok (.sipush 1474, 3) := by decide +kernel
theorem dX12_readWhat_114 : decode cX12_readWhat 114 = .ok (.iload_n 2, 1) := by decide +kernel
theorem dX12_readWhat_115 : decode cX12_readWhat 115 = .ok (.iadd, 1) := by decide +kernel
theorem dX12_readWhat_116 : decode cX12_readWhat 116 = .ok (.aload_n 0, 1) := by decide +kernel
theorem dX12_readWhat_117 : decode cX12_readWhat 117 = .ok (.iconst 0, 1) := by decide +kernel
theorem dX12_readWhat_118 : decode cX12_readWhat 118 = .ok (.sipush 9999, 3) := by decide +kernel
theorem dX12_readWhat_121 : decode cX12_readWhat 121 = .ok (.invokevirtual 272, 3) := by decide +kernel
theorem dX12_readWhat_124 : decode cX12_readWhat 124 = .ok (.iastore, 1) := by decide +kernel
theorem dX12_readWhat_125 : decode cX12_readWhat 125 = .ok (.iload_n 3, 1) := by decide +kernel
theorem dX12_readWhat_126 : decode cX12_readWhat 126 = .ok (.ireturn, 1) := by decide +kernel
theorem dX12_readAfter_0 : decode cX12_readAfter 0 = .ok (.aload_n 0, 1) := by decide +kernel
theorem dX12_readAfter_1 : decode cX12_readAfter 1 = .ok (.getfield 209, 3) := by decide +kernel
theorem dX12_readAfter_4 : decode cX12_readAfter 4 = .ok (.ifCond .gt 10, 3) := by decide +kernel
theorem dX12_readAfter_7 : decode cX12_readAfter 7 = .ok (.aload_n 0, 1) := by decide +kernel
theorem dX12_readAfter_8 : decode cX12_readAfter 8 = .ok (.invokevirtual 176, 3) := by decide +kernel
theorem dX12_readAfter_11 : decode cX12_readAfter 11 = .ok (.ifCond .ne 5, 3) := by decide +kernel
theorem dX12_readAfter_14 : decode cX12_readAfter 14 = .ok (.iconst 0, 1) := by decide +kernel
theorem dX12_readAfter_15 : decode cX12_readAfter 15 = .ok (.ireturn, 1) := by decide +kernel
theorem dX12_readAfter_16 : decode cX12_readAfter 16 = .ok (.aload_n 0, 1) := by decide +kernel
theorem dX12_readAfter_17 : decode cX12_readAfter 17 = .ok (.invokevirtual 219, 3) := by decide +kernel
theorem dX12_readAfter_20 : decode cX12_readAfter 20 = .ok (.iconst 0, 1) := by decide +kernel
theorem dX12_readAfter_21 : decode cX12_readAfter 21 = .ok (.istore_n 1, 1) := by decide +kernel
theorem dX12_readAfter_22 : decode cX12_readAfter 22 = .ok (.iconst 1, 1) := by decide +kernel
theorem dX12_readAfter_23 : decode cX12_readAfter 23 = .ok (.istore_n 2, 1) := by decide +kernel
theorem dX12_readAfter_24 : decode cX12_readAfter 24 = .ok (.iload_n 2, 1) := by decide +kernel
theorem dX12_readAfter_25 : decode cX12_readAfter 25 = .ok (.ifCond .eq 79, 3) := by decide +kernel
theorem dX12_readAfter_28 : decode cX12_readAfter 28 = .ok (.aload_n 0, 1) := by decide +kernel
theorem dX12_readAfter_29 : decode cX12_readAfter 29 = .ok (.getfield 209, 3) := by decide +kernel
theorem dX12_readAfter_32 : decode cX12_readAfter 32 = .ok (.ifCond .ne 72, 3) := by decide +kernel
theorem dX12_readAfter_35 : decode cX12_readAfter 35 = .ok (.aload_n 0, 1) := by decide +kernel
theorem dX12_readAfter_36 : decode cX12_readAfter 36 = .ok (.invokevirtual 256, 3) := by decide +kernel
theorem dX12_readAfter_39 : decode cX12_readAfter 39 = .ok (.istore_n 3, 1) := by decide +kernel
theorem dX12_readAfter_40 : decode cX12_readAfter 40 = .ok (.aload_n 0, 1) := by decide +kernel
theorem dX12_readAfter_41 : decode cX12_readAfter 41 = .ok (.getfield 209, 3) := by decide +kernel
theorem dX12_readAfter_44 : decode cX12_readAfter 44 = .ok (.ifCond .ne 21, 3) := by decide +kernel
theorem dX12_readAfter_47 : decode cX12_readAfter 47 = .ok (.iload_n 1, 1) := by decide +kernel
theorem dX12_readAfter_48 : decode cX12_readAfter 48 = .ok (.iload_n 3, 1) := by decide +kernel
theorem dX12_readAfter_49 : decode cX12_readAfter 49 = .ok (.ishr, 1) := by decide +kernel
theorem dX12_readAfter_50 : decode cX12_readAfter 50 = .ok (.iconst 1, 1) := by decide +kernel
theorem dX12_readAfter_51 : decode cX12_readAfter 51 = .ok (.iand, 1) := by decide +kernel
theorem dX12_readAfter_52 : decode cX12_readAfter 52 = .ok (.iconst 1, 1) := by decide +kernel
theorem dX12_readAfter_53 : decode cX12_readAfter 53 = .ok (.if_icmp .ne 12, 3) := by decide +kernel
theorem dX12_readAfter_56 : decode cX12_readAfter 56 = .ok (.aload_n 0, 1) := by decide +kernel
theorem dX12_readAfter_57 : decode cX12_readAfter 57 = .ok (.iconst 5, 1) := by decide +kernel
theorem dX12_readAfter_58 : decode cX12_readAfter 58 = .ok (.aload_n 0, 1) := by decide +kernel
theorem dX12_readAfter_59 : decode cX12_readAfter 59 = .ok (.getfield 120, 3) := by decide +kernel
theorem dX12_readAfter_62 : decode cX12_readAfter 62 = .ok (.invokevirtual 215, 3) := by decide +kernel
theorem dX12_readAfter_65 : decode cX12_readAfter 65 = .ok (.aload_n 0, 1) := by decide +kernel
theorem dX12_readAfter_66 : decode cX12_readAfter 66 = .ok (.iconst 1, 1) := by decide +kernel
theorem dX12_readAfter_67 : decode cX12_readAfter 67 = .ok (.invokevirtual 252, 3) := by decide +kernel
theorem dX12_readAfter_70 : decode cX12_readAfter 70 = .ok (.iload_n 1, 1) := by decide +kernel
theorem dX12_readAfter_71 : decode cX12_readAfter 71 = .ok (.aload_n 0, 1) := by decide +kernel
theorem dX12_readAfter_72 : decode cX12_readAfter 72 = .ok (.getfield 209, 3) := by decide +kernel
theorem dX12_readAfter_75 : decode cX12_readAfter 75 = .ok (.ifCond .ne 9, 3) := by decide +kernel
theorem dX12_readAfter_78 : decode cX12_readAfter 78 = .ok (.iconst 1, 1) := by decide +kernel
theorem dX12_readAfter_79 : decode cX12_readAfter 79 = .ok (.iload_n 3, 1) := by decide +kernel
theorem dX12_readAfter_80 : decode cX12_readAfter 80 = .ok (.ishl, 1) := by decide +kernel
theorem dX12_readAfter_81 : decode cX12_readAfter 81 = .ok (.goto 4, 3) := by decide +kernel
theorem dX12_readAfter_84 : decode cX12_readAfter 84 = .ok (.iconst 0, 1) := by decide +kernel
theorem dX12_readAfter_85 : decode cX12_readAfter 85 = .ok (.ior, 1) := by decide +kernel
theorem dX12_readAfter_86 : decode cX12_readAfter 86 = .ok (.istore_n 1, 1) := by decide +kernel
theorem dX12_readAfter_87 : decode cX12_readAfter 87 = .ok (.aload_n 0, 1) := by decide +kernel
theorem dX12_readAfter_88 : decode cX12_readAfter 88 = .ok (.getfield 126, 3) := by decide +kernel
theorem dX12_readAfter_91 : decode cX12_readAfter 91 = .ok (.iconst 1, 1) := by decide +kernel
theorem dX12_readAfter_92 : decode cX12_readAfter 92 = .ok (.if_icmp .ne 7, 3) := by decide +kernel
theorem dX12_readAfter_95 : decode cX12_readAfter 95 = .ok (.iconst 1, 1) := by decide +kernel
theorem dX12_readAfter_96 : decode cX12_readAfter 96 = .ok (.goto 4, 3) := by decide +kernel
theorem dX12_readAfter_99 : decode cX12_readAfter 99 = .ok (.iconst 0, 1) := by decide +kernel
theorem dX12_readAfter_100 : decode cX12_readAfter 100 = .ok (.istore_n 2, 1) := by decide +kernel
theorem dX12_readAfter_101 : decode cX12_readAfter 101 = .ok (.goto (-77), 3) := by decide +kernel
theorem dX12_readAfter_104 : decode cX12_readAfter 104 = .ok (.iload_n 1, 1) := by decide +kernel
theorem dX12_readAfter_105 : decode cX12_readAfter 105 = .ok (.ireturn, 1) := by decide +kernel
theorem dX12_readChange_0 : decode cX12_readChange 0 = .ok (.aload_n 0, 1) := by decide +kernel
theorem dX12_readChange_1 : decode cX12_readChange 1 = .ok (.getfield 35, 3) := by decide +kernel
theorem dX12_readChange_4 : decode cX12_readChange 4 = .ok (.sipush 1440, 3) := by decide +kernel
theorem dX12_readChange_7 : decode cX12_readChange 7 = .ok (.iaload, 1) := by decide +kernel
theorem dX12_readChange_8 : decode cX12_readChange 8 = .ok (.istore_n 1, 1) := by decide +kernel
theorem dX12_readChange_9 : decode cX12_readChange 9 = .ok (.iload_n 1, 1) := by decide +kernel
theorem dX12_readChange_10 : decode cX12_readChange 10 = .ok (.bipush 16, 2) := by decide +kernel
theorem dX12_readChange_12 : decode cX12_readChange 12 = .ok (.if_icmp .ne 13, 3) := by decide +kernel
theorem dX12_readChange_15 : decode cX12_readChange 15 = .ok (.aload_n 0, 1) := by decide +kernel
theorem dX12_readChange_16 : decode cX12_readChange 16 = .ok (.bipush 6, 2) := by decide +kernel
theorem dX12_readChange_18 : decode cX12_readChange 18 = .ok (.aload_n 0, 1) := by decide +kernel
theorem dX12_readChange_19 : decode cX12_readChange 19 = .ok (.getfield 120, 3) := by decide +kernel
theorem dX12_readChange_22 : decode cX12_readChange 22 = .ok (.invokevirtual 215, 3) := by decide +kernel
theorem dX12_readChange_25 : decode cX12_readChange 25 = .ok (.aload_n 0, 1) := by decide +kernel
theorem dX12_readChange_26 : decode cX12_readChange 26 = .ok (.getfield 209, 3) := by decide +kernel
theorem dX12_readChange_29 : decode cX12_readChange 29 = .ok (.ifCond .le 4, 3) := by decide +kernel
theorem dX12_readChange_32 : decode cX12_readChange 32 = .ok (.return_, 1) := by decide +kernel
theorem dX12_readChange_33 : decode cX12_readChange 33 = .ok (.aload_n 0, 1) := by decide +kernel
theorem dX12_readChange_34 : decode cX12_readChange 34 = .ok (.invokevirtual 160, 3) := by decide +kernel
theorem dX12_readChange_37 : decode cX12_readChange 37 = .ok (.istore_n 2, 1) := by decide +kernel
theorem dX12_readChange_38 : decode cX12_readChange 38 = .ok (.aload_n 0, 1) := by decide +kernel
theorem dX12_readChange_39 : decode cX12_readChange 39 = .ok (.iconst 0, 1) := by decide +kernel
theorem dX12_readChange_40 : decode cX12_readChange 40 = .ok (.iload_n 1, 1) := by decide +kernel
theorem dX12_readChange_41 : decode cX12_readChange 41 = .ok (.invokevirtual 275, 3) := by decide +kernel
theorem dX12_readChange_44 : decode cX12_readChange 44 = .ok (.aload_n 0, 1) := by decide +kernel
theorem dX12_readChange_45 : decode cX12_readChange 45 = .ok (.getfield 209, 3) := by decide +kernel
theorem dX12_readChange_48 : decode cX12_readChange 48 = .ok (.ifCond .le 4, 3) := by decide +kernel
theorem dX12_readChange_51 : decode cX12_readChange 51 = .ok (.return_, 1) := by decide +kernel
theorem dX12_readChange_52 : decode cX12_readChange 52 = .ok (.aload_n 0, 1) := by decide +kernel
theorem dX12_readChange_53 : decode cX12_readChange 53 = .ok (.getfield 35, 3) := by decide +kernel
theorem dX12_readChange_56 : decode cX12_readChange 56 = .ok (.sipush 1442, 3) := by decide +kernel
theorem dX12_readChange_59 : decode cX12_readChange 59 = .ok (.iload_n 1, 1) := by decide +kernel
theorem dX12_readChange_60 : decode cX12_readChange 60 = .ok (.iadd, 1) := by decide +kernel
theorem dX12_readChange_61 : decode cX12_readChange 61 = .ok (.iload_n 2, 1) := by decide +kernel
theorem dX12_readChange_62 : decode cX12_readChange 62 = .ok (.iastore, 1) := by decide +kernel
theorem dX12_readChange_63 : decode cX12_readChange 63 = .ok (.aload_n 0, 1) := by decide +kernel
theorem dX12_readChange_64 : decode cX12_readChange 64 = .ok (.iload_n 2, 1) := by decide +kernel
theorem dX12_readChange_65 : decode cX12_readChange 65 = .ok (.iload_n 1, 1) := by decide +kernel
theorem dX12_readChange_66 : decode cX12_readChange 66 = .ok (.invokevirtual 278, 3) := by decide +kernel
theorem dX12_readChange_69 : decode cX12_readChange 69 = .ok (.istore_n 3, 1) := by decide +kernel
theorem dX12_readChange_70 : decode cX12_readChange 70 = .ok (.iload_n 3, 1) := by decide +kernel
theorem dX12_readChange_71 : decode cX12_readChange 71 = .ok (.aload_n 0, 1) := by decide +kernel
theorem dX12_readChange_72 : decode cX12_readChange 72 = .ok (.invokevirtual 281, 3) := by decide +kernel
theorem dX12_readChange_75 : decode cX12_readChange 75 = .ok (.ior, 1) := by decide +kernel
theorem dX12_readChange_76 : decode cX12_readChange 76 = .ok (.istore_n 3, 1) := by decide +kernel
theorem dX12_readChange_77 : decode cX12_readChange 77 = .ok (.aload_n 0, 1) := by decide +kernel
theorem dX12_readChange_78 : decode cX12_readChange 78 = .ok (.getfield 209, 3) := by decide +kernel
theorem dX12_readChange_81 : decode cX12_readChange 81 = .ok (.ifCond .le 4, 3) := by decide +kernel
theorem dX12_readChange_84 : decode cX12_readChange 84 = .ok (.return_, 1) := by decide +kernel
theorem dX12_readChange_85 : decode cX12_readChange 85 = .ok (.aload_n 0, 1) := by decide +kernel
theorem dX12_readChange_86 : decode cX12_readChange 86 = .ok (.getfield 35, 3) := by decide +kernel
theorem dX12_readChange_89 : decode cX12_readChange 89 = .ok (.sipush 1522, 3) := by decide +kernel
theorem dX12_readChange_92 : decode cX12_readChange 92 = .ok (.iload_n 1, 1) := by decide +kernel
theorem dX12_readChange_93 : decode cX12_readChange 93 = .ok (.iadd, 1) := by decide +kernel
theorem dX12_readChange_94 : decode cX12_readChange 94 = .ok (.iload_n 3, 1) := by decide +kernel
theorem dX12_readChange_95 : decode cX12_readChange 95 = .ok (.iastore, 1) := by decide +kernel
theorem dX12_readChange_96 : decode cX12_readChange 96 = .ok (.iload_n 3, 1) := by decide +kernel
theorem dX12_readChange_97 : decode cX12_readChange 97 = .ok (.istore 4, 2) := by decide +kernel
theorem dX12_readChange_99 : decode cX12_readChange 99 = .ok (.iconst 0, 1) := by decide +kernel
theorem dX12_readChange_100 : decode cX12_readChange 100 = .ok (.istore 5, 2) := by decide +kernel
theorem dX12_readChange_102 : decode cX12_readChange 102 = .ok (.iload 5, 2) := by decide +kernel
theorem dX12_readChange_104 : decode cX12_readChange 104 = .ok (.iload_n 1, 1) := by decide +kernel
theorem dX12_readChange_105 : decode cX12_readChange 105 = .ok (.if_icmp .ge 37, 3) := by decide +kernel
theorem dX12_readChange_108 : decode cX12_readChange 108 = .ok (.iload 4, 2) := by decide +kernel
theorem dX12_readChange_110 : decode cX12_readChange 110 = .ok (.iload_n 3, 1) := by decide +kernel
theorem dX12_readChange_111 : decode cX12_readChange 111 = .ok (.iload 5, 2) := by decide +kernel
theorem dX12_readChange_113 : decode cX12_readChange 113 = .ok (.ishr, 1) := by decide +kernel
theorem dX12_readChange_114 : decode cX12_readChange 114 = .ok (.iconst 1, 1) := by decide +kernel
theorem dX12_readChange_115 : decode cX12_readChange 115 = .ok (.iand, 1) := by decide +kernel
theorem dX12_readChange_116 : decode cX12_readChange 116 = .ok (.iconst 1, 1) := by decide +kernel
theorem dX12_readChange_117 : decode cX12_readChange 117 = .ok (.if_icmp .ne 15, 3) := by decide +kernel
theorem dX12_readChange_120 : decode cX12_readChange 120 = .ok (.aload_n 0, 1) := by decide +kernel
theorem dX12_readChange_121 : decode cX12_readChange 121 = .ok (.sipush 1440, 3) := by decide +kernel
theorem dX12_readChange_124 : decode cX12_readChange 124 = .ok (.iload 5, 2) := by decide +kernel
theorem dX12_readChange_126 : decode cX12_readChange 126 = .ok (.invokevirtual 249, 3) := by decide +kernel
theorem dX12_readChange_129 : decode cX12_readChange 129 = .ok (.goto 4, 3) := by decide +kernel
theorem dX12_readChange_132 : decode cX12_readChange 132 = .ok (.iconst 0, 1) := by decide +kernel
theorem dX12_readChange_133 : decode cX12_readChange 133 = .ok (.ior, 1) := by decide +kernel
theorem dX12_readChange_134 : decode cX12_readChange 134 = .ok (.istore 4, 2) := by decide +kernel
theorem dX12_readChange_136 : decode cX12_readChange 136 = .ok (.iinc 5 1, 3) := by decide +kernel
theorem dX12_readChange_139 : decode cX12_readChange 139 = .ok (.goto (-37), 3) := by decide +kernel
theorem dX12_readChange_142 : decode cX12_readChange 142 = .ok (.aload_n 0, 1) := by decide +kernel
theorem dX12_readChange_143 : decode cX12_readChange 143 = .ok (.getfield 35, 3) := by decide +kernel
theorem dX12_readChange_146 : decode cX12_readChange 146 = .ok (.sipush 1538, 3) := by decide +kernel
theorem dX12_readChange_149 : decode cX12_readChange 149 = .ok (.iload_n 1, 1) := by decide +kernel
theorem dX12_readChange_150 : decode cX12_readChange 150 = .ok (.iadd, 1) := by decide +kernel
theorem dX12_readChange_151 : decode cX12_readChange 151 = .ok (.iload 4, 2) := by decide +kernel
theorem dX12_readChange_153 : decode cX12_readChange 153 = .ok (.iastore, 1) := by decide +kernel
theorem dX12_readChange_154 : decode cX12_readChange 154 = .ok (.aload_n 0, 1) := by decide +kernel
theorem dX12_readChange_155 : decode cX12_readChange 155 = .ok (.getfield 35, 3) := by decide +kernel
theorem dX12_readChange_158 : decode cX12_readChange 158 = .ok (.sipush 1440, 3) := by decide +kernel
theorem dX12_readChange_161 : decode cX12_readChange 161 = .ok (.dup2, 1) := by decide +kernel
theorem dX12_readChange_162 : decode cX12_readChange 162 = .ok (.iaload, 1) := by decide +kernel
theorem dX12_readChange_163 : decode cX12_readChange 163 = .ok (.iconst 1, 1) := by decide +kernel
theorem dX12_readChange_164 : decode cX12_readChange 164 = .ok (.iadd, 1) := by decide +kernel
theorem dX12_readChange_165 : decode cX12_readChange 165 = .ok (.iastore, 1) := by decide +kernel
theorem dX12_readChange_166 : decode cX12_readChange 166 = .ok (.return_, 1) := by decide +kernel
theorem dX12_readIsland_0 : decode cX12_readIsland 0 = .ok (.aload_n 0, 1) := by decide +kernel
theorem dX12_readIsland_1 : decode cX12_readIsland 1 = .ok (.getfield 35, 3) := by decide +kernel
theorem dX12_readIsland_4 : decode cX12_readIsland 4 = .ok (.sipush 1441, 3) := by decide +kernel
theorem dX12_readIsland_7 : decode cX12_readIsland 7 = .ok (.iaload, 1) := by decide +kernel
theorem dX12_readIsland_8 : decode cX12_readIsland 8 = .ok (.istore_n 1, 1) := by decide +kernel
theorem dX12_readIsland_9 : decode cX12_readIsland 9 = .ok (.iload_n 1, 1) := by decide +kernel
theorem dX12_readIsland_10 : decode cX12_readIsland 10 = .ok (.iconst 4, 1) := by decide +kernel
theorem dX12_readIsland_11 : decode cX12_readIsland 11 = .ok (.if_icmp .ne 13, 3) := by decide +kernel
theorem dX12_readIsland_14 : decode cX12_readIsland 14 = .ok (.aload_n 0, 1) := by decide +kernel
theorem dX12_readIsland_15 : decode cX12_readIsland 15 = .ok (.bipush 6, 2) := by decide +kernel
theorem dX12_readIsland_17 : decode cX12_readIsland 17 = .ok (.aload_n 0, 1) := by decide +kernel
theorem dX12_readIsland_18 : decode cX12_readIsland 18 = .ok (.getfield 120, 3) := by decide +kernel
theorem dX12_readIsland_21 : decode cX12_readIsland 21 = .ok (.invokevirtual 215, 3) := by decide +kernel
theorem dX12_readIsland_24 : decode cX12_readIsland 24 = .ok (.aload_n 0, 1) := by decide +kernel
theorem dX12_readIsland_25 : decode cX12_readIsland 25 = .ok (.getfield 209, 3) := by decide +kernel
theorem dX12_readIsland_28 : decode cX12_readIsland 28 = .ok (.ifCond .le 4, 3) := by decide +kernel
theorem dX12_readIsland_31 : decode cX12_readIsland 31 = .ok (.return_, 1) := by decide +kernel
theorem dX12_readIsland_32 : decode cX12_readIsland 32 = .ok (.aload_n 0, 1) := by decide +kernel
theorem dX12_readIsland_33 : decode cX12_readIsland 33 = .ok (.bipush 16, 2) := by decide +kernel
theorem dX12_readIsland_35 : decode cX12_readIsland 35 = .ok (.iload_n 1, 1) := by decide +kernel
theorem dX12_readIsland_36 : decode cX12_readIsland 36 = .ok (.invokevirtual 275, 3) := by decide +kernel
theorem dX12_readIsland_39 : decode cX12_readIsland 39 = .ok (.aload_n 0, 1) := by decide +kernel
theorem dX12_readIsland_40 : decode cX12_readIsland 40 = .ok (.getfield 209, 3) := by decide +kernel
theorem dX12_readIsland_43 : decode cX12_readIsland 43 = .ok (.ifCond .ne 15, 3) := by decide +kernel
theorem dX12_readIsland_46 : decode cX12_readIsland 46 = .ok (.aload_n 0, 1) := by decide +kernel
theorem dX12_readIsland_47 : decode cX12_readIsland 47 = .ok (.getfield 35, 3) := by decide +kernel
theorem dX12_readIsland_50 : decode cX12_readIsland 50 = .ok (.sipush 1441, 3) := by decide +kernel
theorem dX12_readIsland_53 : decode cX12_readIsland 53 = .ok (.dup2, 1) := by decide +kernel
theorem dX12_readIsland_54 : decode cX12_readIsland 54 = .ok (.iaload, 1) := by decide +kernel
theorem dX12_readIsland_55 : decode cX12_readIsland 55 = .ok (.iconst 1, 1) := by decide +kernel
theorem dX12_readIsland_56 : decode cX12_readIsland 56 = .ok (.iadd, 1) := by decide +kernel
theorem dX12_readIsland_57 : decode cX12_readIsland 57 = .ok (.iastore, 1) := by decide +kernel
theorem dX12_readIsland_58 : decode cX12_readIsland 58 = .ok (.return_, 1) := by decide +kernel
theorem dX12_book_0 : decode cX12_book 0 = .ok (.aload_n 0, 1) := by decide +kernel
theorem dX12_book_1 : decode cX12_book 1 = .ok (.iconst 0, 1) := by decide +kernel
theorem dX12_book_2 : decode cX12_book 2 = .ok (.putfield 75, 3) := by decide +kernel
theorem dX12_book_5 : decode cX12_book 5 = .ok (.aload_n 0, 1) := by decide +kernel
theorem dX12_book_6 : decode cX12_book 6 = .ok (.iconst 0, 1) := by decide +kernel
theorem dX12_book_7 : decode cX12_book 7 = .ok (.putfield 78, 3) := by decide +kernel
theorem dX12_book_10 : decode cX12_book 10 = .ok (.aload_n 0, 1) := by decide +kernel
theorem dX12_book_11 : decode cX12_book 11 = .ok (.iload_n 1, 1) := by decide +kernel
theorem dX12_book_12 : decode cX12_book 12 = .ok (.sipush 900, 3) := by decide +kernel
theorem dX12_book_15 : decode cX12_book 15 = .ok (.invokevirtual 284, 3) := by decide +kernel
theorem dX12_book_18 : decode cX12_book 18 = .ok (.ifCond .ne 5, 3) := by decide +kernel
theorem dX12_book_21 : decode cX12_book 21 = .ok (.iconst (-1), 1) := by decide +kernel
theorem dX12_book_22 : decode cX12_book 22 = .ok (.ireturn, 1) := by decide +kernel
theorem dX12_book_23 : decode cX12_book 23 = .ok (.iconst 0, 1) := by decide +kernel
theorem dX12_book_24 : decode cX12_book 24 = .ok (.istore_n 2, 1) := by decide +kernel
theorem dX12_book_25 : decode cX12_book 25 = .ok (.iload_n 2, 1) := by decide +kernel
theorem dX12_book_26 : decode cX12_book 26 = .ok (.sipush 360, 3) := by decide +kernel
theorem dX12_book_29 : decode cX12_book 29 = .ok (.if_icmp .ge 20, 3) := by decide +kernel
theorem dX12_book_32 : decode cX12_book 32 = .ok (.aload_n 0, 1) := by decide +kernel
theorem dX12_book_33 : decode cX12_book 33 = .ok (.getfield 35, 3) := by decide +kernel
theorem dX12_book_36 : decode cX12_book 36 = .ok (.sipush 1440, 3) := by decide +kernel
theorem dX12_book_39 : decode cX12_book 39 = .ok (.iload_n 2, 1) := by decide +kernel
theorem dX12_book_40 : decode cX12_book 40 = .ok (.iadd, 1) := by decide +kernel
theorem dX12_book_41 : decode cX12_book 41 = .ok (.iconst 0, 1) := by decide +kernel
theorem dX12_book_42 : decode cX12_book 42 = .ok (.iastore, 1) := by decide +kernel
theorem dX12_book_43 : decode cX12_book 43 = .ok (.iinc 2 1, 3) := by decide +kernel
theorem dX12_book_46 : decode cX12_book 46 = .ok (.goto (-21), 3) := by decide +kernel
theorem dX12_book_49 : decode cX12_book 49 = .ok (.aload_n 0, 1) := by decide +kernel
theorem dX12_book_50 : decode cX12_book 50 = .ok (.getfield 209, 3) := by decide +kernel
theorem dX12_book_53 : decode cX12_book 53 = .ok (.ifCond .ne 53, 3) := by decide +kernel
theorem dX12_book_56 : decode cX12_book 56 = .ok (.aload_n 0, 1) := by decide +kernel
theorem dX12_book_57 : decode cX12_book 57 = .ok (.getfield 126, 3) := by decide +kernel
theorem dX12_book_60 : decode cX12_book 60 = .ok (.ifCond .eq 46, 3) := by decide +kernel
theorem dX12_book_63 : decode cX12_book 63 = .ok (.aload_n 0, 1) := by decide +kernel
theorem dX12_book_64 : decode cX12_book 64 = .ok (.invokevirtual 156, 3) := by decide +kernel
theorem dX12_book_67 : decode cX12_book 67 = .ok (.ifCond .eq 10, 3) := by decide +kernel
theorem dX12_book_70 : decode cX12_book 70 = .ok (.aload_n 0, 1) := by decide +kernel
theorem dX12_book_71 : decode cX12_book 71 = .ok (.invokevirtual 287, 3) := by decide +kernel
theorem dX12_book_74 : decode cX12_book 74 = .ok (.goto 21, 3) := by decide +kernel
theorem dX12_book_77 : decode cX12_book 77 = .ok (.aload_n 0, 1) := by decide +kernel
theorem dX12_book_78 : decode cX12_book 78 = .ok (.invokevirtual 160, 3) := by decide +kernel
theorem dX12_book_81 : decode cX12_book 81 = .ok (.ifCond .lt 10, 3) := by decide +kernel
theorem dX12_book_84 : decode cX12_book 84 = .ok (.aload_n 0, 1) := by decide +kernel
theorem dX12_book_85 : decode cX12_book 85 = .ok (.invokevirtual 290, 3) := by decide +kernel
theorem dX12_book_88 : decode cX12_book 88 = .ok (.goto 7, 3) := by decide +kernel
theorem dX12_book_91 : decode cX12_book 91 = .ok (.aload_n 0, 1) := by decide +kernel
theorem dX12_book_92 : decode cX12_book 92 = .ok (.invokevirtual 222, 3) := by decide +kernel
theorem dX12_book_95 : decode cX12_book 95 = .ok (.aload_n 0, 1) := by decide +kernel
theorem dX12_book_96 : decode cX12_book 96 = .ok (.aload_n 0, 1) := by decide +kernel
theorem dX12_book_97 : decode cX12_book 97 = .ok (.invokevirtual 293, 3) := by decide +kernel
theorem dX12_book_100 : decode cX12_book 100 = .ok (.invokevirtual 252, 3) := by decide +kernel
theorem dX12_book_103 : decode cX12_book 103 = .ok (.goto (-54), 3) := by decide +kernel
theorem dX12_book_106 : decode cX12_book 106 = .ok (.aload_n 0, 1) := by decide +kernel
theorem dX12_book_107 : decode cX12_book 107 = .ok (.invokevirtual 296, 3) := by decide +kernel
theorem dX12_book_110 : decode cX12_book 110 = .ok (.ifCond .ne 5, 3) := by decide +kernel
theorem dX12_book_113 : decode cX12_book 113 = .ok (.iconst (-1), 1) := by decide +kernel
theorem dX12_book_114 : decode cX12_book 114 = .ok (.ireturn, 1) := by decide +kernel
theorem dX12_book_115 : decode cX12_book 115 = .ok (.iconst 0, 1) := by decide +kernel
theorem dX12_book_116 : decode cX12_book 116 = .ok (.istore_n 2, 1) := by decide +kernel
theorem dX12_book_117 : decode cX12_book 117 = .ok (.iload_n 2, 1) := by decide +kernel
theorem dX12_book_118 : decode cX12_book 118 = .ok (.sipush 360, 3) := by decide +kernel
theorem dX12_book_121 : decode cX12_book 121 = .ok (.if_icmp .ge 25, 3) := by decide +kernel
theorem dX12_book_124 : decode cX12_book 124 = .ok (.aload_n 0, 1) := by decide +kernel
theorem dX12_book_125 : decode cX12_book 125 = .ok (.getfield 35, 3) := by decide +kernel
theorem dX12_book_128 : decode cX12_book 128 = .ok (.iload_n 2, 1) := by decide +kernel
theorem dX12_book_129 : decode cX12_book 129 = .ok (.aload_n 0, 1) := by decide +kernel
theorem dX12_book_130 : decode cX12_book 130 = .ok (.getfield 35, 3) := by decide +kernel
theorem dX12_book_133 : decode cX12_book 133 = .ok (.sipush 1440, 3) := by decide +kernel
theorem dX12_book_136 : decode cX12_book 136 = .ok (.iload_n 2, 1) := by decide +kernel
theorem dX12_book_137 : decode cX12_book 137 = .ok (.iadd, 1) := by decide +kernel
theorem dX12_book_138 : decode cX12_book 138 = .ok (.iaload, 1) := by decide +kernel
theorem dX12_book_139 : decode cX12_book 139 = .ok (.iastore, 1) := by decide +kernel
theorem dX12_book_140 : decode cX12_book 140 = .ok (.iinc 2 1, 3) := by decide +kernel
theorem dX12_book_143 : decode cX12_book 143 = .ok (.goto (-26), 3) := by decide +kernel
theorem dX12_book_146 : decode cX12_book 146 = .ok (.iconst 0, 1) := by decide +kernel
theorem dX12_book_147 : decode cX12_book 147 = .ok (.istore_n 2, 1) := by decide +kernel
theorem dX12_book_148 : decode cX12_book 148 = .ok (.iload_n 2, 1) := by decide +kernel
theorem dX12_book_149 : decode cX12_book 149 = .ok (.bipush 20, 2) := by decide +kernel
theorem dX12_book_151 : decode cX12_book 151 = .ok (.if_icmp .ge 24, 3) := by decide +kernel
theorem dX12_book_154 : decode cX12_book 154 = .ok (.aload_n 0, 1) := by decide +kernel
theorem dX12_book_155 : decode cX12_book 155 = .ok (.getfield 38, 3) := by decide +kernel
theorem dX12_book_158 : decode cX12_book 158 = .ok (.iload_n 2, 1) := by decide +kernel
theorem dX12_book_159 : decode cX12_book 159 = .ok (.aload_n 0, 1) := by decide +kernel
theorem dX12_book_160 : decode cX12_book 160 = .ok (.getfield 38, 3) := by decide +kernel
theorem dX12_book_163 : decode cX12_book 163 = .ok (.bipush 80, 2) := by decide +kernel
theorem dX12_book_165 : decode cX12_book 165 = .ok (.iload_n 2, 1) := by decide +kernel
theorem dX12_book_166 : decode cX12_book 166 = .ok (.iadd, 1) := by decide +kernel
theorem dX12_book_167 : decode cX12_book 167 = .ok (.laload, 1) := by decide +kernel
theorem dX12_book_168 : decode cX12_book 168 = .ok (.lastore, 1) := by decide +kernel
theorem dX12_book_169 : decode cX12_book 169 = .ok (.iinc 2 1, 3) := by decide +kernel
theorem dX12_book_172 : decode cX12_book 172 = .ok (.goto (-24), 3) := by decide +kernel
theorem dX12_book_175 : decode cX12_book 175 = .ok (.aload_n 0, 1) := by decide +kernel
theorem dX12_book_176 : decode cX12_book 176 = .ok (.getfield 35, 3) := by decide +kernel
theorem dX12_book_179 : decode cX12_book 179 = .ok (.iconst 0, 1) := by decide +kernel
theorem dX12_book_180 : decode cX12_book 180 = .ok (.iaload, 1) := by decide +kernel
theorem dX12_book_181 : decode cX12_book 181 = .ok (.ireturn, 1) := by decide +kernel
theorem dX12_isChange_0 : decode cX12_isChange 0 = .ok (.iload_n 1, 1) := by decide +kernel
theorem dX12_isChange_1 : decode cX12_isChange 1 = .ok (.i2l, 1) := by decide +kernel
theorem dX12_isChange_2 : decode cX12_isChange 2 = .ok (.lconst 0, 1) := by decide +kernel
theorem dX12_isChange_3 : decode cX12_isChange 3 = .ok (.aload_n 0, 1) := by decide +kernel
theorem dX12_isChange_4 : decode cX12_isChange 4 = .ok (.getfield 35, 3) := by decide +kernel
theorem dX12_isChange_7 : decode cX12_isChange 7 = .ok (.iconst 0, 1) := by decide +kernel
theorem dX12_isChange_8 : decode cX12_isChange 8 = .ok (.iaload, 1) := by decide +kernel
theorem dX12_isChange_9 : decode cX12_isChange 9 = .ok (.iconst 1, 1) := by decide +kernel
theorem dX12_isChange_10 : decode cX12_isChange 10 = .ok (.isub, 1) := by decide +kernel
theorem dX12_isChange_11 : decode cX12_isChange 11 = .ok (.i2l, 1) := by decide +kernel
theorem dX12_isChange_12 : decode cX12_isChange 12 = .ok (.invokestatic 110, 3) := by decide +kernel
theorem dX12_isChange_15 : decode cX12_isChange 15 = .ok (.ireturn, 1) := by decide +kernel
theorem dX12_isSet_0 : decode cX12_isSet 0 = .ok (.iload_n 1, 1) := by decide +kernel
theorem dX12_isSet_1 : decode cX12_isSet 1 = .ok (.i2l, 1) := by decide +kernel
theorem dX12_isSet_2 : decode cX12_isSet 2 = .ok (.lconst 0, 1) := by decide +kernel
theorem dX12_isSet_3 : decode cX12_isSet 3 = .ok (.iconst 1, 1) := by decide +kernel
theorem dX12_isSet_4 : decode cX12_isSet 4 = .ok (.aload_n 0, 1) := by decide +kernel
theorem dX12_isSet_5 : decode cX12_isSet 5 = .ok (.getfield 35, 3) := by decide +kernel
theorem dX12_isSet_8 : decode cX12_isSet 8 = .ok (.iconst 0, 1) := by decide +kernel
theorem dX12_isSet_9 : decode cX12_isSet 9 = .ok (.iaload, 1) := by decide +kernel
theorem dX12_isSet_10 : decode cX12_isSet 10 = .ok (.ishl, 1) := by decide +kernel
theorem dX12_isSet_11 : decode cX12_isSet 11 = .ok (.iconst 1, 1) := by decide +kernel
theorem dX12_isSet_12 : decode cX12_isSet 12 = .ok (.isub, 1) := by decide +kernel
theorem dX12_isSet_13 : decode cX12_isSet 13 = .ok (.i2l, 1) := by decide +kernel
theorem dX12_isSet_14 : decode cX12_isSet 14 = .ok (.invokestatic 110, 3) := by decide +kernel
theorem dX12_isSet_17 : decode cX12_isSet 17 = .ok (.ireturn, 1) := by decide +kernel
theorem dX12_isIsland_0 : decode cX12_isIsland 0 = .ok (.iload_n 1, 1) := by decide +kernel
theorem dX12_isIsland_1 : decode cX12_isIsland 1 = .ok (.i2l, 1) := by decide +kernel
theorem dX12_isIsland_2 : decode cX12_isIsland 2 = .ok (.lconst 0, 1) := by decide +kernel
theorem dX12_isIsland_3 : decode cX12_isIsland 3 = .ok (.aload_n 0, 1) := by decide +kernel
theorem dX12_isIsland_4 : decode cX12_isIsland 4 = .ok (.getfield 35, 3) := by decide +kernel
theorem dX12_isIsland_7 : decode cX12_isIsland 7 = .ok (.iconst 1, 1) := by decide +kernel
theorem dX12_isIsland_8 : decode cX12_isIsland 8 = .ok (.iaload, 1) := by decide +kernel
theorem dX12_isIsland_9 : decode cX12_isIsland 9 = .ok (.iconst 1, 1) := by decide +kernel
theorem dX12_isIsland_10 : decode cX12_isIsland 10 = .ok (.isub, 1) := by decide +kernel
theorem dX12_isIsland_11 : decode cX12_isIsland 11 = .ok (.i2l, 1) := by decide +kernel
theorem dX12_isIsland_12 : decode cX12_isIsland 12 = .ok (.invokestatic 110, 3) := by decide +kernel
theorem dX12_isIsland_15 : decode cX12_isIsland 15 = .ok (.ireturn, 1) := by decide +kernel
theorem dX12_hasIn_0 : decode cX12_hasIn 0 = .ok (.iload_n 0, 1) := by decide +kernel
theorem dX12_hasIn_1 : decode cX12_hasIn 1 = .ok (.iload_n 1, 1) := by decide +kernel
theorem dX12_hasIn_2 : decode cX12_hasIn 2 = .ok (.ishr, 1) := by decide +kernel
theorem dX12_hasIn_3 : decode cX12_hasIn 3 = .ok (.iconst 1, 1) := by decide +kernel
theorem dX12_hasIn_4 : decode cX12_hasIn 4 = .ok (.iand, 1) := by decide +kernel
theorem dX12_hasIn_5 : decode cX12_hasIn 5 = .ok (.iconst 1, 1) := by decide +kernel
theorem dX12_hasIn_6 : decode cX12_hasIn 6 = .ok (.if_icmp .ne 7, 3) := by decide +kernel
theorem dX12_hasIn_9 : decode cX12_hasIn 9 = .ok (.iconst 1, 1) := by decide +kernel
theorem dX12_hasIn_10 : decode cX12_hasIn 10 = .ok (.goto 4, 3) := by decide +kernel
theorem dX12_hasIn_13 : decode cX12_hasIn 13 = .ok (.iconst 0, 1) := by decide +kernel
theorem dX12_hasIn_14 : decode cX12_hasIn 14 = .ok (.ireturn, 1) := by decide +kernel
theorem dX12_bits_0 : decode cX12_bits 0 = .ok (.iconst 0, 1) := by decide +kernel
theorem dX12_bits_1 : decode cX12_bits 1 = .ok (.istore_n 1, 1) := by decide +kernel
theorem dX12_bits_2 : decode cX12_bits 2 = .ok (.iconst 0, 1) := by decide +kernel
theorem dX12_bits_3 : decode cX12_bits 3 = .ok (.istore_n 2, 1) := by decide +kernel
theorem dX12_bits_4 : decode cX12_bits 4 = .ok (.iload_n 2, 1) := by decide +kernel
theorem dX12_bits_5 : decode cX12_bits 5 = .ok (.bipush 16, 2) := by decide +kernel
theorem dX12_bits_7 : decode cX12_bits 7 = .ok (.if_icmp .ge 17, 3) := by decide +kernel
theorem dX12_bits_10 : decode cX12_bits 10 = .ok (.iload_n 1, 1) := by decide +kernel
theorem dX12_bits_11 : decode cX12_bits 11 = .ok (.iload_n 0, 1) := by decide +kernel
theorem dX12_bits_12 : decode cX12_bits 12 = .ok (.iload_n 2, 1) := by decide +kernel
theorem dX12_bits_13 : decode cX12_bits 13 = .ok (.ishr, 1) := by decide +kernel
theorem dX12_bits_14 : decode cX12_bits 14 = .ok (.iconst 1, 1) := by decide +kernel
theorem dX12_bits_15 : decode cX12_bits 15 = .ok (.iand, 1) := by decide +kernel
theorem dX12_bits_16 : decode cX12_bits 16 = .ok (.iadd, 1) := by decide +kernel
theorem dX12_bits_17 : decode cX12_bits 17 = .ok (.istore_n 1, 1) := by decide +kernel
theorem dX12_bits_18 : decode cX12_bits 18 = .ok (.iinc 2 1, 3) := by decide +kernel
theorem dX12_bits_21 : decode cX12_bits 21 = .ok (.goto (-17), 3) := by decide +kernel
theorem dX12_bits_24 : decode cX12_bits 24 = .ok (.iload_n 1, 1) := by decide +kernel
theorem dX12_bits_25 : decode cX12_bits 25 = .ok (.ireturn, 1) := by decide +kernel
theorem dX12_many_0 : decode cX12_many 0 = .ok (.aload_n 0, 1) := by decide +kernel
theorem dX12_many_1 : decode cX12_many 1 = .ok (.iconst 0, 1) := by decide +kernel
theorem dX12_many_2 : decode cX12_many 2 = .ok (.putfield 75, 3) := by decide +kernel
theorem dX12_many_5 : decode cX12_many 5 = .ok (.aload_n 0, 1) := by decide +kernel
theorem dX12_many_6 : decode cX12_many 6 = .ok (.iconst 0, 1) := by decide +kernel
theorem dX12_many_7 : decode cX12_many 7 = .ok (.putfield 78, 3) := by decide +kernel
theorem dX12_many_10 : decode cX12_many 10 = .ok (.iload_n 1, 1) := by decide +kernel
theorem dX12_many_11 : decode cX12_many 11 = .ok (.i2l, 1) := by decide +kernel
theorem dX12_many_12 : decode cX12_many 12 = .ok (.lconst 0, 1) := by decide +kernel
theorem dX12_many_13 : decode cX12_many 13 = .ok (.ldc2_w 108, 3) := by decide +kernel
theorem dX12_many_16 : decode cX12_many 16 = .ok (.invokestatic 110, 3) := by decide +kernel
theorem dX12_many_19 : decode cX12_many 19 = .ok (.ifCond .ne 9, 3) := by decide +kernel
theorem dX12_many_22 : decode cX12_many 22 = .ok (.aload_n 0, 1) := by decide +kernel
theorem dX12_many_23 : decode cX12_many 23 = .ok (.iconst 5, 1) := by decide +kernel
theorem dX12_many_24 : decode cX12_many 24 = .ok (.invokevirtual 299, 3) := by decide +kernel
theorem dX12_many_27 : decode cX12_many 27 = .ok (.ireturn, 1) := by decide +kernel
theorem dX12_many_28 : decode cX12_many 28 = .ok (.iload_n 1, 1) := by decide +kernel
theorem dX12_many_29 : decode cX12_many 29 = .ok (.iconst 2, 1) := by decide +kernel
theorem dX12_many_30 : decode cX12_many 30 = .ok (.if_icmp .ge 10, 3) := by decide +kernel
theorem dX12_many_33 : decode cX12_many 33 = .ok (.aload_n 0, 1) := by decide +kernel
theorem dX12_many_34 : decode cX12_many 34 = .ok (.getfield 35, 3) := by decide +kernel
theorem dX12_many_37 : decode cX12_many 37 = .ok (.iload_n 1, 1) := by decide +kernel
theorem dX12_many_38 : decode cX12_many 38 = .ok (.iaload, 1) := by decide +kernel
theorem dX12_many_39 : decode cX12_many 39 = .ok (.ireturn, 1) := by decide +kernel
theorem dX12_many_40 : decode cX12_many 40 = .ok (.iconst 0, 1) := by decide +kernel
theorem dX12_many_41 : decode cX12_many 41 = .ok (.istore_n 2, 1) := by decide +kernel
theorem dX12_many_42 : decode cX12_many 42 = .ok (.iconst 0, 1) := by decide +kernel
theorem dX12_many_43 : decode cX12_many 43 = .ok (.istore_n 3, 1) := by decide +kernel
theorem dX12_many_44 : decode cX12_many 44 = .ok (.iload_n 3, 1) := by decide +kernel
theorem dX12_many_45 : decode cX12_many 45 = .ok (.aload_n 0, 1) := by decide +kernel
theorem dX12_many_46 : decode cX12_many 46 = .ok (.getfield 35, 3) := by decide +kernel
theorem dX12_many_49 : decode cX12_many 49 = .ok (.iconst 0, 1) := by decide +kernel
theorem dX12_many_50 : decode cX12_many 50 = .ok (.iaload, 1) := by decide +kernel
theorem dX12_many_51 : decode cX12_many 51 = .ok (.if_icmp .ge 70, 3) := by decide +kernel
theorem dX12_many_54 : decode cX12_many 54 = .ok (.iload_n 2, 1) := by decide +kernel
theorem dX12_many_55 : decode cX12_many 55 = .ok (.iload_n 1, 1) := by decide +kernel
theorem dX12_many_56 : decode cX12_many 56 = .ok (.iconst 2, 1) := by decide +kernel
theorem dX12_many_57 : decode cX12_many 57 = .ok (.if_icmp .ne 16, 3) := by decide +kernel
theorem dX12_many_60 : decode cX12_many 60 = .ok (.aload_n 0, 1) := by decide +kernel
theorem dX12_many_61 : decode cX12_many 61 = .ok (.iconst 0, 1) := by decide +kernel
theorem dX12_many_62 : decode cX12_many 62 = .ok (.iload_n 3, 1) := by decide +kernel
theorem dX12_many_63 : decode cX12_many 63 = .ok (.invokevirtual 239, 3) := by decide +kernel
theorem dX12_many_66 : decode cX12_many 66 = .ok (.ifCond .ne 7, 3) := by decide +kernel
theorem dX12_many_69 : decode cX12_many 69 = .ok (.iconst 1, 1) := by decide +kernel
theorem dX12_many_70 : decode cX12_many 70 = .ok (.goto 4, 3) := by decide +kernel
theorem dX12_many_73 : decode cX12_many 73 = .ok (.iconst 0, 1) := by decide +kernel
theorem dX12_many_74 : decode cX12_many 74 = .ok (.iadd, 1) := by decide +kernel
theorem dX12_many_75 : decode cX12_many 75 = .ok (.istore_n 2, 1) := by decide +kernel
theorem dX12_many_76 : decode cX12_many 76 = .ok (.iconst 0, 1) := by decide +kernel
theorem dX12_many_77 : decode cX12_many 77 = .ok (.istore 4, 2) := by decide +kernel
theorem dX12_many_79 : decode cX12_many 79 = .ok (.iload 4, 2) := by decide +kernel
theorem dX12_many_81 : decode cX12_many 81 = .ok (.iload_n 3, 1) := by decide +kernel
theorem dX12_many_82 : decode cX12_many 82 = .ok (.if_icmp .ge 33, 3) := by decide +kernel
theorem dX12_many_85 : decode cX12_many 85 = .ok (.iload_n 2, 1) := by decide +kernel
theorem dX12_many_86 : decode cX12_many 86 = .ok (.iload_n 1, 1) := by decide +kernel
theorem dX12_many_87 : decode cX12_many 87 = .ok (.iconst 3, 1) := by decide +kernel
theorem dX12_many_88 : decode cX12_many 88 = .ok (.if_icmp .ne 18, 3) := by decide +kernel
theorem dX12_many_91 : decode cX12_many 91 = .ok (.aload_n 0, 1) := by decide +kernel
theorem dX12_many_92 : decode cX12_many 92 = .ok (.iconst 0, 1) := by decide +kernel
theorem dX12_many_93 : decode cX12_many 93 = .ok (.iload_n 3, 1) := by decide +kernel
theorem dX12_many_94 : decode cX12_many 94 = .ok (.iload 4, 2) := by decide +kernel
theorem dX12_many_96 : decode cX12_many 96 = .ok (.invokevirtual 262, 3) := by decide +kernel
theorem dX12_many_99 : decode cX12_many 99 = .ok (.ifCond .eq 7, 3) := by decide +kernel
theorem dX12_many_102 : decode cX12_many 102 = .ok (.iconst 1, 1) := by decide +kernel
theorem dX12_many_103 : decode cX12_many 103 = .ok (.goto 4, 3) := by decide +kernel
theorem dX12_many_106 : decode cX12_many 106 = .ok (.iconst 0, 1) := by decide +kernel
theorem dX12_many_107 : decode cX12_many 107 = .ok (.iadd, 1) := by decide +kernel
theorem dX12_many_108 : decode cX12_many 108 = .ok (.istore_n 2, 1) := by decide +kernel
theorem dX12_many_109 : decode cX12_many 109 = .ok (.iinc 4 1, 3) := by decide +kernel
theorem dX12_many_112 : decode cX12_many 112 = .ok (.goto (-33), 3) := by decide +kernel
theorem dX12_many_115 : decode cX12_many 115 = .ok (.iinc 3 1, 3) := by decide +kernel
theorem dX12_many_118 : decode cX12_many 118 = .ok (.goto (-74), 3) := by decide +kernel
theorem dX12_many_121 : decode cX12_many 121 = .ok (.iload_n 2, 1) := by decide +kernel
theorem dX12_many_122 : decode cX12_many 122 = .ok (.ireturn, 1) := by decide +kernel
theorem dX12_levelOf_0 : decode cX12_levelOf 0 = .ok (.iconst 0, 1) := by decide +kernel
theorem dX12_levelOf_1 : decode cX12_levelOf 1 = .ok (.istore_n 2, 1) := by decide +kernel
theorem dX12_levelOf_2 : decode cX12_levelOf 2 = .ok (.iconst 0, 1) := by decide +kernel
theorem dX12_levelOf_3 : decode cX12_levelOf 3 = .ok (.istore_n 3, 1) := by decide +kernel
theorem dX12_levelOf_4 : decode cX12_levelOf 4 = .ok (.iload_n 3, 1) := by decide +kernel
theorem dX12_levelOf_5 : decode cX12_levelOf 5 = .ok (.iload_n 1, 1) := by decide +kernel
theorem dX12_levelOf_6 : decode cX12_levelOf 6 = .ok (.if_icmp .ge 37, 3) := by decide +kernel
theorem dX12_levelOf_9 : decode cX12_levelOf 9 = .ok (.aload_n 0, 1) := by decide +kernel
theorem dX12_levelOf_10 : decode cX12_levelOf 10 = .ok (.getfield 35, 3) := by decide +kernel
theorem dX12_levelOf_13 : decode cX12_levelOf 13 = .ok (.bipush 82, 2) := by decide +kernel
theorem dX12_levelOf_15 : decode cX12_levelOf 15 = .ok (.iload_n 1, 1) := by decide +kernel
theorem dX12_levelOf_16 : decode cX12_levelOf 16 = .ok (.iadd, 1) := by decide +kernel
theorem dX12_levelOf_17 : decode cX12_levelOf 17 = .ok (.iaload, 1) := by decide +kernel
theorem dX12_levelOf_18 : decode cX12_levelOf 18 = .ok (.iload_n 3, 1) := by decide +kernel
theorem dX12_levelOf_19 : decode cX12_levelOf 19 = .ok (.invokestatic 302, 3) := by decide +kernel
theorem dX12_levelOf_22 : decode cX12_levelOf 22 = .ok (.ifCond .eq 15, 3) := by decide +kernel
theorem dX12_levelOf_25 : decode cX12_levelOf 25 = .ok (.iload_n 2, 1) := by decide +kernel
theorem dX12_levelOf_26 : decode cX12_levelOf 26 = .ok (.aload_n 0, 1) := by decide +kernel
theorem dX12_levelOf_27 : decode cX12_levelOf 27 = .ok (.iload_n 3, 1) := by decide +kernel
theorem dX12_levelOf_28 : decode cX12_levelOf 28 = .ok (.invokevirtual 305, 3) := by decide +kernel
theorem dX12_levelOf_31 : decode cX12_levelOf 31 = .ok (.iconst 1, 1) := by decide +kernel
theorem dX12_levelOf_32 : decode cX12_levelOf 32 = .ok (.iadd, 1) := by decide +kernel
theorem dX12_levelOf_33 : decode cX12_levelOf 33 = .ok (.invokestatic 308, 3) := by decide +kernel
theorem dX12_levelOf_36 : decode cX12_levelOf 36 = .ok (.istore_n 2, 1) := by decide +kernel
theorem dX12_levelOf_37 : decode cX12_levelOf 37 = .ok (.iinc 3 1, 3) := by decide +kernel
theorem dX12_levelOf_40 : decode cX12_levelOf 40 = .ok (.goto (-36), 3) := by decide +kernel
theorem dX12_levelOf_43 : decode cX12_levelOf 43 = .ok (.iload_n 2, 1) := by decide +kernel
theorem dX12_levelOf_44 : decode cX12_levelOf 44 = .ok (.ireturn, 1) := by decide +kernel
theorem dX12_change_0 : decode cX12_change 0 = .ok (.aload_n 0, 1) := by decide +kernel
theorem dX12_change_1 : decode cX12_change 1 = .ok (.iconst 0, 1) := by decide +kernel
theorem dX12_change_2 : decode cX12_change 2 = .ok (.putfield 75, 3) := by decide +kernel
theorem dX12_change_5 : decode cX12_change 5 = .ok (.aload_n 0, 1) := by decide +kernel
theorem dX12_change_6 : decode cX12_change 6 = .ok (.iconst 0, 1) := by decide +kernel
theorem dX12_change_7 : decode cX12_change 7 = .ok (.putfield 78, 3) := by decide +kernel
theorem dX12_change_10 : decode cX12_change 10 = .ok (.aload_n 0, 1) := by decide +kernel
theorem dX12_change_11 : decode cX12_change 11 = .ok (.iload_n 1, 1) := by decide +kernel
theorem dX12_change_12 : decode cX12_change 12 = .ok (.invokevirtual 311, 3) := by decide +kernel
theorem dX12_change_15 : decode cX12_change 15 = .ok (.ifCond .ne 9, 3) := by decide +kernel
theorem dX12_change_18 : decode cX12_change 18 = .ok (.aload_n 0, 1) := by decide +kernel
theorem dX12_change_19 : decode cX12_change 19 = .ok (.iconst 2, 1) := by decide +kernel
theorem dX12_change_20 : decode cX12_change 20 = .ok (.invokevirtual 299, 3) := by decide +kernel
theorem dX12_change_23 : decode cX12_change 23 = .ok (.ireturn, 1) := by decide +kernel
theorem dX12_change_24 : decode cX12_change 24 = .ok (.aload_n 0, 1) := by decide +kernel
theorem dX12_change_25 : decode cX12_change 25 = .ok (.iconst 0, 1) := by decide +kernel
theorem dX12_change_26 : decode cX12_change 26 = .ok (.iload_n 1, 1) := by decide +kernel
theorem dX12_change_27 : decode cX12_change 27 = .ok (.invokevirtual 239, 3) := by decide +kernel
theorem dX12_change_30 : decode cX12_change 30 = .ok (.istore_n 3, 1) := by decide +kernel
theorem dX12_change_31 : decode cX12_change 31 = .ok (.iload_n 2, 1) := by decide +kernel
theorem dX12_change_32 : decode cX12_change 32 = .ok (.tableswitch 114 0 4 #[36, 38, 78, 101, 108], 36) := by decide +kernel
theorem dX12_change_68 : decode cX12_change 68 = .ok (.iload_n 3, 1) := by decide +kernel
theorem dX12_change_69 : decode cX12_change 69 = .ok (.ireturn, 1) := by decide +kernel
theorem dX12_change_70 : decode cX12_change 70 = .ok (.iload_n 3, 1) := by decide +kernel
theorem dX12_change_71 : decode cX12_change 71 = .ok (.iconst 2, 1) := by decide +kernel
theorem dX12_change_72 : decode cX12_change 72 = .ok (.if_icmp .ne 15, 3) := by decide +kernel
theorem dX12_change_75 : decode cX12_change 75 = .ok (.aload_n 0, 1) := by decide +kernel
theorem dX12_change_76 : decode cX12_change 76 = .ok (.getfield 35, 3) := by decide +kernel
theorem dX12_change_79 : decode cX12_change 79 = .ok (.bipush 34, 2) := by decide +kernel
theorem dX12_change_81 : decode cX12_change 81 = .ok (.iload_n 1, 1) := by decide +kernel
theorem dX12_change_82 : decode cX12_change 82 = .ok (.iadd, 1) := by decide +kernel
theorem dX12_change_83 : decode cX12_change 83 = .ok (.iaload, 1) := by decide +kernel
theorem dX12_change_84 : decode cX12_change 84 = .ok (.goto 25, 3) := by decide +kernel
theorem dX12_change_87 : decode cX12_change 87 = .ok (.iload_n 3, 1) := by decide +kernel
theorem dX12_change_88 : decode cX12_change 88 = .ok (.ifCond .eq 8, 3) := by decide +kernel
theorem dX12_change_91 : decode cX12_change 91 = .ok (.iload_n 3, 1) := by decide +kernel
theorem dX12_change_92 : decode cX12_change 92 = .ok (.iconst 3, 1) := by decide +kernel
theorem dX12_change_93 : decode cX12_change 93 = .ok (.if_icmp .ne 15, 3) := by decide +kernel
theorem dX12_change_96 : decode cX12_change 96 = .ok (.aload_n 0, 1) := by decide +kernel
theorem dX12_change_97 : decode cX12_change 97 = .ok (.getfield 35, 3) := by decide +kernel
theorem dX12_change_100 : decode cX12_change 100 = .ok (.bipush 18, 2) := by decide +kernel
theorem dX12_change_102 : decode cX12_change 102 = .ok (.iload_n 1, 1) := by decide +kernel
theorem dX12_change_103 : decode cX12_change 103 = .ok (.iadd, 1) := by decide +kernel
theorem dX12_change_104 : decode cX12_change 104 = .ok (.iaload, 1) := by decide +kernel
theorem dX12_change_105 : decode cX12_change 105 = .ok (.goto 4, 3) := by decide +kernel
theorem dX12_change_108 : decode cX12_change 108 = .ok (.iconst (-1), 1) := by decide +kernel
theorem dX12_change_109 : decode cX12_change 109 = .ok (.ireturn, 1) := by decide +kernel
theorem dX12_change_110 : decode cX12_change 110 = .ok (.iload_n 3, 1) := by decide +kernel
theorem dX12_change_111 : decode cX12_change 111 = .ok (.ifCond .ne 15, 3) := by decide +kernel
theorem dX12_change_114 : decode cX12_change 114 = .ok (.aload_n 0, 1) := by decide +kernel
theorem dX12_change_115 : decode cX12_change 115 = .ok (.getfield 35, 3) := by decide +kernel
theorem dX12_change_118 : decode cX12_change 118 = .ok (.bipush 34, 2) := by decide +kernel
theorem dX12_change_120 : decode cX12_change 120 = .ok (.iload_n 1, 1) := by decide +kernel
theorem dX12_change_121 : decode cX12_change 121 = .ok (.iadd, 1) := by decide +kernel
theorem dX12_change_122 : decode cX12_change 122 = .ok (.iaload, 1) := by decide +kernel
theorem dX12_change_123 : decode cX12_change 123 = .ok (.goto 9, 3) := by decide +kernel
theorem dX12_change_126 : decode cX12_change 126 = .ok (.aload_n 0, 1) := by decide +kernel
theorem dX12_change_127 : decode cX12_change 127 = .ok (.bipush 8, 2) := by decide +kernel
theorem dX12_change_129 : decode cX12_change 129 = .ok (.invokevirtual 299, 3) := by decide +kernel
theorem dX12_change_132 : decode cX12_change 132 = .ok (.ireturn, 1) := by decide +kernel
theorem dX12_change_133 : decode cX12_change 133 = .ok (.aload_n 0, 1) := by decide +kernel
theorem dX12_change_134 : decode cX12_change 134 = .ok (.iconst 0, 1) := by decide +kernel
theorem dX12_change_135 : decode cX12_change 135 = .ok (.iload_n 1, 1) := by decide +kernel
theorem dX12_change_136 : decode cX12_change 136 = .ok (.invokevirtual 246, 3) := by decide +kernel
theorem dX12_change_139 : decode cX12_change 139 = .ok (.ireturn, 1) := by decide +kernel
theorem dX12_change_140 : decode cX12_change 140 = .ok (.aload_n 0, 1) := by decide +kernel
theorem dX12_change_141 : decode cX12_change 141 = .ok (.iload_n 1, 1) := by decide +kernel
theorem dX12_change_142 : decode cX12_change 142 = .ok (.invokevirtual 305, 3) := by decide +kernel
theorem dX12_change_145 : decode cX12_change 145 = .ok (.ireturn, 1) := by decide +kernel
theorem dX12_change_146 : decode cX12_change 146 = .ok (.aload_n 0, 1) := by decide +kernel
theorem dX12_change_147 : decode cX12_change 147 = .ok (.iconst 5, 1) := by decide +kernel
theorem dX12_change_148 : decode cX12_change 148 = .ok (.invokevirtual 299, 3) := by decide +kernel
theorem dX12_change_151 : decode cX12_change 151 = .ok (.ireturn, 1) := by decide +kernel
theorem dX12_hangers_0 : decode cX12_hangers 0 = .ok (.iconst 0, 1) := by decide +kernel
theorem dX12_hangers_1 : decode cX12_hangers 1 = .ok (.istore_n 2, 1) := by decide +kernel
theorem dX12_hangers_2 : decode cX12_hangers 2 = .ok (.iconst 0, 1) := by decide +kernel
theorem dX12_hangers_3 : decode cX12_hangers 3 = .ok (.istore_n 3, 1) := by decide +kernel
theorem dX12_hangers_4 : decode cX12_hangers 4 = .ok (.iload_n 3, 1) := by decide +kernel
theorem dX12_hangers_5 : decode cX12_hangers 5 = .ok (.aload_n 0, 1) := by decide +kernel
theorem dX12_hangers_6 : decode cX12_hangers 6 = .ok (.getfield 35, 3) := by decide +kernel
theorem dX12_hangers_9 : decode cX12_hangers 9 = .ok (.iconst 0, 1) := by decide +kernel
theorem dX12_hangers_10 : decode cX12_hangers 10 = .ok (.iaload, 1) := by decide +kernel
theorem dX12_hangers_11 : decode cX12_hangers 11 = .ok (.if_icmp .ge 32, 3) := by decide +kernel
theorem dX12_hangers_14 : decode cX12_hangers 14 = .ok (.iload_n 2, 1) := by decide +kernel
theorem dX12_hangers_15 : decode cX12_hangers 15 = .ok (.aload_n 0, 1) := by decide +kernel
theorem dX12_hangers_16 : decode cX12_hangers 16 = .ok (.iconst 0, 1) := by decide +kernel
theorem dX12_hangers_17 : decode cX12_hangers 17 = .ok (.iload_n 3, 1) := by decide +kernel
theorem dX12_hangers_18 : decode cX12_hangers 18 = .ok (.invokevirtual 249, 3) := by decide +kernel
theorem dX12_hangers_21 : decode cX12_hangers 21 = .ok (.iload_n 1, 1) := by decide +kernel
theorem dX12_hangers_22 : decode cX12_hangers 22 = .ok (.invokestatic 302, 3) := by decide +kernel
theorem dX12_hangers_25 : decode cX12_hangers 25 = .ok (.ifCond .eq 9, 3) := by decide +kernel
theorem dX12_hangers_28 : decode cX12_hangers 28 = .ok (.iconst 1, 1) := by decide +kernel
theorem dX12_hangers_29 : decode cX12_hangers 29 = .ok (.iload_n 3, 1) := by decide +kernel
theorem dX12_hangers_30 : decode cX12_hangers 30 = .ok (.ishl, 1) := by decide +kernel
theorem dX12_hangers_31 : decode cX12_hangers 31 = .ok (.goto 4, 3) := by decide +kernel
theorem dX12_hangers_34 : decode cX12_hangers 34 = .ok (.iconst 0, 1) := by decide +kernel
theorem dX12_hangers_35 : decode cX12_hangers 35 = .ok (.ior, 1) := by decide +kernel
theorem dX12_hangers_36 : decode cX12_hangers 36 = .ok (.istore_n 2, 1) := by decide +kernel
theorem dX12_hangers_37 : decode cX12_hangers 37 = .ok (.iinc 3 1, 3) := by decide +kernel
theorem dX12_hangers_40 : decode cX12_hangers 40 = .ok (.goto (-36), 3) := by decide +kernel
theorem dX12_hangers_43 : decode cX12_hangers 43 = .ok (.iload_n 2, 1) := by decide +kernel
theorem dX12_hangers_44 : decode cX12_hangers 44 = .ok (.ireturn, 1) := by decide +kernel
theorem dX12_hangs_0 : decode cX12_hangs 0 = .ok (.aload_n 0, 1) := by decide +kernel
theorem dX12_hangs_1 : decode cX12_hangs 1 = .ok (.iconst 0, 1) := by decide +kernel
theorem dX12_hangs_2 : decode cX12_hangs 2 = .ok (.putfield 75, 3) := by decide +kernel
theorem dX12_hangs_5 : decode cX12_hangs 5 = .ok (.aload_n 0, 1) := by decide +kernel
theorem dX12_hangs_6 : decode cX12_hangs 6 = .ok (.iconst 0, 1) := by decide +kernel
theorem dX12_hangs_7 : decode cX12_hangs 7 = .ok (.putfield 78, 3) := by decide +kernel
theorem dX12_hangs_10 : decode cX12_hangs 10 = .ok (.aload_n 0, 1) := by decide +kernel
theorem dX12_hangs_11 : decode cX12_hangs 11 = .ok (.iload_n 1, 1) := by decide +kernel
theorem dX12_hangs_12 : decode cX12_hangs 12 = .ok (.invokevirtual 311, 3) := by decide +kernel
theorem dX12_hangs_15 : decode cX12_hangs 15 = .ok (.ifCond .ne 9, 3) := by decide +kernel
theorem dX12_hangs_18 : decode cX12_hangs 18 = .ok (.aload_n 0, 1) := by decide +kernel
theorem dX12_hangs_19 : decode cX12_hangs 19 = .ok (.iconst 2, 1) := by decide +kernel
theorem dX12_hangs_20 : decode cX12_hangs 20 = .ok (.invokevirtual 299, 3) := by decide +kernel
theorem dX12_hangs_23 : decode cX12_hangs 23 = .ok (.ireturn, 1) := by decide +kernel
theorem dX12_hangs_24 : decode cX12_hangs 24 = .ok (.iload_n 2, 1) := by decide +kernel
theorem dX12_hangs_25 : decode cX12_hangs 25 = .ok (.i2l, 1) := by decide +kernel
theorem dX12_hangs_26 : decode cX12_hangs 26 = .ok (.lconst 0, 1) := by decide +kernel
theorem dX12_hangs_27 : decode cX12_hangs 27 = .ok (.ldc2_w 314, 3) := by decide +kernel
theorem dX12_hangs_30 : decode cX12_hangs 30 = .ok (.invokestatic 110, 3) := by decide +kernel
theorem dX12_hangs_33 : decode cX12_hangs 33 = .ok (.ifCond .ne 9, 3) := by decide +kernel
theorem dX12_hangs_36 : decode cX12_hangs 36 = .ok (.aload_n 0, 1) := by decide +kernel
theorem dX12_hangs_37 : decode cX12_hangs 37 = .ok (.iconst 5, 1) := by decide +kernel
theorem dX12_hangs_38 : decode cX12_hangs 38 = .ok (.invokevirtual 299, 3) := by decide +kernel
theorem dX12_hangs_41 : decode cX12_hangs 41 = .ok (.ireturn, 1) := by decide +kernel
theorem dX12_hangs_42 : decode cX12_hangs 42 = .ok (.iload_n 2, 1) := by decide +kernel
theorem dX12_hangs_43 : decode cX12_hangs 43 = .ok (.ifCond .ne 15, 3) := by decide +kernel
theorem dX12_hangs_46 : decode cX12_hangs 46 = .ok (.aload_n 0, 1) := by decide +kernel
theorem dX12_hangs_47 : decode cX12_hangs 47 = .ok (.getfield 35, 3) := by decide +kernel
theorem dX12_hangs_50 : decode cX12_hangs 50 = .ok (.bipush 82, 2) := by decide +kernel
theorem dX12_hangs_52 : decode cX12_hangs 52 = .ok (.iload_n 1, 1) := by decide +kernel
theorem dX12_hangs_53 : decode cX12_hangs 53 = .ok (.iadd, 1) := by decide +kernel
theorem dX12_hangs_54 : decode cX12_hangs 54 = .ok (.iaload, 1) := by decide +kernel
theorem dX12_hangs_55 : decode cX12_hangs 55 = .ok (.goto 22, 3) := by decide +kernel
theorem dX12_hangs_58 : decode cX12_hangs 58 = .ok (.iload_n 2, 1) := by decide +kernel
theorem dX12_hangs_59 : decode cX12_hangs 59 = .ok (.iconst 1, 1) := by decide +kernel
theorem dX12_hangs_60 : decode cX12_hangs 60 = .ok (.if_icmp .ne 12, 3) := by decide +kernel
theorem dX12_hangs_63 : decode cX12_hangs 63 = .ok (.aload_n 0, 1) := by decide +kernel
theorem dX12_hangs_64 : decode cX12_hangs 64 = .ok (.iconst 0, 1) := by decide +kernel
theorem dX12_hangs_65 : decode cX12_hangs 65 = .ok (.iload_n 1, 1) := by decide +kernel
theorem dX12_hangs_66 : decode cX12_hangs 66 = .ok (.invokevirtual 249, 3) := by decide +kernel
theorem dX12_hangs_69 : decode cX12_hangs 69 = .ok (.goto 8, 3) := by decide +kernel
theorem dX12_hangs_72 : decode cX12_hangs 72 = .ok (.aload_n 0, 1) := by decide +kernel
theorem dX12_hangs_73 : decode cX12_hangs 73 = .ok (.iload_n 1, 1) := by decide +kernel
theorem dX12_hangs_74 : decode cX12_hangs 74 = .ok (.invokevirtual 316, 3) := by decide +kernel
theorem dX12_hangs_77 : decode cX12_hangs 77 = .ok (.ireturn, 1) := by decide +kernel
theorem dX12_lackOf_0 : decode cX12_lackOf 0 = .ok (.iconst 0, 1) := by decide +kernel
theorem dX12_lackOf_1 : decode cX12_lackOf 1 = .ok (.istore_n 2, 1) := by decide +kernel
theorem dX12_lackOf_2 : decode cX12_lackOf 2 = .ok (.iconst 0, 1) := by decide +kernel
theorem dX12_lackOf_3 : decode cX12_lackOf 3 = .ok (.istore_n 3, 1) := by decide +kernel
theorem dX12_lackOf_4 : decode cX12_lackOf 4 = .ok (.iload_n 3, 1) := by decide +kernel
theorem dX12_lackOf_5 : decode cX12_lackOf 5 = .ok (.aload_n 0, 1) := by decide +kernel
theorem dX12_lackOf_6 : decode cX12_lackOf 6 = .ok (.getfield 35, 3) := by decide +kernel
theorem dX12_lackOf_9 : decode cX12_lackOf 9 = .ok (.iconst 0, 1) := by decide +kernel
theorem dX12_lackOf_10 : decode cX12_lackOf 10 = .ok (.iaload, 1) := by decide +kernel
theorem dX12_lackOf_11 : decode cX12_lackOf 11 = .ok (.if_icmp .ge 30, 3) := by decide +kernel
theorem dX12_lackOf_14 : decode cX12_lackOf 14 = .ok (.iload_n 2, 1) := by decide +kernel
theorem dX12_lackOf_15 : decode cX12_lackOf 15 = .ok (.iload_n 1, 1) := by decide +kernel
theorem dX12_lackOf_16 : decode cX12_lackOf 16 = .ok (.iload_n 3, 1) := by decide +kernel
theorem dX12_lackOf_17 : decode cX12_lackOf 17 = .ok (.invokestatic 302, 3) := by decide +kernel
theorem dX12_lackOf_20 : decode cX12_lackOf 20 = .ok (.ifCond .eq 12, 3) := by decide +kernel
theorem dX12_lackOf_23 : decode cX12_lackOf 23 = .ok (.aload_n 0, 1) := by decide +kernel
theorem dX12_lackOf_24 : decode cX12_lackOf 24 = .ok (.iconst 0, 1) := by decide +kernel
theorem dX12_lackOf_25 : decode cX12_lackOf 25 = .ok (.iload_n 3, 1) := by decide +kernel
theorem dX12_lackOf_26 : decode cX12_lackOf 26 = .ok (.invokevirtual 249, 3) := by decide +kernel
theorem dX12_lackOf_29 : decode cX12_lackOf 29 = .ok (.goto 4, 3) := by decide +kernel
theorem dX12_lackOf_32 : decode cX12_lackOf 32 = .ok (.iconst 0, 1) := by decide +kernel
theorem dX12_lackOf_33 : decode cX12_lackOf 33 = .ok (.ior, 1) := by decide +kernel
theorem dX12_lackOf_34 : decode cX12_lackOf 34 = .ok (.istore_n 2, 1) := by decide +kernel
theorem dX12_lackOf_35 : decode cX12_lackOf 35 = .ok (.iinc 3 1, 3) := by decide +kernel
theorem dX12_lackOf_38 : decode cX12_lackOf 38 = .ok (.goto (-34), 3) := by decide +kernel
theorem dX12_lackOf_41 : decode cX12_lackOf 41 = .ok (.iload_n 2, 1) := by decide +kernel
theorem dX12_lackOf_42 : decode cX12_lackOf 42 = .ok (.iload_n 1, 1) := by decide +kernel
theorem dX12_lackOf_43 : decode cX12_lackOf 43 = .ok (.iconst (-1), 1) := by decide +kernel
theorem dX12_lackOf_44 : decode cX12_lackOf 44 = .ok (.ixor, 1) := by decide +kernel
theorem dX12_lackOf_45 : decode cX12_lackOf 45 = .ok (.iand, 1) := by decide +kernel
theorem dX12_lackOf_46 : decode cX12_lackOf 46 = .ok (.ireturn, 1) := by decide +kernel
theorem dX12_holds_0 : decode cX12_holds 0 = .ok (.aload_n 0, 1) := by decide +kernel
theorem dX12_holds_1 : decode cX12_holds 1 = .ok (.iconst 0, 1) := by decide +kernel
theorem dX12_holds_2 : decode cX12_holds 2 = .ok (.putfield 75, 3) := by decide +kernel
theorem dX12_holds_5 : decode cX12_holds 5 = .ok (.aload_n 0, 1) := by decide +kernel
theorem dX12_holds_6 : decode cX12_holds 6 = .ok (.iconst 0, 1) := by decide +kernel
theorem dX12_holds_7 : decode cX12_holds 7 = .ok (.putfield 78, 3) := by decide +kernel
theorem dX12_holds_10 : decode cX12_holds 10 = .ok (.aload_n 0, 1) := by decide +kernel
theorem dX12_holds_11 : decode cX12_holds 11 = .ok (.iload_n 1, 1) := by decide +kernel
theorem dX12_holds_12 : decode cX12_holds 12 = .ok (.invokevirtual 319, 3) := by decide +kernel
theorem dX12_holds_15 : decode cX12_holds 15 = .ok (.ifCond .ne 9, 3) := by decide +kernel
theorem dX12_holds_18 : decode cX12_holds 18 = .ok (.aload_n 0, 1) := by decide +kernel
theorem dX12_holds_19 : decode cX12_holds 19 = .ok (.iconst 2, 1) := by decide +kernel
theorem dX12_holds_20 : decode cX12_holds 20 = .ok (.invokevirtual 299, 3) := by decide +kernel
theorem dX12_holds_23 : decode cX12_holds 23 = .ok (.ireturn, 1) := by decide +kernel
theorem dX12_holds_24 : decode cX12_holds 24 = .ok (.aload_n 0, 1) := by decide +kernel
theorem dX12_holds_25 : decode cX12_holds 25 = .ok (.iload_n 1, 1) := by decide +kernel
theorem dX12_holds_26 : decode cX12_holds 26 = .ok (.invokevirtual 322, 3) := by decide +kernel
theorem dX12_holds_29 : decode cX12_holds 29 = .ok (.ifCond .ne 7, 3) := by decide +kernel
theorem dX12_holds_32 : decode cX12_holds 32 = .ok (.iconst 1, 1) := by decide +kernel
theorem dX12_holds_33 : decode cX12_holds 33 = .ok (.goto 4, 3) := by decide +kernel
theorem dX12_holds_36 : decode cX12_holds 36 = .ok (.iconst 0, 1) := by decide +kernel
theorem dX12_holds_37 : decode cX12_holds 37 = .ok (.ireturn, 1) := by decide +kernel
theorem dX12_lacks_0 : decode cX12_lacks 0 = .ok (.aload_n 0, 1) := by decide +kernel
theorem dX12_lacks_1 : decode cX12_lacks 1 = .ok (.iconst 0, 1) := by decide +kernel
theorem dX12_lacks_2 : decode cX12_lacks 2 = .ok (.putfield 75, 3) := by decide +kernel
theorem dX12_lacks_5 : decode cX12_lacks 5 = .ok (.aload_n 0, 1) := by decide +kernel
theorem dX12_lacks_6 : decode cX12_lacks 6 = .ok (.iconst 0, 1) := by decide +kernel
theorem dX12_lacks_7 : decode cX12_lacks 7 = .ok (.putfield 78, 3) := by decide +kernel
theorem dX12_lacks_10 : decode cX12_lacks 10 = .ok (.aload_n 0, 1) := by decide +kernel
theorem dX12_lacks_11 : decode cX12_lacks 11 = .ok (.iload_n 1, 1) := by decide +kernel
theorem dX12_lacks_12 : decode cX12_lacks 12 = .ok (.invokevirtual 319, 3) := by decide +kernel
theorem dX12_lacks_15 : decode cX12_lacks 15 = .ok (.ifCond .eq 11, 3) := by decide +kernel
theorem dX12_lacks_18 : decode cX12_lacks 18 = .ok (.aload_n 0, 1) := by decide +kernel
theorem dX12_lacks_19 : decode cX12_lacks 19 = .ok (.iload_n 1, 1) := by decide +kernel
theorem dX12_lacks_20 : decode cX12_lacks 20 = .ok (.invokevirtual 322, 3) := by decide +kernel
theorem dX12_lacks_23 : decode cX12_lacks 23 = .ok (.goto 8, 3) := by decide +kernel
theorem dX12_lacks_26 : decode cX12_lacks 26 = .ok (.aload_n 0, 1) := by decide +kernel
theorem dX12_lacks_27 : decode cX12_lacks 27 = .ok (.iconst 2, 1) := by decide +kernel
theorem dX12_lacks_28 : decode cX12_lacks 28 = .ok (.invokevirtual 299, 3) := by decide +kernel
theorem dX12_lacks_31 : decode cX12_lacks 31 = .ok (.ireturn, 1) := by decide +kernel
theorem dX12_out_0 : decode cX12_out 0 = .ok (.aload_n 0, 1) := by decide +kernel
theorem dX12_out_1 : decode cX12_out 1 = .ok (.iconst 0, 1) := by decide +kernel
theorem dX12_out_2 : decode cX12_out 2 = .ok (.putfield 75, 3) := by decide +kernel
theorem dX12_out_5 : decode cX12_out 5 = .ok (.aload_n 0, 1) := by decide +kernel
theorem dX12_out_6 : decode cX12_out 6 = .ok (.iconst 0, 1) := by decide +kernel
theorem dX12_out_7 : decode cX12_out 7 = .ok (.putfield 78, 3) := by decide +kernel
theorem dX12_out_10 : decode cX12_out 10 = .ok (.aload_n 0, 1) := by decide +kernel
theorem dX12_out_11 : decode cX12_out 11 = .ok (.iload_n 1, 1) := by decide +kernel
theorem dX12_out_12 : decode cX12_out 12 = .ok (.invokevirtual 319, 3) := by decide +kernel
theorem dX12_out_15 : decode cX12_out 15 = .ok (.ifCond .eq 29, 3) := by decide +kernel
theorem dX12_out_18 : decode cX12_out 18 = .ok (.aload_n 0, 1) := by decide +kernel
theorem dX12_out_19 : decode cX12_out 19 = .ok (.iload_n 2, 1) := by decide +kernel
theorem dX12_out_20 : decode cX12_out 20 = .ok (.invokevirtual 311, 3) := by decide +kernel
theorem dX12_out_23 : decode cX12_out 23 = .ok (.ifCond .eq 21, 3) := by decide +kernel
theorem dX12_out_26 : decode cX12_out 26 = .ok (.iload_n 1, 1) := by decide +kernel
theorem dX12_out_27 : decode cX12_out 27 = .ok (.iconst 1, 1) := by decide +kernel
theorem dX12_out_28 : decode cX12_out 28 = .ok (.iload_n 2, 1) := by decide +kernel
theorem dX12_out_29 : decode cX12_out 29 = .ok (.ishl, 1) := by decide +kernel
theorem dX12_out_30 : decode cX12_out 30 = .ok (.iconst (-1), 1) := by decide +kernel
theorem dX12_out_31 : decode cX12_out 31 = .ok (.ixor, 1) := by decide +kernel
theorem dX12_out_32 : decode cX12_out 32 = .ok (.iand, 1) := by decide +kernel
theorem dX12_out_33 : decode cX12_out 33 = .ok (.aload_n 0, 1) := by decide +kernel
theorem dX12_out_34 : decode cX12_out 34 = .ok (.iload_n 2, 1) := by decide +kernel
theorem dX12_out_35 : decode cX12_out 35 = .ok (.invokevirtual 316, 3) := by decide +kernel
theorem dX12_out_38 : decode cX12_out 38 = .ok (.iconst (-1), 1) := by decide +kernel
theorem dX12_out_39 : decode cX12_out 39 = .ok (.ixor, 1) := by decide +kernel
theorem dX12_out_40 : decode cX12_out 40 = .ok (.iand, 1) := by decide +kernel
theorem dX12_out_41 : decode cX12_out 41 = .ok (.goto 8, 3) := by decide +kernel
theorem dX12_out_44 : decode cX12_out 44 = .ok (.aload_n 0, 1) := by decide +kernel
theorem dX12_out_45 : decode cX12_out 45 = .ok (.iconst 2, 1) := by decide +kernel
theorem dX12_out_46 : decode cX12_out 46 = .ok (.invokevirtual 299, 3) := by decide +kernel
theorem dX12_out_49 : decode cX12_out 49 = .ok (.ireturn, 1) := by decide +kernel
theorem dX12_pick_0 : decode cX12_pick 0 = .ok (.aload_n 0, 1) := by decide +kernel
theorem dX12_pick_1 : decode cX12_pick 1 = .ok (.iconst 0, 1) := by decide +kernel
theorem dX12_pick_2 : decode cX12_pick 2 = .ok (.putfield 75, 3) := by decide +kernel
theorem dX12_pick_5 : decode cX12_pick 5 = .ok (.aload_n 0, 1) := by decide +kernel
theorem dX12_pick_6 : decode cX12_pick 6 = .ok (.iconst 0, 1) := by decide +kernel
theorem dX12_pick_7 : decode cX12_pick 7 = .ok (.putfield 78, 3) := by decide +kernel
theorem dX12_pick_10 : decode cX12_pick 10 = .ok (.aload_n 0, 1) := by decide +kernel
theorem dX12_pick_11 : decode cX12_pick 11 = .ok (.iload_n 1, 1) := by decide +kernel
theorem dX12_pick_12 : decode cX12_pick 12 = .ok (.invokevirtual 319, 3) := by decide +kernel
theorem dX12_pick_15 : decode cX12_pick 15 = .ok (.ifCond .eq 26, 3) := by decide +kernel
theorem dX12_pick_18 : decode cX12_pick 18 = .ok (.aload_n 0, 1) := by decide +kernel
theorem dX12_pick_19 : decode cX12_pick 19 = .ok (.iload_n 2, 1) := by decide +kernel
theorem dX12_pick_20 : decode cX12_pick 20 = .ok (.invokevirtual 311, 3) := by decide +kernel
theorem dX12_pick_23 : decode cX12_pick 23 = .ok (.ifCond .eq 18, 3) := by decide +kernel
theorem dX12_pick_26 : decode cX12_pick 26 = .ok (.iload_n 1, 1) := by decide +kernel
theorem dX12_pick_27 : decode cX12_pick 27 = .ok (.iconst 1, 1) := by decide +kernel
theorem dX12_pick_28 : decode cX12_pick 28 = .ok (.iload_n 2, 1) := by decide +kernel
theorem dX12_pick_29 : decode cX12_pick 29 = .ok (.ishl, 1) := by decide +kernel
theorem dX12_pick_30 : decode cX12_pick 30 = .ok (.ior, 1) := by decide +kernel
theorem dX12_pick_31 : decode cX12_pick 31 = .ok (.aload_n 0, 1) := by decide +kernel
theorem dX12_pick_32 : decode cX12_pick 32 = .ok (.iconst 0, 1) := by decide +kernel
theorem dX12_pick_33 : decode cX12_pick 33 = .ok (.iload_n 2, 1) := by decide +kernel
theorem dX12_pick_34 : decode cX12_pick 34 = .ok (.invokevirtual 249, 3) := by decide +kernel
theorem dX12_pick_37 : decode cX12_pick 37 = .ok (.ior, 1) := by decide +kernel
theorem dX12_pick_38 : decode cX12_pick 38 = .ok (.goto 8, 3) := by decide +kernel
theorem dX12_pick_41 : decode cX12_pick 41 = .ok (.aload_n 0, 1) := by decide +kernel
theorem dX12_pick_42 : decode cX12_pick 42 = .ok (.iconst 2, 1) := by decide +kernel
theorem dX12_pick_43 : decode cX12_pick 43 = .ok (.invokevirtual 299, 3) := by decide +kernel
theorem dX12_pick_46 : decode cX12_pick 46 = .ok (.ireturn, 1) := by decide +kernel
theorem dX12_heaviest_0 : decode cX12_heaviest 0 = .ok (.aload_n 0, 1) := by decide +kernel
theorem dX12_heaviest_1 : decode cX12_heaviest 1 = .ok (.iconst 0, 1) := by decide +kernel
