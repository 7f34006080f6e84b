theorem dX8_withLetter_11 : decode cX8_withLetter 11 = .ok (.i2l, 1) := by decide +kernel
theorem dX8_withLetter_12 : decode cX8_withLetter 12 = .ok (.ladd, 1) := by decide +kernel
theorem dX8_withLetter_13 : decode cX8_withLetter 13 = .ok (.lreturn, 1) := by decide +kernel
theorem dX8_hasRoom_0 : decode cX8_hasRoom 0 = .ok (.iload_n 1, 1) := by decide +kernel
theorem dX8_hasRoom_1 : decode cX8_hasRoom 1 = .ok (.sipush 900, 3) := by decide +kernel
theorem dX8_hasRoom_4 : decode cX8_hasRoom 4 = .ok (.aload_n 0, 1) := by decide +kernel
theorem dX8_hasRoom_5 : decode cX8_hasRoom 5 = .ok (.getfield 19, 3) := by decide +kernel
theorem dX8_hasRoom_8 : decode cX8_hasRoom 8 = .ok (.isub, 1) := by decide +kernel
theorem dX8_hasRoom_9 : decode cX8_hasRoom 9 = .ok (.if_icmp .gt 7, 3) := by decide +kernel
theorem dX8_hasRoom_12 : decode cX8_hasRoom 12 = .ok (.iconst 1, 1) := by decide +kernel
theorem dX8_hasRoom_13 : decode cX8_hasRoom 13 = .ok (.goto 4, 3) := by decide +kernel
theorem dX8_hasRoom_16 : decode cX8_hasRoom 16 = .ok (.iconst 0, 1) := by decide +kernel
theorem dX8_hasRoom_17 : decode cX8_hasRoom 17 = .ok (.ireturn, 1) := by decide +kernel
theorem dX8_addBytes_0 : decode cX8_addBytes 0 = .ok (.bipush 24, 2) := by decide +kernel
theorem dX8_addBytes_2 : decode cX8_addBytes 2 = .ok (.istore_n 2, 1) := by decide +kernel
theorem dX8_addBytes_3 : decode cX8_addBytes 3 = .ok (.iload_n 2, 1) := by decide +kernel
theorem dX8_addBytes_4 : decode cX8_addBytes 4 = .ok (.ifCond .lt 42, 3) := by decide +kernel
theorem dX8_addBytes_7 : decode cX8_addBytes 7 = .ok (.aload_n 0, 1) := by decide +kernel
theorem dX8_addBytes_8 : decode cX8_addBytes 8 = .ok (.getfield 19, 3) := by decide +kernel
theorem dX8_addBytes_11 : decode cX8_addBytes 11 = .ok (.sipush 900, 3) := by decide +kernel
theorem dX8_addBytes_14 : decode cX8_addBytes 14 = .ok (.if_icmp .ge 32, 3) := by decide +kernel
theorem dX8_addBytes_17 : decode cX8_addBytes 17 = .ok (.aload_n 0, 1) := by decide +kernel
theorem dX8_addBytes_18 : decode cX8_addBytes 18 = .ok (.getfield 9, 3) := by decide +kernel
theorem dX8_addBytes_21 : decode cX8_addBytes 21 = .ok (.aload_n 0, 1) := by decide +kernel
theorem dX8_addBytes_22 : decode cX8_addBytes 22 = .ok (.getfield 19, 3) := by decide +kernel
theorem dX8_addBytes_25 : decode cX8_addBytes 25 = .ok (.iload_n 1, 1) := by decide +kernel
theorem dX8_addBytes_26 : decode cX8_addBytes 26 = .ok (.iload_n 2, 1) := by decide +kernel
theorem dX8_addBytes_27 : decode cX8_addBytes 27 = .ok (.ishr, 1) := by decide +kernel
theorem dX8_addBytes_28 : decode cX8_addBytes 28 = .ok (.i2b, 1) := by decide +kernel
theorem dX8_addBytes_29 : decode cX8_addBytes 29 = .ok (.bastore, 1) := by decide +kernel
theorem dX8_addBytes_30 : decode cX8_addBytes 30 = .ok (.aload_n 0, 1) := by decide +kernel
theorem dX8_addBytes_31 : decode cX8_addBytes 31 = .ok (.dup, 1) := by decide +kernel
theorem dX8_addBytes_32 : decode cX8_addBytes 32 = .ok (.getfield 19, 3) := by decide +kernel
theorem dX8_addBytes_35 : decode cX8_addBytes 35 = .ok (.iconst 1, 1) := by decide +kernel
theorem dX8_addBytes_36 : decode cX8_addBytes 36 = .ok (.iadd, 1) := by decide +kernel
theorem dX8_addBytes_37 : decode cX8_addBytes 37 = .ok (.putfield 19, 3) := by decide +kernel
theorem dX8_addBytes_40 : decode cX8_addBytes 40 = .ok (.iinc 2 (-8), 3) := by decide +kernel
theorem dX8_addBytes_43 : decode cX8_addBytes 43 = .ok (.goto (-40), 3) := by decide +kernel
theorem dX8_addBytes_46 : decode cX8_addBytes 46 = .ok (.return_, 1) := by decide +kernel
theorem dX8_begin_0 : decode cX8_begin 0 = .ok (.aload_n 0, 1) := by decide +kernel
theorem dX8_begin_1 : decode cX8_begin 1 = .ok (.iload_n 1, 1) := by decide +kernel
theorem dX8_begin_2 : decode cX8_begin 2 = .ok (.aload_n 0, 1) := by decide +kernel
theorem dX8_begin_3 : decode cX8_begin 3 = .ok (.getfield 19, 3) := by decide +kernel
theorem dX8_begin_6 : decode cX8_begin 6 = .ok (.invokestatic 66, 3) := by decide +kernel
theorem dX8_begin_9 : decode cX8_begin 9 = .ok (.putfield 29, 3) := by decide +kernel
theorem dX8_begin_12 : decode cX8_begin 12 = .ok (.aload_n 0, 1) := by decide +kernel
theorem dX8_begin_13 : decode cX8_begin 13 = .ok (.iconst 0, 1) := by decide +kernel
theorem dX8_begin_14 : decode cX8_begin 14 = .ok (.putfield 19, 3) := by decide +kernel
theorem dX8_begin_17 : decode cX8_begin 17 = .ok (.aload_n 0, 1) := by decide +kernel
theorem dX8_begin_18 : decode cX8_begin 18 = .ok (.iconst 0, 1) := by decide +kernel
theorem dX8_begin_19 : decode cX8_begin 19 = .ok (.putfield 23, 3) := by decide +kernel
theorem dX8_begin_22 : decode cX8_begin 22 = .ok (.aload_n 0, 1) := by decide +kernel
theorem dX8_begin_23 : decode cX8_begin 23 = .ok (.iconst (-1), 1) := by decide +kernel
theorem dX8_begin_24 : decode cX8_begin 24 = .ok (.putfield 26, 3) := by decide +kernel
theorem dX8_begin_27 : decode cX8_begin 27 = .ok (.aload_n 0, 1) := by decide +kernel
theorem dX8_begin_28 : decode cX8_begin 28 = .ok (.iconst 0, 1) := by decide +kernel
theorem dX8_begin_29 : decode cX8_begin 29 = .ok (.putfield 42, 3) := by decide +kernel
theorem dX8_begin_32 : decode cX8_begin 32 = .ok (.aload_n 0, 1) := by decide +kernel
theorem dX8_begin_33 : decode cX8_begin 33 = .ok (.iconst 0, 1) := by decide +kernel
theorem dX8_begin_34 : decode cX8_begin 34 = .ok (.putfield 45, 3) := by decide +kernel
theorem dX8_begin_37 : decode cX8_begin 37 = .ok (.iconst 0, 1) := by decide +kernel
theorem dX8_begin_38 : decode cX8_begin 38 = .ok (.istore_n 2, 1) := by decide +kernel
theorem dX8_begin_39 : decode cX8_begin 39 = .ok (.iload_n 2, 1) := by decide +kernel
theorem dX8_begin_40 : decode cX8_begin 40 = .ok (.aload_n 0, 1) := by decide +kernel
theorem dX8_begin_41 : decode cX8_begin 41 = .ok (.getfield 29, 3) := by decide +kernel
theorem dX8_begin_44 : decode cX8_begin 44 = .ok (.if_icmp .ge 60, 3) := by decide +kernel
theorem dX8_begin_47 : decode cX8_begin 47 = .ok (.aload_n 0, 1) := by decide +kernel
theorem dX8_begin_48 : decode cX8_begin 48 = .ok (.getfield 42, 3) := by decide +kernel
theorem dX8_begin_51 : decode cX8_begin 51 = .ok (.sipush 900, 3) := by decide +kernel
theorem dX8_begin_54 : decode cX8_begin 54 = .ok (.if_icmp .ge 50, 3) := by decide +kernel
theorem dX8_begin_57 : decode cX8_begin 57 = .ok (.aload_n 0, 1) := by decide +kernel
theorem dX8_begin_58 : decode cX8_begin 58 = .ok (.getfield 9, 3) := by decide +kernel
theorem dX8_begin_61 : decode cX8_begin 61 = .ok (.iload_n 2, 1) := by decide +kernel
theorem dX8_begin_62 : decode cX8_begin 62 = .ok (.baload, 1) := by decide +kernel
theorem dX8_begin_63 : decode cX8_begin 63 = .ok (.bipush 10, 2) := by decide +kernel
theorem dX8_begin_65 : decode cX8_begin 65 = .ok (.if_icmp .eq 14, 3) := by decide +kernel
theorem dX8_begin_68 : decode cX8_begin 68 = .ok (.aload_n 0, 1) := by decide +kernel
theorem dX8_begin_69 : decode cX8_begin 69 = .ok (.getfield 9, 3) := by decide +kernel
theorem dX8_begin_72 : decode cX8_begin 72 = .ok (.iload_n 2, 1) := by decide +kernel
theorem dX8_begin_73 : decode cX8_begin 73 = .ok (.baload, 1) := by decide +kernel
theorem dX8_begin_74 : decode cX8_begin 74 = .ok (.bipush 32, 2) := by decide +kernel
theorem dX8_begin_76 : decode cX8_begin 76 = .ok (.if_icmp .ne 9, 3) := by decide +kernel
theorem dX8_begin_79 : decode cX8_begin 79 = .ok (.iinc 2 1, 3) := by decide +kernel
theorem dX8_begin_82 : decode cX8_begin 82 = .ok (.goto (-43), 3) := by decide +kernel
theorem dX8_begin_85 : decode cX8_begin 85 = .ok (.aload_n 0, 1) := by decide +kernel
theorem dX8_begin_86 : decode cX8_begin 86 = .ok (.iload_n 2, 1) := by decide +kernel
theorem dX8_begin_87 : decode cX8_begin 87 = .ok (.invokevirtual 72, 3) := by decide +kernel
theorem dX8_begin_90 : decode cX8_begin 90 = .ok (.istore_n 2, 1) := by decide +kernel
theorem dX8_begin_91 : decode cX8_begin 91 = .ok (.aload_n 0, 1) := by decide +kernel
theorem dX8_begin_92 : decode cX8_begin 92 = .ok (.dup, 1) := by decide +kernel
theorem dX8_begin_93 : decode cX8_begin 93 = .ok (.getfield 42, 3) := by decide +kernel
theorem dX8_begin_96 : decode cX8_begin 96 = .ok (.iconst 1, 1) := by decide +kernel
theorem dX8_begin_97 : decode cX8_begin 97 = .ok (.iadd, 1) := by decide +kernel
theorem dX8_begin_98 : decode cX8_begin 98 = .ok (.putfield 42, 3) := by decide +kernel
theorem dX8_begin_101 : decode cX8_begin 101 = .ok (.goto (-62), 3) := by decide +kernel
theorem dX8_begin_104 : decode cX8_begin 104 = .ok (.aload_n 0, 1) := by decide +kernel
theorem dX8_begin_105 : decode cX8_begin 105 = .ok (.getfield 32, 3) := by decide +kernel
theorem dX8_begin_108 : decode cX8_begin 108 = .ok (.aload_n 0, 1) := by decide +kernel
theorem dX8_begin_109 : decode cX8_begin 109 = .ok (.getfield 42, 3) := by decide +kernel
theorem dX8_begin_112 : decode cX8_begin 112 = .ok (.bipush 33, 2) := by decide +kernel
theorem dX8_begin_114 : decode cX8_begin 114 = .ok (.iastore, 1) := by decide +kernel
theorem dX8_begin_115 : decode cX8_begin 115 = .ok (.aload_n 0, 1) := by decide +kernel
theorem dX8_begin_116 : decode cX8_begin 116 = .ok (.getfield 36, 3) := by decide +kernel
theorem dX8_begin_119 : decode cX8_begin 119 = .ok (.aload_n 0, 1) := by decide +kernel
theorem dX8_begin_120 : decode cX8_begin 120 = .ok (.getfield 42, 3) := by decide +kernel
theorem dX8_begin_123 : decode cX8_begin 123 = .ok (.aload_n 0, 1) := by decide +kernel
theorem dX8_begin_124 : decode cX8_begin 124 = .ok (.getfield 29, 3) := by decide +kernel
theorem dX8_begin_127 : decode cX8_begin 127 = .ok (.iastore, 1) := by decide +kernel
theorem dX8_begin_128 : decode cX8_begin 128 = .ok (.return_, 1) := by decide +kernel
theorem dX8_addToken_0 : decode cX8_addToken 0 = .ok (.aload_n 0, 1) := by decide +kernel
theorem dX8_addToken_1 : decode cX8_addToken 1 = .ok (.getfield 36, 3) := by decide +kernel
theorem dX8_addToken_4 : decode cX8_addToken 4 = .ok (.aload_n 0, 1) := by decide +kernel
theorem dX8_addToken_5 : decode cX8_addToken 5 = .ok (.getfield 42, 3) := by decide +kernel
theorem dX8_addToken_8 : decode cX8_addToken 8 = .ok (.iload_n 1, 1) := by decide +kernel
theorem dX8_addToken_9 : decode cX8_addToken 9 = .ok (.iastore, 1) := by decide +kernel
theorem dX8_addToken_10 : decode cX8_addToken 10 = .ok (.aload_n 0, 1) := by decide +kernel
theorem dX8_addToken_11 : decode cX8_addToken 11 = .ok (.getfield 9, 3) := by decide +kernel
theorem dX8_addToken_14 : decode cX8_addToken 14 = .ok (.iload_n 1, 1) := by decide +kernel
theorem dX8_addToken_15 : decode cX8_addToken 15 = .ok (.baload, 1) := by decide +kernel
theorem dX8_addToken_16 : decode cX8_addToken 16 = .ok (.invokestatic 76, 3) := by decide +kernel
theorem dX8_addToken_19 : decode cX8_addToken 19 = .ok (.ifCond .eq 9, 3) := by decide +kernel
theorem dX8_addToken_22 : decode cX8_addToken 22 = .ok (.aload_n 0, 1) := by decide +kernel
theorem dX8_addToken_23 : decode cX8_addToken 23 = .ok (.iload_n 1, 1) := by decide +kernel
theorem dX8_addToken_24 : decode cX8_addToken 24 = .ok (.invokevirtual 80, 3) := by decide +kernel
theorem dX8_addToken_27 : decode cX8_addToken 27 = .ok (.ireturn, 1) := by decide +kernel
theorem dX8_addToken_28 : decode cX8_addToken 28 = .ok (.aload_n 0, 1) := by decide +kernel
theorem dX8_addToken_29 : decode cX8_addToken 29 = .ok (.getfield 9, 3) := by decide +kernel
theorem dX8_addToken_32 : decode cX8_addToken 32 = .ok (.iload_n 1, 1) := by decide +kernel
theorem dX8_addToken_33 : decode cX8_addToken 33 = .ok (.baload, 1) := by decide +kernel
theorem dX8_addToken_34 : decode cX8_addToken 34 = .ok (.invokestatic 83, 3) := by decide +kernel
theorem dX8_addToken_37 : decode cX8_addToken 37 = .ok (.ifCond .eq 9, 3) := by decide +kernel
theorem dX8_addToken_40 : decode cX8_addToken 40 = .ok (.aload_n 0, 1) := by decide +kernel
theorem dX8_addToken_41 : decode cX8_addToken 41 = .ok (.iload_n 1, 1) := by decide +kernel
theorem dX8_addToken_42 : decode cX8_addToken 42 = .ok (.invokevirtual 86, 3) := by decide +kernel
theorem dX8_addToken_45 : decode cX8_addToken 45 = .ok (.ireturn, 1) := by decide +kernel
theorem dX8_addToken_46 : decode cX8_addToken 46 = .ok (.aload_n 0, 1) := by decide +kernel
theorem dX8_addToken_47 : decode cX8_addToken 47 = .ok (.getfield 32, 3) := by decide +kernel
theorem dX8_addToken_50 : decode cX8_addToken 50 = .ok (.aload_n 0, 1) := by decide +kernel
theorem dX8_addToken_51 : decode cX8_addToken 51 = .ok (.getfield 42, 3) := by decide +kernel
theorem dX8_addToken_54 : decode cX8_addToken 54 = .ok (.aload_n 0, 1) := by decide +kernel
theorem dX8_addToken_55 : decode cX8_addToken 55 = .ok (.getfield 9, 3) := by decide +kernel
theorem dX8_addToken_58 : decode cX8_addToken 58 = .ok (.iload_n 1, 1) := by decide +kernel
theorem dX8_addToken_59 : decode cX8_addToken 59 = .ok (.baload, 1) := by decide +kernel
theorem dX8_addToken_60 : decode cX8_addToken 60 = .ok (.bipush 59, 2) := by decide +kernel
theorem dX8_addToken_62 : decode cX8_addToken 62 = .ok (.if_icmp .ne 8, 3) := by decide +kernel
theorem dX8_addToken_65 : decode cX8_addToken 65 = .ok (.bipush 31, 2) := by decide +kernel
theorem dX8_addToken_67 : decode cX8_addToken 67 = .ok (.goto 5, 3) := by decide +kernel
theorem dX8_addToken_70 : decode cX8_addToken 70 = .ok (.bipush 32, 2) := by decide +kernel
theorem dX8_addToken_72 : decode cX8_addToken 72 = .ok (.iastore, 1) := by decide +kernel
theorem dX8_addToken_73 : decode cX8_addToken 73 = .ok (.iload_n 1, 1) := by decide +kernel
theorem dX8_addToken_74 : decode cX8_addToken 74 = .ok (.iconst 1, 1) := by decide +kernel
theorem dX8_addToken_75 : decode cX8_addToken 75 = .ok (.iadd, 1) := by decide +kernel
theorem dX8_addToken_76 : decode cX8_addToken 76 = .ok (.ireturn, 1) := by decide +kernel
theorem dX8_isLetter_0 : decode cX8_isLetter 0 = .ok (.iload_n 0, 1) := by decide +kernel
theorem dX8_isLetter_1 : decode cX8_isLetter 1 = .ok (.bipush 97, 2) := by decide +kernel
theorem dX8_isLetter_3 : decode cX8_isLetter 3 = .ok (.if_icmp .lt 13, 3) := by decide +kernel
theorem dX8_isLetter_6 : decode cX8_isLetter 6 = .ok (.iload_n 0, 1) := by decide +kernel
theorem dX8_isLetter_7 : decode cX8_isLetter 7 = .ok (.bipush 122, 2) := by decide +kernel
theorem dX8_isLetter_9 : decode cX8_isLetter 9 = .ok (.if_icmp .gt 7, 3) := by decide +kernel
theorem dX8_isLetter_12 : decode cX8_isLetter 12 = .ok (.iconst 1, 1) := by decide +kernel
theorem dX8_isLetter_13 : decode cX8_isLetter 13 = .ok (.goto 4, 3) := by decide +kernel
theorem dX8_isLetter_16 : decode cX8_isLetter 16 = .ok (.iconst 0, 1) := by decide +kernel
theorem dX8_isLetter_17 : decode cX8_isLetter 17 = .ok (.ireturn, 1) := by decide +kernel
theorem dX8_isDigit_0 : decode cX8_isDigit 0 = .ok (.iload_n 0, 1) := by decide +kernel
theorem dX8_isDigit_1 : decode cX8_isDigit 1 = .ok (.bipush 48, 2) := by decide +kernel
theorem dX8_isDigit_3 : decode cX8_isDigit 3 = .ok (.if_icmp .lt 13, 3) := by decide +kernel
theorem dX8_isDigit_6 : decode cX8_isDigit 6 = .ok (.iload_n 0, 1) := by decide +kernel
theorem dX8_isDigit_7 : decode cX8_isDigit 7 = .ok (.bipush 57, 2) := by decide +kernel
theorem dX8_isDigit_9 : decode cX8_isDigit 9 = .ok (.if_icmp .gt 7, 3) := by decide +kernel
theorem dX8_isDigit_12 : decode cX8_isDigit 12 = .ok (.iconst 1, 1) := by decide +kernel
theorem dX8_isDigit_13 : decode cX8_isDigit 13 = .ok (.goto 4, 3) := by decide +kernel
theorem dX8_isDigit_16 : decode cX8_isDigit 16 = .ok (.iconst 0, 1) := by decide +kernel
theorem dX8_isDigit_17 : decode cX8_isDigit 17 = .ok (.ireturn, 1) := by decide +kernel
theorem dX8_addWord_0 : decode cX8_addWord 0 = .ok (.iload_n 1, 1) := by decide +kernel
theorem dX8_addWord_1 : decode cX8_addWord 1 = .ok (.istore_n 2, 1) := by decide +kernel
theorem dX8_addWord_2 : decode cX8_addWord 2 = .ok (.lconst 0, 1) := by decide +kernel
theorem dX8_addWord_3 : decode cX8_addWord 3 = .ok (.lstore_n 3, 1) := by decide +kernel
theorem dX8_addWord_4 : decode cX8_addWord 4 = .ok (.iload_n 2, 1) := by decide +kernel
theorem dX8_addWord_5 : decode cX8_addWord 5 = .ok (.aload_n 0, 1) := by decide +kernel
theorem dX8_addWord_6 : decode cX8_addWord 6 = .ok (.getfield 29, 3) := by decide +kernel
theorem dX8_addWord_9 : decode cX8_addWord 9 = .ok (.if_icmp .ge 40, 3) := by decide +kernel
theorem dX8_addWord_12 : decode cX8_addWord 12 = .ok (.aload_n 0, 1) := by decide +kernel
theorem dX8_addWord_13 : decode cX8_addWord 13 = .ok (.getfield 9, 3) := by decide +kernel
theorem dX8_addWord_16 : decode cX8_addWord 16 = .ok (.iload_n 2, 1) := by decide +kernel
theorem dX8_addWord_17 : decode cX8_addWord 17 = .ok (.baload, 1) := by decide +kernel
theorem dX8_addWord_18 : decode cX8_addWord 18 = .ok (.invokestatic 76, 3) := by decide +kernel
theorem dX8_addWord_21 : decode cX8_addWord 21 = .ok (.ifCond .eq 28, 3) := by decide +kernel
theorem dX8_addWord_24 : decode cX8_addWord 24 = .ok (.iload_n 2, 1) := by decide +kernel
theorem dX8_addWord_25 : decode cX8_addWord 25 = .ok (.iload_n 1, 1) := by decide +kernel
theorem dX8_addWord_26 : decode cX8_addWord 26 = .ok (.isub, 1) := by decide +kernel
theorem dX8_addWord_27 : decode cX8_addWord 27 = .ok (.bipush 8, 2) := by decide +kernel
theorem dX8_addWord_29 : decode cX8_addWord 29 = .ok (.if_icmp .ge 14, 3) := by decide +kernel
theorem dX8_addWord_32 : decode cX8_addWord 32 = .ok (.lload_n 3, 1) := by decide +kernel
theorem dX8_addWord_33 : decode cX8_addWord 33 = .ok (.aload_n 0, 1) := by decide +kernel
theorem dX8_addWord_34 : decode cX8_addWord 34 = .ok (.getfield 9, 3) := by decide +kernel
theorem dX8_addWord_37 : decode cX8_addWord 37 = .ok (.iload_n 2, 1) := by decide +kernel
theorem dX8_addWord_38 : decode cX8_addWord 38 = .ok (.baload, 1) := by decide +kernel
theorem dX8_addWord_39 : decode cX8_addWord 39 = .ok (.invokestatic 60, 3) := by decide +kernel
theorem dX8_addWord_42 : decode cX8_addWord 42 = .ok (.lstore_n 3, 1) := by decide +kernel
theorem dX8_addWord_43 : decode cX8_addWord 43 = .ok (.iinc 2 1, 3) := by decide +kernel
theorem dX8_addWord_46 : decode cX8_addWord 46 = .ok (.goto (-42), 3) := by decide +kernel
theorem dX8_addWord_49 : decode cX8_addWord 49 = .ok (.aload_n 0, 1) := by decide +kernel
theorem dX8_addWord_50 : decode cX8_addWord 50 = .ok (.getfield 39, 3) := by decide +kernel
theorem dX8_addWord_53 : decode cX8_addWord 53 = .ok (.aload_n 0, 1) := by decide +kernel
theorem dX8_addWord_54 : decode cX8_addWord 54 = .ok (.getfield 42, 3) := by decide +kernel
theorem dX8_addWord_57 : decode cX8_addWord 57 = .ok (.lload_n 3, 1) := by decide +kernel
theorem dX8_addWord_58 : decode cX8_addWord 58 = .ok (.lastore, 1) := by decide +kernel
theorem dX8_addWord_59 : decode cX8_addWord 59 = .ok (.aload_n 0, 1) := by decide +kernel
theorem dX8_addWord_60 : decode cX8_addWord 60 = .ok (.getfield 32, 3) := by decide +kernel
theorem dX8_addWord_63 : decode cX8_addWord 63 = .ok (.aload_n 0, 1) := by decide +kernel
theorem dX8_addWord_64 : decode cX8_addWord 64 = .ok (.getfield 42, 3) := by decide +kernel
theorem dX8_addWord_67 : decode cX8_addWord 67 = .ok (.iload_n 2, 1) := by decide +kernel
theorem dX8_addWord_68 : decode cX8_addWord 68 = .ok (.iload_n 1, 1) := by decide +kernel
theorem dX8_addWord_69 : decode cX8_addWord 69 = .ok (.isub, 1) := by decide +kernel
theorem dX8_addWord_70 : decode cX8_addWord 70 = .ok (.bipush 8, 2) := by decide +kernel
theorem dX8_addWord_72 : decode cX8_addWord 72 = .ok (.if_icmp .le 8, 3) := by decide +kernel
theorem dX8_addWord_75 : decode cX8_addWord 75 = .ok (.bipush 29, 2) := by decide +kernel
theorem dX8_addWord_77 : decode cX8_addWord 77 = .ok (.goto 8, 3) := by decide +kernel
theorem dX8_addWord_80 : decode cX8_addWord 80 = .ok (.aload_n 0, 1) := by decide +kernel
theorem dX8_addWord_81 : decode cX8_addWord 81 = .ok (.lload_n 3, 1) := by decide +kernel
theorem dX8_addWord_82 : decode cX8_addWord 82 = .ok (.invokevirtual 89, 3) := by decide +kernel
theorem dX8_addWord_85 : decode cX8_addWord 85 = .ok (.iastore, 1) := by decide +kernel
theorem dX8_addWord_86 : decode cX8_addWord 86 = .ok (.iload_n 2, 1) := by decide +kernel
theorem dX8_addWord_87 : decode cX8_addWord 87 = .ok (.ireturn, 1) := by decide +kernel
theorem dX8_kindOfWord_0 : decode cX8_kindOfWord 0 = .ok (.iconst 0, 1) := by decide +kernel
theorem dX8_kindOfWord_1 : decode cX8_kindOfWord 1 = .ok (.istore_n 3, 1) := by decide +kernel
theorem dX8_kindOfWord_2 : decode cX8_kindOfWord 2 = .ok (.iload_n 3, 1) := by decide +kernel
theorem dX8_kindOfWord_3 : decode cX8_kindOfWord 3 = .ok (.bipush 28, 2) := by decide +kernel
theorem dX8_kindOfWord_5 : decode cX8_kindOfWord 5 = .ok (.if_icmp .ge 22, 3) := by decide +kernel
theorem dX8_kindOfWord_8 : decode cX8_kindOfWord 8 = .ok (.aload_n 0, 1) := by decide +kernel
theorem dX8_kindOfWord_9 : decode cX8_kindOfWord 9 = .ok (.getfield 15, 3) := by decide +kernel
theorem dX8_kindOfWord_12 : decode cX8_kindOfWord 12 = .ok (.iload_n 3, 1) := by decide +kernel
theorem dX8_kindOfWord_13 : decode cX8_kindOfWord 13 = .ok (.laload, 1) := by decide +kernel
theorem dX8_kindOfWord_14 : decode cX8_kindOfWord 14 = .ok (.lload_n 1, 1) := by decide +kernel
theorem dX8_kindOfWord_15 : decode cX8_kindOfWord 15 = .ok (.lcmp, 1) := by decide +kernel
theorem dX8_kindOfWord_16 : decode cX8_kindOfWord 16 = .ok (.ifCond .ne 5, 3) := by decide +kernel
theorem dX8_kindOfWord_19 : decode cX8_kindOfWord 19 = .ok (.iload_n 3, 1) := by decide +kernel
theorem dX8_kindOfWord_20 : decode cX8_kindOfWord 20 = .ok (.ireturn, 1) := by decide +kernel
theorem dX8_kindOfWord_21 : decode cX8_kindOfWord 21 = .ok (.iinc 3 1, 3) := by decide +kernel
theorem dX8_kindOfWord_24 : decode cX8_kindOfWord 24 = .ok (.goto (-22), 3) := by decide +kernel
theorem dX8_kindOfWord_27 : decode cX8_kindOfWord 27 = .ok (.bipush 28, 2) := by decide +kernel
theorem dX8_kindOfWord_29 : decode cX8_kindOfWord 29 = .ok (.ireturn, 1) := by decide +kernel
theorem dX8_addNumber_0 : decode cX8_addNumber 0 = .ok (.iload_n 1, 1) := by decide +kernel
theorem dX8_addNumber_1 : decode cX8_addNumber 1 = .ok (.istore_n 2, 1) := by decide +kernel
theorem dX8_addNumber_2 : decode cX8_addNumber 2 = .ok (.lconst 0, 1) := by decide +kernel
theorem dX8_addNumber_3 : decode cX8_addNumber 3 = .ok (.lstore_n 3, 1) := by decide +kernel
theorem dX8_addNumber_4 : decode cX8_addNumber 4 = .ok (.iload_n 2, 1) := by decide +kernel
theorem dX8_addNumber_5 : decode cX8_addNumber 5 = .ok (.aload_n 0, 1) := by decide +kernel
theorem dX8_addNumber_6 : decode cX8_addNumber 6 = .ok (.getfield 29, 3) := by decide +kernel
theorem dX8_addNumber_9 : decode cX8_addNumber 9 = .ok (.if_icmp .ge 45, 3) := by decide +kernel
theorem dX8_addNumber_12 : decode cX8_addNumber 12 = .ok (.aload_n 0, 1) := by decide +kernel
theorem dX8_addNumber_13 : decode cX8_addNumber 13 = .ok (.getfield 9, 3) := by decide +kernel
theorem dX8_addNumber_16 : decode cX8_addNumber 16 = .ok (.iload_n 2, 1) := by decide +kernel
theorem dX8_addNumber_17 : decode cX8_addNumber 17 = .ok (.baload, 1) := by decide +kernel
theorem dX8_addNumber_18 : decode cX8_addNumber 18 = .ok (.invokestatic 83, 3) := by decide +kernel
theorem dX8_addNumber_21 : decode cX8_addNumber 21 = .ok (.ifCond .eq 33, 3) := by decide +kernel
theorem dX8_addNumber_24 : decode cX8_addNumber 24 = .ok (.iload_n 2, 1) := by decide +kernel
theorem dX8_addNumber_25 : decode cX8_addNumber 25 = .ok (.iload_n 1, 1) := by decide +kernel
theorem dX8_addNumber_26 : decode cX8_addNumber 26 = .ok (.isub, 1) := by decide +kernel
theorem dX8_addNumber_27 : decode cX8_addNumber 27 = .ok (.iconst 4, 1) := by decide +kernel
theorem dX8_addNumber_28 : decode cX8_addNumber 28 = .ok (.if_icmp .ge 20, 3) := by decide +kernel
theorem dX8_addNumber_31 : decode cX8_addNumber 31 = .ok (.lload_n 3, 1) := by decide +kernel
theorem dX8_addNumber_32 : decode cX8_addNumber 32 = .ok (.ldc2_w 93, 3) := by decide +kernel
theorem dX8_addNumber_35 : decode cX8_addNumber 35 = .ok (.lmul, 1) := by decide +kernel
theorem dX8_addNumber_36 : decode cX8_addNumber 36 = .ok (.aload_n 0, 1) := by decide +kernel
theorem dX8_addNumber_37 : decode cX8_addNumber 37 = .ok (.getfield 9, 3) := by decide +kernel
theorem dX8_addNumber_40 : decode cX8_addNumber 40 = .ok (.iload_n 2, 1) := by decide +kernel
theorem dX8_addNumber_41 : decode cX8_addNumber 41 = .ok (.baload, 1) := by decide +kernel
theorem dX8_addNumber_42 : decode cX8_addNumber 42 = .ok (.bipush 48, 2) := by decide +kernel
theorem dX8_addNumber_44 : decode cX8_addNumber 44 = .ok (.isub, 1) := by decide +kernel
theorem dX8_addNumber_45 : decode cX8_addNumber 45 = .ok (.i2l, 1) := by decide +kernel
theorem dX8_addNumber_46 : decode cX8_addNumber 46 = .ok (.ladd, 1) := by decide +kernel
theorem dX8_addNumber_47 : decode cX8_addNumber 47 = .ok (.lstore_n 3, 1) := by decide +kernel
theorem dX8_addNumber_48 : decode cX8_addNumber 48 = .ok (.iinc 2 1, 3) := by decide +kernel
theorem dX8_addNumber_51 : decode cX8_addNumber 51 = .ok (.goto (-47), 3) := by decide +kernel
theorem dX8_addNumber_54 : decode cX8_addNumber 54 = .ok (.aload_n 0, 1) := by decide +kernel
theorem dX8_addNumber_55 : decode cX8_addNumber 55 = .ok (.getfield 39, 3) := by decide +kernel
theorem dX8_addNumber_58 : decode cX8_addNumber 58 = .ok (.aload_n 0, 1) := by decide +kernel
theorem dX8_addNumber_59 : decode cX8_addNumber 59 = .ok (.getfield 42, 3) := by decide +kernel
theorem dX8_addNumber_62 : decode cX8_addNumber 62 = .ok (.lload_n 3, 1) := by decide +kernel
theorem dX8_addNumber_63 : decode cX8_addNumber 63 = .ok (.lastore, 1) := by decide +kernel
theorem dX8_addNumber_64 : decode cX8_addNumber 64 = .ok (.aload_n 0, 1) := by decide +kernel
theorem dX8_addNumber_65 : decode cX8_addNumber 65 = .ok (.getfield 32, 3) := by decide +kernel
theorem dX8_addNumber_68 : decode cX8_addNumber 68 = .ok (.aload_n 0, 1) := by decide +kernel
theorem dX8_addNumber_69 : decode cX8_addNumber 69 = .ok (.getfield 42, 3) := by decide +kernel
theorem dX8_addNumber_72 : decode cX8_addNumber 72 = .ok (.iload_n 2, 1) := by decide +kernel
theorem dX8_addNumber_73 : decode cX8_addNumber 73 = .ok (.iload_n 1, 1) := by decide +kernel
theorem dX8_addNumber_74 : decode cX8_addNumber 74 = .ok (.isub, 1) := by decide +kernel
theorem dX8_addNumber_75 : decode cX8_addNumber 75 = .ok (.iconst 4, 1) := by decide +kernel
theorem dX8_addNumber_76 : decode cX8_addNumber 76 = .ok (.if_icmp .le 8, 3) := by decide +kernel
theorem dX8_addNumber_79 : decode cX8_addNumber 79 = .ok (.bipush 32, 2) := by decide +kernel
theorem dX8_addNumber_81 : decode cX8_addNumber 81 = .ok (.goto 5, 3) := by decide +kernel
theorem dX8_addNumber_84 : decode cX8_addNumber 84 = .ok (.bipush 30, 2) := by decide +kernel
theorem dX8_addNumber_86 : decode cX8_addNumber 86 = .ok (.iastore, 1) := by decide +kernel
theorem dX8_addNumber_87 : decode cX8_addNumber 87 = .ok (.iload_n 2, 1) := by decide +kernel
theorem dX8_addNumber_88 : decode cX8_addNumber 88 = .ok (.ireturn, 1) := by decide +kernel
theorem dX8_kindHere_0 : decode cX8_kindHere 0 = .ok (.aload_n 0, 1) := by decide +kernel
theorem dX8_kindHere_1 : decode cX8_kindHere 1 = .ok (.getfield 32, 3) := by decide +kernel
theorem dX8_kindHere_4 : decode cX8_kindHere 4 = .ok (.aload_n 0, 1) := by decide +kernel
theorem dX8_kindHere_5 : decode cX8_kindHere 5 = .ok (.getfield 45, 3) := by decide +kernel
theorem dX8_kindHere_8 : decode cX8_kindHere 8 = .ok (.iaload, 1) := by decide +kernel
theorem dX8_kindHere_9 : decode cX8_kindHere 9 = .ok (.ireturn, 1) := by decide +kernel
theorem dX8_nameHere_0 : decode cX8_nameHere 0 = .ok (.aload_n 0, 1) := by decide +kernel
theorem dX8_nameHere_1 : decode cX8_nameHere 1 = .ok (.getfield 39, 3) := by decide +kernel
theorem dX8_nameHere_4 : decode cX8_nameHere 4 = .ok (.aload_n 0, 1) := by decide +kernel
theorem dX8_nameHere_5 : decode cX8_nameHere 5 = .ok (.getfield 45, 3) := by decide +kernel
theorem dX8_nameHere_8 : decode cX8_nameHere 8 = .ok (.laload, 1) := by decide +kernel
theorem dX8_nameHere_9 : decode cX8_nameHere 9 = .ok (.lreturn, 1) := by decide +kernel
theorem dX8_isName_0 : decode cX8_isName 0 = .ok (.aload_n 0, 1) := by decide +kernel
theorem dX8_isName_1 : decode cX8_isName 1 = .ok (.getfield 32, 3) := by decide +kernel
theorem dX8_isName_4 : decode cX8_isName 4 = .ok (.aload_n 0, 1) := by decide +kernel
theorem dX8_isName_5 : decode cX8_isName 5 = .ok (.getfield 45, 3) := by decide +kernel
theorem dX8_isName_8 : decode cX8_isName 8 = .ok (.iaload, 1) := by decide +kernel
theorem dX8_isName_9 : decode cX8_isName 9 = .ok (.bipush 28, 2) := by decide +kernel
theorem dX8_isName_11 : decode cX8_isName 11 = .ok (.if_icmp .ne 7, 3) := by decide +kernel
theorem dX8_isName_14 : decode cX8_isName 14 = .ok (.iconst 1, 1) := by decide +kernel
theorem dX8_isName_15 : decode cX8_isName 15 = .ok (.goto 4, 3) := by decide +kernel
theorem dX8_isName_18 : decode cX8_isName 18 = .ok (.iconst 0, 1) := by decide +kernel
theorem dX8_isName_19 : decode cX8_isName 19 = .ok (.ireturn, 1) := by decide +kernel
theorem dX8_isEnd_0 : decode cX8_isEnd 0 = .ok (.aload_n 0, 1) := by decide +kernel
theorem dX8_isEnd_1 : decode cX8_isEnd 1 = .ok (.getfield 45, 3) := by decide +kernel
theorem dX8_isEnd_4 : decode cX8_isEnd 4 = .ok (.aload_n 0, 1) := by decide +kernel
theorem dX8_isEnd_5 : decode cX8_isEnd 5 = .ok (.getfield 42, 3) := by decide +kernel
theorem dX8_isEnd_8 : decode cX8_isEnd 8 = .ok (.if_icmp .lt 7, 3) := by decide +kernel
theorem dX8_isEnd_11 : decode cX8_isEnd 11 = .ok (.iconst 1, 1) := by decide +kernel
theorem dX8_isEnd_12 : decode cX8_isEnd 12 = .ok (.goto 4, 3) := by decide +kernel
theorem dX8_isEnd_15 : decode cX8_isEnd 15 = .ok (.iconst 0, 1) := by decide +kernel
theorem dX8_isEnd_16 : decode cX8_isEnd 16 = .ok (.ireturn, 1) := by decide +kernel
theorem dX8_advance_0 : decode cX8_advance 0 = .ok (.aload_n 0, 1) := by decide +kernel
theorem dX8_advance_1 : decode cX8_advance 1 = .ok (.getfield 45, 3) := by decide +kernel
theorem dX8_advance_4 : decode cX8_advance 4 = .ok (.aload_n 0, 1) := by decide +kernel
theorem dX8_advance_5 : decode cX8_advance 5 = .ok (.getfield 42, 3) := by decide +kernel
theorem dX8_advance_8 : decode cX8_advance 8 = .ok (.if_icmp .ge 13, 3) := by decide +kernel
theorem dX8_advance_11 : decode cX8_advance 11 = .ok (.aload_n 0, 1) := by decide +kernel
theorem dX8_advance_12 : decode cX8_advance 12 = .ok (.dup, 1) := by decide +kernel
theorem dX8_advance_13 : decode cX8_advance 13 = .ok (.getfield 45, 3) := by decide +kernel
theorem dX8_advance_16 : decode cX8_advance 16 = .ok (.iconst 1, 1) := by decide +kernel
theorem dX8_advance_17 : decode cX8_advance 17 = .ok (.iadd, 1) := by decide +kernel
theorem dX8_advance_18 : decode cX8_advance 18 = .ok (.putfield 45, 3) := by decide +kernel
theorem dX8_advance_21 : decode cX8_advance 21 = .ok (.return_, 1) := by decide +kernel
theorem dX8_blame_0 : decode cX8_blame 0 = .ok (.aload_n 0, 1) := by decide +kernel
theorem dX8_blame_1 : decode cX8_blame 1 = .ok (.iload_n 1, 1) := by decide +kernel
theorem dX8_blame_2 : decode cX8_blame 2 = .ok (.putfield 23, 3) := by decide +kernel
theorem dX8_blame_5 : decode cX8_blame 5 = .ok (.aload_n 0, 1) := by decide +kernel
theorem dX8_blame_6 : decode cX8_blame 6 = .ok (.aload_n 0, 1) := by decide +kernel
theorem dX8_blame_7 : decode cX8_blame 7 = .ok (.getfield 36, 3) := by decide +kernel
theorem dX8_blame_10 : decode cX8_blame 10 = .ok (.aload_n 0, 1) := by decide +kernel
theorem dX8_blame_11 : decode cX8_blame 11 = .ok (.getfield 45, 3) := by decide +kernel
theorem dX8_blame_14 : decode cX8_blame 14 = .ok (.iaload, 1) := by decide +kernel
theorem dX8_blame_15 : decode cX8_blame 15 = .ok (.putfield 26, 3) := by decide +kernel
theorem dX8_blame_18 : decode cX8_blame 18 = .ok (.iconst 0, 1) := by decide +kernel
theorem dX8_blame_19 : decode cX8_blame 19 = .ok (.ireturn, 1) := by decide +kernel
theorem dX8_blameToken_0 : decode cX8_blameToken 0 = .ok (.aload_n 0, 1) := by decide +kernel
theorem dX8_blameToken_1 : decode cX8_blameToken 1 = .ok (.aload_n 0, 1) := by decide +kernel
theorem dX8_blameToken_2 : decode cX8_blameToken 2 = .ok (.getfield 32, 3) := by decide +kernel
theorem dX8_blameToken_5 : decode cX8_blameToken 5 = .ok (.aload_n 0, 1) := by decide +kernel
theorem dX8_blameToken_6 : decode cX8_blameToken 6 = .ok (.getfield 45, 3) := by decide +kernel
theorem dX8_blameToken_9 : decode cX8_blameToken 9 = .ok (.iaload, 1) := by decide +kernel
theorem dX8_blameToken_10 : decode cX8_blameToken 10 = .ok (.bipush 32, 2) := by decide +kernel
theorem dX8_blameToken_12 : decode cX8_blameToken 12 = .ok (.if_icmp .ne 7, 3) := by decide +kernel
theorem dX8_blameToken_15 : decode cX8_blameToken 15 = .ok (.iconst 1, 1) := by decide +kernel
theorem dX8_blameToken_16 : decode cX8_blameToken 16 = .ok (.goto 4, 3) := by decide +kernel
theorem dX8_blameToken_19 : decode cX8_blameToken 19 = .ok (.iconst 2, 1) := by decide +kernel
theorem dX8_blameToken_20 : decode cX8_blameToken 20 = .ok (.putfield 23, 3) := by decide +kernel
theorem dX8_blameToken_23 : decode cX8_blameToken 23 = .ok (.aload_n 0, 1) := by decide +kernel
theorem dX8_blameToken_24 : decode cX8_blameToken 24 = .ok (.aload_n 0, 1) := by decide +kernel
theorem dX8_blameToken_25 : decode cX8_blameToken 25 = .ok (.getfield 36, 3) := by decide +kernel
theorem dX8_blameToken_28 : decode cX8_blameToken 28 = .ok (.aload_n 0, 1) := by decide +kernel
theorem dX8_blameToken_29 : decode cX8_blameToken 29 = .ok (.getfield 45, 3) := by decide +kernel
theorem dX8_blameToken_32 : decode cX8_blameToken 32 = .ok (.iaload, 1) := by decide +kernel
theorem dX8_blameToken_33 : decode cX8_blameToken 33 = .ok (.putfield 26, 3) := by decide +kernel
theorem dX8_blameToken_36 : decode cX8_blameToken 36 = .ok (.iconst 0, 1) := by decide +kernel
theorem dX8_blameToken_37 : decode cX8_blameToken 37 = .ok (.ireturn, 1) := by decide +kernel
theorem dX8_pass_0 : decode cX8_pass 0 = .ok (.aload_n 0, 1) := by decide +kernel
theorem dX8_pass_1 : decode cX8_pass 1 = .ok (.getfield 32, 3) := by decide +kernel
theorem dX8_pass_4 : decode cX8_pass 4 = .ok (.aload_n 0, 1) := by decide +kernel
theorem dX8_pass_5 : decode cX8_pass 5 = .ok (.getfield 45, 3) := by decide +kernel
theorem dX8_pass_8 : decode cX8_pass 8 = .ok (.iaload, 1) := by decide +kernel
theorem dX8_pass_9 : decode cX8_pass 9 = .ok (.iload_n 1, 1) := by decide +kernel
theorem dX8_pass_10 : decode cX8_pass 10 = .ok (.if_icmp .eq 8, 3) := by decide +kernel
theorem dX8_pass_13 : decode cX8_pass 13 = .ok (.aload_n 0, 1) := by decide +kernel
theorem dX8_pass_14 : decode cX8_pass 14 = .ok (.invokevirtual 95, 3) := by decide +kernel
theorem dX8_pass_17 : decode cX8_pass 17 = .ok (.ireturn, 1) := by decide +kernel
theorem dX8_pass_18 : decode cX8_pass 18 = .ok (.aload_n 0, 1) := by decide +kernel
theorem dX8_pass_19 : decode cX8_pass 19 = .ok (.invokevirtual 99, 3) := by decide +kernel
theorem dX8_pass_22 : decode cX8_pass 22 = .ok (.iconst 1, 1) := by decide +kernel
theorem dX8_pass_23 : decode cX8_pass 23 = .ok (.ireturn, 1) := by decide +kernel
theorem dX8_passNumber_0 : decode cX8_passNumber 0 = .ok (.aload_n 0, 1) := by decide +kernel
theorem dX8_passNumber_1 : decode cX8_passNumber 1 = .ok (.getfield 32, 3) := by decide +kernel
theorem dX8_passNumber_4 : decode cX8_passNumber 4 = .ok (.aload_n 0, 1) := by decide +kernel
theorem dX8_passNumber_5 : decode cX8_passNumber 5 = .ok (.getfield 45, 3) := by decide +kernel
theorem dX8_passNumber_8 : decode cX8_passNumber 8 = .ok (.iaload, 1) := by decide +kernel
theorem dX8_passNumber_9 : decode cX8_passNumber 9 = .ok (.bipush 30, 2) := by decide +kernel
theorem dX8_passNumber_11 : decode cX8_passNumber 11 = .ok (.if_icmp .eq 10, 3) := by decide +kernel
theorem dX8_passNumber_14 : decode cX8_passNumber 14 = .ok (.aload_n 0, 1) := by decide +kernel
theorem dX8_passNumber_15 : decode cX8_passNumber 15 = .ok (.invokevirtual 95, 3) := by decide +kernel
theorem dX8_passNumber_18 : decode cX8_passNumber 18 = .ok (.pop, 1) := by decide +kernel
theorem dX8_passNumber_19 : decode cX8_passNumber 19 = .ok (.iconst (-1), 1) := by decide +kernel
theorem dX8_passNumber_20 : decode cX8_passNumber 20 = .ok (.ireturn, 1) := by decide +kernel
theorem dX8_passNumber_21 : decode cX8_passNumber 21 = .ok (.aload_n 0, 1) := by decide +kernel
theorem dX8_passNumber_22 : decode cX8_passNumber 22 = .ok (.getfield 39, 3) := by decide +kernel
theorem dX8_passNumber_25 : decode cX8_passNumber 25 = .ok (.aload_n 0, 1) := by decide +kernel
theorem dX8_passNumber_26 : decode cX8_passNumber 26 = .ok (.getfield 45, 3) := by decide +kernel
theorem dX8_passNumber_29 : decode cX8_passNumber 29 = .ok (.laload, 1) := by decide +kernel
theorem dX8_passNumber_30 : decode cX8_passNumber 30 = .ok (.l2i, 1) := by decide +kernel
theorem dX8_passNumber_31 : decode cX8_passNumber 31 = .ok (.istore_n 3, 1) := by decide +kernel
theorem dX8_passNumber_32 : decode cX8_passNumber 32 = .ok (.iload_n 3, 1) := by decide +kernel
theorem dX8_passNumber_33 : decode cX8_passNumber 33 = .ok (.iload_n 1, 1) := by decide +kernel
theorem dX8_passNumber_34 : decode cX8_passNumber 34 = .ok (.if_icmp .lt 8, 3) := by decide +kernel
theorem dX8_passNumber_37 : decode cX8_passNumber 37 = .ok (.iload_n 3, 1) := by decide +kernel
theorem dX8_passNumber_38 : decode cX8_passNumber 38 = .ok (.iload_n 2, 1) := by decide +kernel
theorem dX8_passNumber_39 : decode cX8_passNumber 39 = .ok (.if_icmp .le 11, 3) := by decide +kernel
theorem dX8_passNumber_42 : decode cX8_passNumber 42 = .ok (.aload_n 0, 1) := by decide +kernel
theorem dX8_passNumber_43 : decode cX8_passNumber 43 = .ok (.iconst 4, 1) := by decide +kernel
theorem dX8_passNumber_44 : decode cX8_passNumber 44 = .ok (.invokevirtual 102, 3) := by decide +kernel
theorem dX8_passNumber_47 : decode cX8_passNumber 47 = .ok (.pop, 1) := by decide +kernel
theorem dX8_passNumber_48 : decode cX8_passNumber 48 = .ok (.iconst (-1), 1) := by decide +kernel
theorem dX8_passNumber_49 : decode cX8_passNumber 49 = .ok (.ireturn, 1) := by decide +kernel
theorem dX8_passNumber_50 : decode cX8_passNumber 50 = .ok (.aload_n 0, 1) := by decide +kernel
theorem dX8_passNumber_51 : decode cX8_passNumber 51 = .ok (.invokevirtual 99, 3) := by decide +kernel
theorem dX8_passNumber_54 : decode cX8_passNumber 54 = .ok (.iload_n 3, 1) := by decide +kernel
theorem dX8_passNumber_55 : decode cX8_passNumber 55 = .ok (.ireturn, 1) := by decide +kernel
theorem dX8_changeHere_0 : decode cX8_changeHere 0 = .ok (.aload_n 0, 1) := by decide +kernel
theorem dX8_changeHere_1 : decode cX8_changeHere 1 = .ok (.invokevirtual 105, 3) := by decide +kernel
theorem dX8_changeHere_4 : decode cX8_changeHere 4 = .ok (.ifCond .ne 10, 3) := by decide +kernel
theorem dX8_changeHere_7 : decode cX8_changeHere 7 = .ok (.aload_n 0, 1) := by decide +kernel
theorem dX8_changeHere_8 : decode cX8_changeHere 8 = .ok (.invokevirtual 95, 3) := by decide +kernel
theorem dX8_changeHere_11 : decode cX8_changeHere 11 = .ok (.pop, 1) := by decide +kernel
theorem dX8_changeHere_12 : decode cX8_changeHere 12 = .ok (.iconst (-1), 1) := by decide +kernel
theorem dX8_changeHere_13 : decode cX8_changeHere 13 = .ok (.ireturn, 1) := by decide +kernel
theorem dX8_changeHere_14 : decode cX8_changeHere 14 = .ok (.aload_n 1, 1) := by decide +kernel
theorem dX8_changeHere_15 : decode cX8_changeHere 15 = .ok (.aload_n 0, 1) := by decide +kernel
theorem dX8_changeHere_16 : decode cX8_changeHere 16 = .ok (.getfield 39, 3) := by decide +kernel
theorem dX8_changeHere_19 : decode cX8_changeHere 19 = .ok (.aload_n 0, 1) := by decide +kernel
theorem dX8_changeHere_20 : decode cX8_changeHere 20 = .ok (.getfield 45, 3) := by decide +kernel
theorem dX8_changeHere_23 : decode cX8_changeHere 23 = .ok (.laload, 1) := by decide +kernel
theorem dX8_changeHere_24 : decode cX8_changeHere 24 = .ok (.invokevirtual 108, 3) := by decide +kernel
theorem dX8_changeHere_27 : decode cX8_changeHere 27 = .ok (.istore_n 2, 1) := by decide +kernel
theorem dX8_changeHere_28 : decode cX8_changeHere 28 = .ok (.iload_n 2, 1) := by decide +kernel
theorem dX8_changeHere_29 : decode cX8_changeHere 29 = .ok (.iconst (-1), 1) := by decide +kernel
theorem dX8_changeHere_30 : decode cX8_changeHere 30 = .ok (.if_icmp .ne 9, 3) := by decide +kernel
theorem dX8_changeHere_33 : decode cX8_changeHere 33 = .ok (.aload_n 0, 1) := by decide +kernel
theorem dX8_changeHere_34 : decode cX8_changeHere 34 = .ok (.iconst 3, 1) := by decide +kernel
theorem dX8_changeHere_35 : decode cX8_changeHere 35 = .ok (.invokevirtual 102, 3) := by decide +kernel
theorem dX8_changeHere_38 : decode cX8_changeHere 38 = .ok (.pop, 1) := by decide +kernel
theorem dX8_changeHere_39 : decode cX8_changeHere 39 = .ok (.iload_n 2, 1) := by decide +kernel
theorem dX8_changeHere_40 : decode cX8_changeHere 40 = .ok (.ireturn, 1) := by decide +kernel
theorem dX8_islandHere_0 : decode cX8_islandHere 0 = .ok (.aload_n 0, 1) := by decide +kernel
theorem dX8_islandHere_1 : decode cX8_islandHere 1 = .ok (.invokevirtual 105, 3) := by decide +kernel
theorem dX8_islandHere_4 : decode cX8_islandHere 4 = .ok (.ifCond .ne 10, 3) := by decide +kernel
theorem dX8_islandHere_7 : decode cX8_islandHere 7 = .ok (.aload_n 0, 1) := by decide +kernel
theorem dX8_islandHere_8 : decode cX8_islandHere 8 = .ok (.invokevirtual 95, 3) := by decide +kernel
theorem dX8_islandHere_11 : decode cX8_islandHere 11 = .ok (.pop, 1) := by decide +kernel
theorem dX8_islandHere_12 : decode cX8_islandHere 12 = .ok (.iconst (-1), 1) := by decide +kernel
theorem dX8_islandHere_13 : decode cX8_islandHere 13 = .ok (.ireturn, 1) := by decide +kernel
theorem dX8_islandHere_14 : decode cX8_islandHere 14 = .ok (.aload_n 1, 1) := by decide +kernel
theorem dX8_islandHere_15 : decode cX8_islandHere 15 = .ok (.aload_n 0, 1) := by decide +kernel
theorem dX8_islandHere_16 : decode cX8_islandHere 16 = .ok (.getfield 39, 3) := by decide +kernel
theorem dX8_islandHere_19 : decode cX8_islandHere 19 = .ok (.aload_n 0, 1) := by decide +kernel
theorem dX8_islandHere_20 : decode cX8_islandHere 20 = .ok (.getfield 45, 3) := by decide +kernel
theorem dX8_islandHere_23 : decode cX8_islandHere 23 = .ok (.laload, 1) := by decide +kernel
theorem dX8_islandHere_24 : decode cX8_islandHere 24 = .ok (.invokevirtual 113, 3) := by decide +kernel
theorem dX8_islandHere_27 : decode cX8_islandHere 27 = .ok (.istore_n 2, 1) := by decide +kernel
theorem dX8_islandHere_28 : decode cX8_islandHere 28 = .ok (.iload_n 2, 1) := by decide +kernel
theorem dX8_islandHere_29 : decode cX8_islandHere 29 = .ok (.iconst (-1), 1) := by decide +kernel
theorem dX8_islandHere_30 : decode cX8_islandHere 30 = .ok (.if_icmp .ne 9, 3) := by decide +kernel
theorem dX8_islandHere_33 : decode cX8_islandHere 33 = .ok (.aload_n 0, 1) := by decide +kernel
theorem dX8_islandHere_34 : decode cX8_islandHere 34 = .ok (.iconst 3, 1) := by decide +kernel
theorem dX8_islandHere_35 : decode cX8_islandHere 35 = .ok (.invokevirtual 102, 3) := by decide +kernel
theorem dX8_islandHere_38 : decode cX8_islandHere 38 = .ok (.pop, 1) := by decide +kernel
theorem dX8_islandHere_39 : decode cX8_islandHere 39 = .ok (.iload_n 2, 1) := by decide +kernel
theorem dX8_islandHere_40 : decode cX8_islandHere 40 = .ok (.ireturn, 1) := by decide +kernel
theorem dX9_init_0 : decode cX9_init 0 = .ok (.aload_n 0, 1) := by decide +kernel
theorem dX9_init_1 : decode cX9_init 1 = .ok (.invokespecial 3, 3) := by decide +kernel
theorem dX9_init_4 : decode cX9_init 4 = .ok (.aload_n 0, 1) := by decide +kernel
theorem dX9_init_5 : decode cX9_init 5 = .ok (.bipush 60, 2) := by decide +kernel
theorem dX9_init_7 : decode cX9_init 7 = .ok (.newarray .long, 2) := by decide +kernel
theorem dX9_init_9 : decode cX9_init 9 = .ok (.putfield 9, 3) := by decide +kernel
theorem dX9_init_12 : decode cX9_init 12 = .ok (.aload_n 0, 1) := by decide +kernel
theorem dX9_init_13 : decode cX9_init 13 = .ok (.iconst (-1), 1) := by decide +kernel
theorem dX9_init_14 : decode cX9_init 14 = .ok (.putfield 15, 3) := by decide +kernel
theorem dX9_init_17 : decode cX9_init 17 = .ok (.aload_n 0, 1) := by decide +kernel
theorem dX9_init_18 : decode cX9_init 18 = .ok (.iconst 0, 1) := by decide +kernel
theorem dX9_init_19 : decode cX9_init 19 = .ok (.putfield 19, 3) := by decide +kernel
theorem dX9_init_22 : decode cX9_init 22 = .ok (.return_, 1) := by decide +kernel
theorem dX9_isSort_0 : decode cX9_isSort 0 = .ok (.iload_n 0, 1) := by decide +kernel
theorem dX9_isSort_1 : decode cX9_isSort 1 = .ok (.ifCond .lt 12, 3) := by decide +kernel
theorem dX9_isSort_4 : decode cX9_isSort 4 = .ok (.iload_n 0, 1) := by decide +kernel
theorem dX9_isSort_5 : decode cX9_isSort 5 = .ok (.iconst 3, 1) := by decide +kernel
theorem dX9_isSort_6 : decode cX9_isSort 6 = .ok (.if_icmp .gt 7, 3) := by decide +kernel
theorem dX9_isSort_9 : decode cX9_isSort 9 = .ok (.iconst 1, 1) := by decide +kernel
theorem dX9_isSort_10 : decode cX9_isSort 10 = .ok (.goto 4, 3) := by decide +kernel
theorem dX9_isSort_13 : decode cX9_isSort 13 = .ok (.iconst 0, 1) := by decide +kernel
theorem dX9_isSort_14 : decode cX9_isSort 14 = .ok (.ireturn, 1) := by decide +kernel
theorem dX9_isMissing_0 : decode cX9_isMissing 0 = .ok (.aload_n 0, 1) := by decide +kernel
theorem dX9_isMissing_1 : decode cX9_isMissing 1 = .ok (.getfield 15, 3) := by decide +kernel
theorem dX9_isMissing_4 : decode cX9_isMissing 4 = .ok (.iconst (-1), 1) := by decide +kernel
theorem dX9_isMissing_5 : decode cX9_isMissing 5 = .ok (.if_icmp .ne 7, 3) := by decide +kernel
theorem dX9_isMissing_8 : decode cX9_isMissing 8 = .ok (.iconst 1, 1) := by decide +kernel
theorem dX9_isMissing_9 : decode cX9_isMissing 9 = .ok (.goto 4, 3) := by decide +kernel
theorem dX9_isMissing_12 : decode cX9_isMissing 12 = .ok (.iconst 0, 1) := by decide +kernel
theorem dX9_isMissing_13 : decode cX9_isMissing 13 = .ok (.ireturn, 1) := by decide +kernel
theorem dX9_layOut_0 : decode cX9_layOut 0 = .ok (.aload_n 0, 1) := by decide +kernel
theorem dX9_layOut_1 : decode cX9_layOut 1 = .ok (.iload_n 1, 1) := by decide +kernel
theorem dX9_layOut_2 : decode cX9_layOut 2 = .ok (.putfield 15, 3) := by decide +kernel
theorem dX9_layOut_5 : decode cX9_layOut 5 = .ok (.aload_n 0, 1) := by decide +kernel
theorem dX9_layOut_6 : decode cX9_layOut 6 = .ok (.iload_n 2, 1) := by decide +kernel
theorem dX9_layOut_7 : decode cX9_layOut 7 = .ok (.putfield 19, 3) := by decide +kernel
theorem dX9_layOut_10 : decode cX9_layOut 10 = .ok (.iconst 0, 1) := by decide +kernel
theorem dX9_layOut_11 : decode cX9_layOut 11 = .ok (.istore_n 3, 1) := by decide +kernel
theorem dX9_layOut_12 : decode cX9_layOut 12 = .ok (.iload_n 3, 1) := by decide +kernel
theorem dX9_layOut_13 : decode cX9_layOut 13 = .ok (.bipush 60, 2) := by decide +kernel
theorem dX9_layOut_15 : decode cX9_layOut 15 = .ok (.if_icmp .ge 16, 3) := by decide +kernel
theorem dX9_layOut_18 : decode cX9_layOut 18 = .ok (.aload_n 0, 1) := by decide +kernel
theorem dX9_layOut_19 : decode cX9_layOut 19 = .ok (.getfield 9, 3) := by decide +kernel
theorem dX9_layOut_22 : decode cX9_layOut 22 = .ok (.iload_n 3, 1) := by decide +kernel
theorem dX9_layOut_23 : decode cX9_layOut 23 = .ok (.lconst 0, 1) := by decide +kernel
theorem dX9_layOut_24 : decode cX9_layOut 24 = .ok (.lastore, 1) := by decide +kernel
theorem dX9_layOut_25 : decode cX9_layOut 25 = .ok (.iinc 3 1, 3) := by decide +kernel
theorem dX9_layOut_28 : decode cX9_layOut 28 = .ok (.goto (-16), 3) := by decide +kernel
theorem dX9_layOut_31 : decode cX9_layOut 31 = .ok (.return_, 1) := by decide +kernel
theorem dX9_spans_0 : decode cX9_spans 0 = .ok (.iload_n 1, 1) := by decide +kernel
theorem dX9_spans_1 : decode cX9_spans 1 = .ok (.ifCond .lt 29, 3) := by decide +kernel
theorem dX9_spans_4 : decode cX9_spans 4 = .ok (.iload_n 2, 1) := by decide +kernel
theorem dX9_spans_5 : decode cX9_spans 5 = .ok (.ifCond .lt 25, 3) := by decide +kernel
theorem dX9_spans_8 : decode cX9_spans 8 = .ok (.iload_n 1, 1) := by decide +kernel
theorem dX9_spans_9 : decode cX9_spans 9 = .ok (.aload_n 0, 1) := by decide +kernel
theorem dX9_spans_10 : decode cX9_spans 10 = .ok (.getfield 19, 3) := by decide +kernel
theorem dX9_spans_13 : decode cX9_spans 13 = .ok (.if_icmp .gt 17, 3) := by decide +kernel
theorem dX9_spans_16 : decode cX9_spans 16 = .ok (.iload_n 2, 1) := by decide +kernel
theorem dX9_spans_17 : decode cX9_spans 17 = .ok (.aload_n 0, 1) := by decide +kernel
theorem dX9_spans_18 : decode cX9_spans 18 = .ok (.getfield 19, 3) := by decide +kernel
theorem dX9_spans_21 : decode cX9_spans 21 = .ok (.iload_n 1, 1) := by decide +kernel
theorem dX9_spans_22 : decode cX9_spans 22 = .ok (.isub, 1) := by decide +kernel
theorem dX9_spans_23 : decode cX9_spans 23 = .ok (.if_icmp .gt 7, 3) := by decide +kernel
theorem dX9_spans_26 : decode cX9_spans 26 = .ok (.iconst 1, 1) := by decide +kernel
theorem dX9_spans_27 : decode cX9_spans 27 = .ok (.goto 4, 3) := by decide +kernel
theorem dX9_spans_30 : decode cX9_spans 30 = .ok (.iconst 0, 1) := by decide +kernel
theorem dX9_spans_31 : decode cX9_spans 31 = .ok (.ireturn, 1) := by decide +kernel
theorem dX9_get_0 : decode cX9_get 0 = .ok (.iload_n 1, 1) := by decide +kernel
theorem dX9_get_1 : decode cX9_get 1 = .ok (.ifCond .lt 20, 3) := by decide +kernel
theorem dX9_get_4 : decode cX9_get 4 = .ok (.iload_n 1, 1) := by decide +kernel
theorem dX9_get_5 : decode cX9_get 5 = .ok (.aload_n 0, 1) := by decide +kernel
theorem dX9_get_6 : decode cX9_get 6 = .ok (.getfield 19, 3) := by decide +kernel
theorem dX9_get_9 : decode cX9_get 9 = .ok (.if_icmp .ge 12, 3) := by decide +kernel
theorem dX9_get_12 : decode cX9_get 12 = .ok (.aload_n 0, 1) := by decide +kernel
theorem dX9_get_13 : decode cX9_get 13 = .ok (.getfield 9, 3) := by decide +kernel
theorem dX9_get_16 : decode cX9_get 16 = .ok (.iload_n 1, 1) := by decide +kernel
theorem dX9_get_17 : decode cX9_get 17 = .ok (.laload, 1) := by decide +kernel
theorem dX9_get_18 : decode cX9_get 18 = .ok (.goto 6, 3) := by decide +kernel
theorem dX9_get_21 : decode cX9_get 21 = .ok (.ldc2_w 22, 3) := by decide +kernel
theorem dX9_get_24 : decode cX9_get 24 = .ok (.lreturn, 1) := by decide +kernel
theorem dX9_set_0 : decode cX9_set 0 = .ok (.iload_n 1, 1) := by decide +kernel
theorem dX9_set_1 : decode cX9_set 1 = .ok (.ifCond .lt 22, 3) := by decide +kernel
theorem dX9_set_4 : decode cX9_set 4 = .ok (.iload_n 1, 1) := by decide +kernel
theorem dX9_set_5 : decode cX9_set 5 = .ok (.aload_n 0, 1) := by decide +kernel
theorem dX9_set_6 : decode cX9_set 6 = .ok (.getfield 19, 3) := by decide +kernel
theorem dX9_set_9 : decode cX9_set 9 = .ok (.if_icmp .ge 14, 3) := by decide +kernel
theorem dX9_set_12 : decode cX9_set 12 = .ok (.aload_n 0, 1) := by decide +kernel
theorem dX9_set_13 : decode cX9_set 13 = .ok (.getfield 9, 3) := by decide +kernel
theorem dX9_set_16 : decode cX9_set 16 = .ok (.iload_n 1, 1) := by decide +kernel
theorem dX9_set_17 : decode cX9_set 17 = .ok (.aload_n 0, 1) := by decide +kernel
theorem dX9_set_18 : decode cX9_set 18 = .ok (.lload_n 2, 1) := by decide +kernel
theorem dX9_set_19 : decode cX9_set 19 = .ok (.invokevirtual 24, 3) := by decide +kernel
theorem dX9_set_22 : decode cX9_set 22 = .ok (.lastore, 1) := by decide +kernel
theorem dX9_set_23 : decode cX9_set 23 = .ok (.return_, 1) := by decide +kernel
theorem dX9_cut_0 : decode cX9_cut 0 = .ok (.aload_n 0, 1) := by decide +kernel
theorem dX9_cut_1 : decode cX9_cut 1 = .ok (.getfield 15, 3) := by decide +kernel
theorem dX9_cut_4 : decode cX9_cut 4 = .ok (.tableswitch 42 0 2 #[28, 33, 38], 28) := by decide +kernel
theorem dX9_cut_32 : decode cX9_cut 32 = .ok (.lload_n 1, 1) := by decide +kernel
theorem dX9_cut_33 : decode cX9_cut 33 = .ok (.l2i, 1) := by decide +kernel
theorem dX9_cut_34 : decode cX9_cut 34 = .ok (.i2b, 1) := by decide +kernel
theorem dX9_cut_35 : decode cX9_cut 35 = .ok (.i2l, 1) := by decide +kernel
theorem dX9_cut_36 : decode cX9_cut 36 = .ok (.lreturn, 1) := by decide +kernel
theorem dX9_cut_37 : decode cX9_cut 37 = .ok (.lload_n 1, 1) := by decide +kernel
theorem dX9_cut_38 : decode cX9_cut 38 = .ok (.l2i, 1) := by decide +kernel
theorem dX9_cut_39 : decode cX9_cut 39 = .ok (.i2s, 1) := by decide +kernel
theorem dX9_cut_40 : decode cX9_cut 40 = .ok (.i2l, 1) := by decide +kernel
theorem dX9_cut_41 : decode cX9_cut 41 = .ok (.lreturn, 1) := by decide +kernel
theorem dX9_cut_42 : decode cX9_cut 42 = .ok (.lload_n 1, 1) := by decide +kernel
theorem dX9_cut_43 : decode cX9_cut 43 = .ok (.l2i, 1) := by decide +kernel
theorem dX9_cut_44 : decode cX9_cut 44 = .ok (.i2l, 1) := by decide +kernel
theorem dX9_cut_45 : decode cX9_cut 45 = .ok (.lreturn, 1) := by decide +kernel
theorem dX9_cut_46 : decode cX9_cut 46 = .ok (.lload_n 1, 1) := by decide +kernel
theorem dX9_cut_47 : decode cX9_cut 47 = .ok (.lreturn, 1) := by decide +kernel
theorem dX10_init_0 : decode cX10_init 0 = .ok (.aload_n 0, 1) := by decide +kernel
theorem dX10_init_1 : decode cX10_init 1 = .ok (.invokespecial 3, 3) := by decide +kernel
theorem dX10_init_4 : decode cX10_init 4 = .ok (.aload_n 0, 1) := by decide +kernel
theorem dX10_init_5 : decode cX10_init 5 = .ok (.iconst 4, 1) := by decide +kernel
theorem dX10_init_6 : decode cX10_init 6 = .ok (.newarray .int, 2) := by decide +kernel
theorem dX10_init_8 : decode cX10_init 8 = .ok (.putfield 9, 3) := by decide +kernel
theorem dX10_init_11 : decode cX10_init 11 = .ok (.aload_n 0, 1) := by decide +kernel
theorem dX10_init_12 : decode cX10_init 12 = .ok (.iconst 0, 1) := by decide +kernel
theorem dX10_init_13 : decode cX10_init 13 = .ok (.putfield 15, 3) := by decide +kernel
theorem dX10_init_16 : decode cX10_init 16 = .ok (.aload_n 0, 1) := by decide +kernel
theorem dX10_init_17 : decode cX10_init 17 = .ok (.iconst 0, 1) := by decide +kernel
theorem dX10_init_18 : decode cX10_init 18 = .ok (.putfield 19, 3) := by decide +kernel
theorem dX10_init_21 : decode cX10_init 21 = .ok (.aload_n 0, 1) := by decide +kernel
theorem dX10_init_22 : decode cX10_init 22 = .ok (.iconst 0, 1) := by decide +kernel
theorem dX10_init_23 : decode cX10_init 23 = .ok (.putfield 22, 3) := by decide +kernel
theorem dX10_init_26 : decode cX10_init 26 = .ok (.aload_n 0, 1) := by decide +kernel
theorem dX10_init_27 : decode cX10_init 27 = .ok (.iconst 0, 1) := by decide +kernel
theorem dX10_init_28 : decode cX10_init 28 = .ok (.putfield 25, 3) := by decide +kernel
theorem dX10_init_31 : decode cX10_init 31 = .ok (.aload_n 0, 1) := by decide +kernel
theorem dX10_init_32 : decode cX10_init 32 = .ok (.iconst 0, 1) := by decide +kernel
theorem dX10_init_33 : decode cX10_init 33 = .ok (.putfield 28, 3) := by decide +kernel
theorem dX10_init_36 : decode cX10_init 36 = .ok (.aload_n 0, 1) := by decide +kernel
theorem dX10_init_37 : decode cX10_init 37 = .ok (.iconst 0, 1) := by decide +kernel
theorem dX10_init_38 : decode cX10_init 38 = .ok (.putfield 31, 3) := by decide +kernel
theorem dX10_init_41 : decode cX10_init 41 = .ok (.aload_n 0, 1) := by decide +kernel
theorem dX10_init_42 : decode cX10_init 42 = .ok (.new 34, 3) := by decide +kernel
theorem dX10_init_45 : decode cX10_init 45 = .ok (.dup, 1) := by decide +kernel
theorem dX10_init_46 : decode cX10_init 46 = .ok (.invokespecial 36, 3) := by decide +kernel
theorem dX10_init_49 : decode cX10_init 49 = .ok (.putfield 37, 3) := by decide +kernel
theorem dX10_init_52 : decode cX10_init 52 = .ok (.aload_n 0, 1) := by decide +kernel
theorem dX10_init_53 : decode cX10_init 53 = .ok (.new 41, 3) := by decide +kernel
theorem dX10_init_56 : decode cX10_init 56 = .ok (.dup, 1) := by decide +kernel
theorem dX10_init_57 : decode cX10_init 57 = .ok (.invokespecial 43, 3) := by decide +kernel
theorem dX10_init_60 : decode cX10_init 60 = .ok (.putfield 44, 3) := by decide +kernel
theorem dX10_init_63 : decode cX10_init 63 = .ok (.aload_n 0, 1) := by decide +kernel
theorem dX10_init_64 : decode cX10_init 64 = .ok (.iconst 0, 1) := by decide +kernel
theorem dX10_init_65 : decode cX10_init 65 = .ok (.putfield 48, 3) := by decide +kernel
theorem dX10_init_68 : decode cX10_init 68 = .ok (.aload_n 0, 1) := by decide +kernel
theorem dX10_init_69 : decode cX10_init 69 = .ok (.iconst 0, 1) := by decide +kernel
theorem dX10_init_70 : decode cX10_init 70 = .ok (.putfield 51, 3) := by decide +kernel
theorem dX10_init_73 : decode cX10_init 73 = .ok (.aload_n 0, 1) := by decide +kernel
theorem dX10_init_74 : decode cX10_init 74 = .ok (.bipush 20, 2) := by decide +kernel
theorem dX10_init_76 : decode cX10_init 76 = .ok (.newarray .int, 2) := by decide +kernel
theorem dX10_init_78 : decode cX10_init 78 = .ok (.putfield 54, 3) := by decide +kernel
theorem dX10_init_81 : decode cX10_init 81 = .ok (.aload_n 0, 1) := by decide +kernel
theorem dX10_init_82 : decode cX10_init 82 = .ok (.bipush 20, 2) := by decide +kernel
theorem dX10_init_84 : decode cX10_init 84 = .ok (.newarray .int, 2) := by decide +kernel
theorem dX10_init_86 : decode cX10_init 86 = .ok (.putfield 57, 3) := by decide +kernel
theorem dX10_init_89 : decode cX10_init 89 = .ok (.aload_n 0, 1) := by decide +kernel
theorem dX10_init_90 : decode cX10_init 90 = .ok (.bipush 20, 2) := by decide +kernel
theorem dX10_init_92 : decode cX10_init 92 = .ok (.newarray .int, 2) := by decide +kernel
theorem dX10_init_94 : decode cX10_init 94 = .ok (.putfield 60, 3) := by decide +kernel
theorem dX10_init_97 : decode cX10_init 97 = .ok (.aload_n 0, 1) := by decide +kernel
theorem dX10_init_98 : decode cX10_init 98 = .ok (.bipush 20, 2) := by decide +kernel
theorem dX10_init_100 : decode cX10_init 100 = .ok (.newarray .int, 2) := by decide +kernel
theorem dX10_init_102 : decode cX10_init 102 = .ok (.putfield 63, 3) := by decide +kernel
theorem dX10_init_105 : decode cX10_init 105 = .ok (.aload_n 0, 1) := by decide +kernel
theorem dX10_init_106 : decode cX10_init 106 = .ok (.bipush 60, 2) := by decide +kernel
theorem dX10_init_108 : decode cX10_init 108 = .ok (.newarray .int, 2) := by decide +kernel
theorem dX10_init_110 : decode cX10_init 110 = .ok (.putfield 66, 3) := by decide +kernel
theorem dX10_init_113 : decode cX10_init 113 = .ok (.return_, 1) := by decide +kernel
theorem dX10_run_0 : decode cX10_run 0 = .ok (.aload_n 0, 1) := by decide +kernel
theorem dX10_run_1 : decode cX10_run 1 = .ok (.aload_n 1, 1) := by decide +kernel
theorem dX10_run_2 : decode cX10_run 2 = .ok (.putfield 37, 3) := by decide +kernel
theorem dX10_run_5 : decode cX10_run 5 = .ok (.aload_n 0, 1) := by decide +kernel
theorem dX10_run_6 : decode cX10_run 6 = .ok (.aload_n 2, 1) := by decide +kernel
theorem dX10_run_7 : decode cX10_run 7 = .ok (.putfield 44, 3) := by decide +kernel
theorem dX10_run_10 : decode cX10_run 10 = .ok (.iconst 0, 1) := by decide +kernel
theorem dX10_run_11 : decode cX10_run 11 = .ok (.istore 5, 2) := by decide +kernel
theorem dX10_run_13 : decode cX10_run 13 = .ok (.iload 5, 2) := by decide +kernel
theorem dX10_run_15 : decode cX10_run 15 = .ok (.iconst 4, 1) := by decide +kernel
theorem dX10_run_16 : decode cX10_run 16 = .ok (.if_icmp .ge 27, 3) := by decide +kernel
theorem dX10_run_19 : decode cX10_run 19 = .ok (.iload 5, 2) := by decide +kernel
theorem dX10_run_21 : decode cX10_run 21 = .ok (.aload_n 3, 1) := by decide +kernel
theorem dX10_run_22 : decode cX10_run 22 = .ok (.arraylength, 1) := by decide +kernel
theorem dX10_run_23 : decode cX10_run 23 = .ok (.if_icmp .ge 20, 3) := by decide +kernel
theorem dX10_run_26 : decode cX10_run 26 = .ok (.aload_n 0, 1) := by decide +kernel
theorem dX10_run_27 : decode cX10_run 27 = .ok (.getfield 9, 3) := by decide +kernel
theorem dX10_run_30 : decode cX10_run 30 = .ok (.iload 5, 2) := by decide +kernel
theorem dX10_run_32 : decode cX10_run 32 = .ok (.aload_n 3, 1) := by decide +kernel
theorem dX10_run_33 : decode cX10_run 33 = .ok (.iload 5, 2) := by decide +kernel
theorem dX10_run_35 : decode cX10_run 35 = .ok (.iaload, 1) := by decide +kernel
theorem dX10_run_36 : decode cX10_run 36 = .ok (.iastore, 1) := by decide +kernel
theorem dX10_run_37 : decode cX10_run 37 = .ok (.iinc 5 1, 3) := by decide +kernel
theorem dX10_run_40 : decode cX10_run 40 = .ok (.goto (-27), 3) := by decide +kernel
theorem dX10_run_43 : decode cX10_run 43 = .ok (.aload_n 0, 1) := by decide +kernel
theorem dX10_run_44 : decode cX10_run 44 = .ok (.iconst 0, 1) := by decide +kernel
theorem dX10_run_45 : decode cX10_run 45 = .ok (.putfield 15, 3) := by decide +kernel
theorem dX10_run_48 : decode cX10_run 48 = .ok (.aload_n 0, 1) := by decide +kernel
theorem dX10_run_49 : decode cX10_run 49 = .ok (.iconst 0, 1) := by decide +kernel
theorem dX10_run_50 : decode cX10_run 50 = .ok (.putfield 19, 3) := by decide +kernel
theorem dX10_run_53 : decode cX10_run 53 = .ok (.aload_n 0, 1) := by decide +kernel
theorem dX10_run_54 : decode cX10_run 54 = .ok (.iconst 0, 1) := by decide +kernel
theorem dX10_run_55 : decode cX10_run 55 = .ok (.putfield 22, 3) := by decide +kernel
theorem dX10_run_58 : decode cX10_run 58 = .ok (.aload_n 0, 1) := by decide +kernel
theorem dX10_run_59 : decode cX10_run 59 = .ok (.iconst 0, 1) := by decide +kernel
theorem dX10_run_60 : decode cX10_run 60 = .ok (.putfield 25, 3) := by decide +kernel
theorem dX10_run_63 : decode cX10_run 63 = .ok (.aload_n 0, 1) := by decide +kernel
theorem dX10_run_64 : decode cX10_run 64 = .ok (.iconst 0, 1) := by decide +kernel
theorem dX10_run_65 : decode cX10_run 65 = .ok (.putfield 28, 3) := by decide +kernel
theorem dX10_run_68 : decode cX10_run 68 = .ok (.aload_n 0, 1) := by decide +kernel
theorem dX10_run_69 : decode cX10_run 69 = .ok (.iconst 0, 1) := by decide +kernel
theorem dX10_run_70 : decode cX10_run 70 = .ok (.putfield 31, 3) := by decide +kernel
theorem dX10_run_73 : decode cX10_run 73 = .ok (.aload_n 0, 1) := by decide +kernel
theorem dX10_run_74 : decode cX10_run 74 = .ok (.iconst 0, 1) := by decide +kernel
theorem dX10_run_75 : decode cX10_run 75 = .ok (.putfield 51, 3) := by decide +kernel
theorem dX10_run_78 : decode cX10_run 78 = .ok (.aload_n 0, 1) := by decide +kernel
theorem dX10_run_79 : decode cX10_run 79 = .ok (.iload 4, 2) := by decide +kernel
theorem dX10_run_81 : decode cX10_run 81 = .ok (.putfield 48, 3) := by decide +kernel
theorem dX10_run_84 : decode cX10_run 84 = .ok (.iconst 0, 1) := by decide +kernel
theorem dX10_run_85 : decode cX10_run 85 = .ok (.istore 5, 2) := by decide +kernel
theorem dX10_run_87 : decode cX10_run 87 = .ok (.iconst 0, 1) := by decide +kernel
theorem dX10_run_88 : decode cX10_run 88 = .ok (.istore 6, 2) := by decide +kernel
theorem dX10_run_90 : decode cX10_run 90 = .ok (.iload 6, 2) := by decide +kernel
theorem dX10_run_92 : decode cX10_run 92 = .ok (.ldc 69, 2) := by decide +kernel
theorem dX10_run_94 : decode cX10_run 94 = .ok (.if_icmp .ge 50, 3) := by decide +kernel
theorem dX10_run_97 : decode cX10_run 97 = .ok (.aload_n 0, 1) := by decide +kernel
theorem dX10_run_98 : decode cX10_run 98 = .ok (.iload 5, 2) := by decide +kernel
theorem dX10_run_100 : decode cX10_run 100 = .ok (.invokevirtual 70, 3) := by decide +kernel
theorem dX10_run_103 : decode cX10_run 103 = .ok (.ifCond .eq 41, 3) := by decide +kernel
theorem dX10_run_106 : decode cX10_run 106 = .ok (.aload_n 0, 1) := by decide +kernel
theorem dX10_run_107 : decode cX10_run 107 = .ok (.getfield 44, 3) := by decide +kernel
theorem dX10_run_110 : decode cX10_run 110 = .ok (.getfield 74, 3) := by decide +kernel
theorem dX10_run_113 : decode cX10_run 113 = .ok (.iload 5, 2) := by decide +kernel
theorem dX10_run_115 : decode cX10_run 115 = .ok (.iaload, 1) := by decide +kernel
theorem dX10_run_116 : decode cX10_run 116 = .ok (.bipush 26, 2) := by decide +kernel
theorem dX10_run_118 : decode cX10_run 118 = .ok (.if_icmp .ne 12, 3) := by decide +kernel
theorem dX10_run_121 : decode cX10_run 121 = .ok (.aload_n 0, 1) := by decide +kernel
theorem dX10_run_122 : decode cX10_run 122 = .ok (.iload 5, 2) := by decide +kernel
theorem dX10_run_124 : decode cX10_run 124 = .ok (.invokevirtual 79, 3) := by decide +kernel
theorem dX10_run_127 : decode cX10_run 127 = .ok (.goto 9, 3) := by decide +kernel
theorem dX10_run_130 : decode cX10_run 130 = .ok (.aload_n 0, 1) := by decide +kernel
theorem dX10_run_131 : decode cX10_run 131 = .ok (.iload 5, 2) := by decide +kernel
theorem dX10_run_133 : decode cX10_run 133 = .ok (.invokevirtual 83, 3) := by decide +kernel
theorem dX10_run_136 : decode cX10_run 136 = .ok (.istore 5, 2) := by decide +kernel
theorem dX10_run_138 : decode cX10_run 138 = .ok (.iinc 6 1, 3) := by decide +kernel
theorem dX10_run_141 : decode cX10_run 141 = .ok (.goto (-51), 3) := by decide +kernel
theorem dX10_run_144 : decode cX10_run 144 = .ok (.return_, 1) := by decide +kernel
theorem dX10_isRow_0 : decode cX10_isRow 0 = .ok (.iload_n 1, 1) := by decide +kernel
theorem dX10_isRow_1 : decode cX10_isRow 1 = .ok (.ifCond .lt 24, 3) := by decide +kernel
theorem dX10_isRow_4 : decode cX10_isRow 4 = .ok (.iload_n 1, 1) := by decide +kernel
theorem dX10_isRow_5 : decode cX10_isRow 5 = .ok (.aload_n 0, 1) := by decide +kernel
theorem dX10_isRow_6 : decode cX10_isRow 6 = .ok (.getfield 44, 3) := by decide +kernel
theorem dX10_isRow_9 : decode cX10_isRow 9 = .ok (.getfield 86, 3) := by decide +kernel
theorem dX10_isRow_12 : decode cX10_isRow 12 = .ok (.if_icmp .ge 13, 3) := by decide +kernel
theorem dX10_isRow_15 : decode cX10_isRow 15 = .ok (.iload_n 1, 1) := by decide +kernel
theorem dX10_isRow_16 : decode cX10_isRow 16 = .ok (.bipush 60, 2) := by decide +kernel
theorem dX10_isRow_18 : decode cX10_isRow 18 = .ok (.if_icmp .ge 7, 3) := by decide +kernel
theorem dX10_isRow_21 : decode cX10_isRow 21 = .ok (.iconst 1, 1) := by decide +kernel
theorem dX10_isRow_22 : decode cX10_isRow 22 = .ok (.goto 4, 3) := by decide +kernel
theorem dX10_isRow_25 : decode cX10_isRow 25 = .ok (.iconst 0, 1) := by decide +kernel
theorem dX10_isRow_26 : decode cX10_isRow 26 = .ok (.ireturn, 1) := by decide +kernel
theorem dX10_allAlike_0 : decode cX10_allAlike 0 = .ok (.iconst 1, 1) := by decide +kernel
theorem dX10_allAlike_1 : decode cX10_allAlike 1 = .ok (.istore_n 1, 1) := by decide +kernel
theorem dX10_allAlike_2 : decode cX10_allAlike 2 = .ok (.iload_n 1, 1) := by decide +kernel
theorem dX10_allAlike_3 : decode cX10_allAlike 3 = .ok (.aload_n 0, 1) := by decide +kernel
theorem dX10_allAlike_4 : decode cX10_allAlike 4 = .ok (.getfield 37, 3) := by decide +kernel
theorem dX10_allAlike_7 : decode cX10_allAlike 7 = .ok (.getfield 89, 3) := by decide +kernel
theorem dX10_allAlike_10 : decode cX10_allAlike 10 = .ok (.if_icmp .ge 26, 3) := by decide +kernel
theorem dX10_allAlike_13 : decode cX10_allAlike 13 = .ok (.aload_n 0, 1) := by decide +kernel
theorem dX10_allAlike_14 : decode cX10_allAlike 14 = .ok (.getfield 9, 3) := by decide +kernel
theorem dX10_allAlike_17 : decode cX10_allAlike 17 = .ok (.iload_n 1, 1) := by decide +kernel
theorem dX10_allAlike_18 : decode cX10_allAlike 18 = .ok (.iaload, 1) := by decide +kernel
theorem dX10_allAlike_19 : decode cX10_allAlike 19 = .ok (.aload_n 0, 1) := by decide +kernel
theorem dX10_allAlike_20 : decode cX10_allAlike 20 = .ok (.getfield 9, 3) := by decide +kernel
theorem dX10_allAlike_23 : decode cX10_allAlike 23 = .ok (.iconst 0, 1) := by decide +kernel
theorem dX10_allAlike_24 : decode cX10_allAlike 24 = .ok (.iaload, 1) := by decide +kernel
theorem dX10_allAlike_25 : decode cX10_allAlike 25 = .ok (.if_icmp .eq 5, 3) := by decide +kernel
theorem dX10_allAlike_28 : decode cX10_allAlike 28 = .ok (.iconst 0, 1) := by decide +kernel
theorem dX10_allAlike_29 : decode cX10_allAlike 29 = .ok (.ireturn, 1) := by decide +kernel
theorem dX10_allAlike_30 : decode cX10_allAlike 30 = .ok (.iinc 1 1, 3) := by decide +kernel
theorem dX10_allAlike_33 : decode cX10_allAlike 33 = .ok (.goto (-31), 3) := by decide +kernel
theorem dX10_allAlike_36 : decode cX10_allAlike 36 = .ok (.iconst 1, 1) := by decide +kernel
theorem dX10_allAlike_37 : decode cX10_allAlike 37 = .ok (.ireturn, 1) := by decide +kernel
theorem dX10_rowAfterEnd_0 : decode cX10_rowAfterEnd 0 = .ok (.aload_n 0, 1) := by decide +kernel
theorem dX10_rowAfterEnd_1 : decode cX10_rowAfterEnd 1 = .ok (.getfield 44, 3) := by decide +kernel
theorem dX10_rowAfterEnd_4 : decode cX10_rowAfterEnd 4 = .ok (.getfield 92, 3) := by decide +kernel
theorem dX10_rowAfterEnd_7 : decode cX10_rowAfterEnd 7 = .ok (.iload_n 1, 1) := by decide +kernel
theorem dX10_rowAfterEnd_8 : decode cX10_rowAfterEnd 8 = .ok (.iaload, 1) := by decide +kernel
theorem dX10_rowAfterEnd_9 : decode cX10_rowAfterEnd 9 = .ok (.istore_n 2, 1) := by decide +kernel
theorem dX10_rowAfterEnd_10 : decode cX10_rowAfterEnd 10 = .ok (.aload_n 0, 1) := by decide +kernel
theorem dX10_rowAfterEnd_11 : decode cX10_rowAfterEnd 11 = .ok (.iload_n 2, 1) := by decide +kernel
theorem dX10_rowAfterEnd_12 : decode cX10_rowAfterEnd 12 = .ok (.invokevirtual 70, 3) := by decide +kernel
theorem dX10_rowAfterEnd_15 : decode cX10_rowAfterEnd 15 = .ok (.ifCond .eq 40, 3) := by decide +kernel
theorem dX10_rowAfterEnd_18 : decode cX10_rowAfterEnd 18 = .ok (.aload_n 0, 1) := by decide +kernel
theorem dX10_rowAfterEnd_19 : decode cX10_rowAfterEnd 19 = .ok (.getfield 44, 3) := by decide +kernel
theorem dX10_rowAfterEnd_22 : decode cX10_rowAfterEnd 22 = .ok (.getfield 74, 3) := by decide +kernel
theorem dX10_rowAfterEnd_25 : decode cX10_rowAfterEnd 25 = .ok (.iload_n 2, 1) := by decide +kernel
theorem dX10_rowAfterEnd_26 : decode cX10_rowAfterEnd 26 = .ok (.iaload, 1) := by decide +kernel
theorem dX10_rowAfterEnd_27 : decode cX10_rowAfterEnd 27 = .ok (.bipush 25, 2) := by decide +kernel
theorem dX10_rowAfterEnd_29 : decode cX10_rowAfterEnd 29 = .ok (.if_icmp .ne 26, 3) := by decide +kernel
theorem dX10_rowAfterEnd_32 : decode cX10_rowAfterEnd 32 = .ok (.aload_n 0, 1) := by decide +kernel
theorem dX10_rowAfterEnd_33 : decode cX10_rowAfterEnd 33 = .ok (.getfield 66, 3) := by decide +kernel
theorem dX10_rowAfterEnd_36 : decode cX10_rowAfterEnd 36 = .ok (.iload_n 2, 1) := by decide +kernel
theorem dX10_rowAfterEnd_37 : decode cX10_rowAfterEnd 37 = .ok (.dup2, 1) := by decide +kernel
theorem dX10_rowAfterEnd_38 : decode cX10_rowAfterEnd 38 = .ok (.iaload, 1) := by decide +kernel
theorem dX10_rowAfterEnd_39 : decode cX10_rowAfterEnd 39 = .ok (.iconst 1, 1) := by decide +kernel
theorem dX10_rowAfterEnd_40 : decode cX10_rowAfterEnd 40 = .ok (.isub, 1) := by decide +kernel
theorem dX10_rowAfterEnd_41 : decode cX10_rowAfterEnd 41 = .ok (.iastore, 1) := by decide +kernel
theorem dX10_rowAfterEnd_42 : decode cX10_rowAfterEnd 42 = .ok (.aload_n 0, 1) := by decide +kernel
theorem dX10_rowAfterEnd_43 : decode cX10_rowAfterEnd 43 = .ok (.getfield 66, 3) := by decide +kernel
theorem dX10_rowAfterEnd_46 : decode cX10_rowAfterEnd 46 = .ok (.iload_n 2, 1) := by decide +kernel
theorem dX10_rowAfterEnd_47 : decode cX10_rowAfterEnd 47 = .ok (.iaload, 1) := by decide +kernel
theorem dX10_rowAfterEnd_48 : decode cX10_rowAfterEnd 48 = .ok (.ifCond .le 7, 3) := by decide +kernel
theorem dX10_rowAfterEnd_51 : decode cX10_rowAfterEnd 51 = .ok (.iload_n 2, 1) := by decide +kernel
theorem dX10_rowAfterEnd_52 : decode cX10_rowAfterEnd 52 = .ok (.iconst 1, 1) := by decide +kernel
theorem dX10_rowAfterEnd_53 : decode cX10_rowAfterEnd 53 = .ok (.iadd, 1) := by decide +kernel
theorem dX10_rowAfterEnd_54 : decode cX10_rowAfterEnd 54 = .ok (.ireturn, 1) := by decide +kernel
theorem dX10_rowAfterEnd_55 : decode cX10_rowAfterEnd 55 = .ok (.iload_n 1, 1) := by decide +kernel
theorem dX10_rowAfterEnd_56 : decode cX10_rowAfterEnd 56 = .ok (.iconst 1, 1) := by decide +kernel
theorem dX10_rowAfterEnd_57 : decode cX10_rowAfterEnd 57 = .ok (.iadd, 1) := by decide +kernel
theorem dX10_rowAfterEnd_58 : decode cX10_rowAfterEnd 58 = .ok (.ireturn, 1) := by decide +kernel
theorem dX10_rowAfterStep_0 : decode cX10_rowAfterStep 0 = .ok (.aload_n 0, 1) := by decide +kernel
theorem dX10_rowAfterStep_1 : decode cX10_rowAfterStep 1 = .ok (.getfield 15, 3) := by decide +kernel
theorem dX10_rowAfterStep_4 : decode cX10_rowAfterStep 4 = .ok (.sipush 300, 3) := by decide +kernel
theorem dX10_rowAfterStep_7 : decode cX10_rowAfterStep 7 = .ok (.if_icmp .lt 5, 3) := by decide +kernel
theorem dX10_rowAfterStep_10 : decode cX10_rowAfterStep 10 = .ok (.iconst (-1), 1) := by decide +kernel
theorem dX10_rowAfterStep_11 : decode cX10_rowAfterStep 11 = .ok (.ireturn, 1) := by decide +kernel
theorem dX10_rowAfterStep_12 : decode cX10_rowAfterStep 12 = .ok (.aload_n 0, 1) := by decide +kernel
theorem dX10_rowAfterStep_13 : decode cX10_rowAfterStep 13 = .ok (.dup, 1) := by decide +kernel
theorem dX10_rowAfterStep_14 : decode cX10_rowAfterStep 14 = .ok (.getfield 15, 3) := by decide +kernel
theorem dX10_rowAfterStep_17 : decode cX10_rowAfterStep 17 = .ok (.iconst 1, 1) := by decide +kernel
theorem dX10_rowAfterStep_18 : decode cX10_rowAfterStep 18 = .ok (.iadd, 1) := by decide +kernel
theorem dX10_rowAfterStep_19 : decode cX10_rowAfterStep 19 = .ok (.putfield 15, 3) := by decide +kernel
theorem dX10_rowAfterStep_22 : decode cX10_rowAfterStep 22 = .ok (.aload_n 0, 1) := by decide +kernel
theorem dX10_rowAfterStep_23 : decode cX10_rowAfterStep 23 = .ok (.getfield 44, 3) := by decide +kernel
theorem dX10_rowAfterStep_26 : decode cX10_rowAfterStep 26 = .ok (.getfield 74, 3) := by decide +kernel
theorem dX10_rowAfterStep_29 : decode cX10_rowAfterStep 29 = .ok (.iload_n 1, 1) := by decide +kernel
theorem dX10_rowAfterStep_30 : decode cX10_rowAfterStep 30 = .ok (.iaload, 1) := by decide +kernel
theorem dX10_rowAfterStep_31 : decode cX10_rowAfterStep 31 = .ok (.tableswitch 92 20 27 #[66, 66, 66, 92, 92, 47, 92, 45], 45) := by decide +kernel
theorem dX10_rowAfterStep_76 : decode cX10_rowAfterStep 76 = .ok (.iconst (-1), 1) := by decide +kernel
theorem dX10_rowAfterStep_77 : decode cX10_rowAfterStep 77 = .ok (.ireturn, 1) := by decide +kernel
theorem dX10_rowAfterStep_78 : decode cX10_rowAfterStep 78 = .ok (.aload_n 0, 1) := by decide +kernel
theorem dX10_rowAfterStep_79 : decode cX10_rowAfterStep 79 = .ok (.getfield 66, 3) := by decide +kernel
theorem dX10_rowAfterStep_82 : decode cX10_rowAfterStep 82 = .ok (.iload_n 1, 1) := by decide +kernel
theorem dX10_rowAfterStep_83 : decode cX10_rowAfterStep 83 = .ok (.aload_n 0, 1) := by decide +kernel
theorem dX10_rowAfterStep_84 : decode cX10_rowAfterStep 84 = .ok (.getfield 44, 3) := by decide +kernel
theorem dX10_rowAfterStep_87 : decode cX10_rowAfterStep 87 = .ok (.getfield 95, 3) := by decide +kernel
theorem dX10_rowAfterStep_90 : decode cX10_rowAfterStep 90 = .ok (.iload_n 1, 1) := by decide +kernel
theorem dX10_rowAfterStep_91 : decode cX10_rowAfterStep 91 = .ok (.iaload, 1) := by decide +kernel
theorem dX10_rowAfterStep_92 : decode cX10_rowAfterStep 92 = .ok (.iastore, 1) := by decide +kernel
theorem dX10_rowAfterStep_93 : decode cX10_rowAfterStep 93 = .ok (.iload_n 1, 1) := by decide +kernel
theorem dX10_rowAfterStep_94 : decode cX10_rowAfterStep 94 = .ok (.iconst 1, 1) := by decide +kernel
theorem dX10_rowAfterStep_95 : decode cX10_rowAfterStep 95 = .ok (.iadd, 1) := by decide +kernel
theorem dX10_rowAfterStep_96 : decode cX10_rowAfterStep 96 = .ok (.ireturn, 1) := by decide +kernel
theorem dX10_rowAfterStep_97 : decode cX10_rowAfterStep 97 = .ok (.aload_n 0, 1) := by decide +kernel
theorem dX10_rowAfterStep_98 : decode cX10_rowAfterStep 98 = .ok (.iload_n 1, 1) := by decide +kernel
theorem dX10_rowAfterStep_99 : decode cX10_rowAfterStep 99 = .ok (.invokevirtual 98, 3) := by decide +kernel
theorem dX10_rowAfterStep_102 : decode cX10_rowAfterStep 102 = .ok (.ifCond .eq 9, 3) := by decide +kernel
theorem dX10_rowAfterStep_105 : decode cX10_rowAfterStep 105 = .ok (.iload_n 1, 1) := by decide +kernel
theorem dX10_rowAfterStep_106 : decode cX10_rowAfterStep 106 = .ok (.iconst 1, 1) := by decide +kernel
theorem dX10_rowAfterStep_107 : decode cX10_rowAfterStep 107 = .ok (.iadd, 1) := by decide +kernel
theorem dX10_rowAfterStep_108 : decode cX10_rowAfterStep 108 = .ok (.goto 14, 3) := by decide +kernel
theorem dX10_rowAfterStep_111 : decode cX10_rowAfterStep 111 = .ok (.aload_n 0, 1) := by decide +kernel
theorem dX10_rowAfterStep_112 : decode cX10_rowAfterStep 112 = .ok (.getfield 44, 3) := by decide +kernel
theorem dX10_rowAfterStep_115 : decode cX10_rowAfterStep 115 = .ok (.getfield 92, 3) := by decide +kernel
theorem dX10_rowAfterStep_118 : decode cX10_rowAfterStep 118 = .ok (.iload_n 1, 1) := by decide +kernel
theorem dX10_rowAfterStep_119 : decode cX10_rowAfterStep 119 = .ok (.iaload, 1) := by decide +kernel
theorem dX10_rowAfterStep_120 : decode cX10_rowAfterStep 120 = .ok (.iconst 1, 1) := by decide +kernel
theorem dX10_rowAfterStep_121 : decode cX10_rowAfterStep 121 = .ok (.iadd, 1) := by decide +kernel
theorem dX10_rowAfterStep_122 : decode cX10_rowAfterStep 122 = .ok (.ireturn, 1) := by decide +kernel
theorem dX10_rowAfterStep_123 : decode cX10_rowAfterStep 123 = .ok (.aload_n 0, 1) := by decide +kernel
theorem dX10_rowAfterStep_124 : decode cX10_rowAfterStep 124 = .ok (.iload_n 1, 1) := by decide +kernel
theorem dX10_rowAfterStep_125 : decode cX10_rowAfterStep 125 = .ok (.invokevirtual 101, 3) := by decide +kernel
theorem dX10_rowAfterStep_128 : decode cX10_rowAfterStep 128 = .ok (.ifCond .ne 13, 3) := by decide +kernel
theorem dX10_rowAfterStep_131 : decode cX10_rowAfterStep 131 = .ok (.aload_n 0, 1) := by decide +kernel
theorem dX10_rowAfterStep_132 : decode cX10_rowAfterStep 132 = .ok (.dup, 1) := by decide +kernel
theorem dX10_rowAfterStep_133 : decode cX10_rowAfterStep 133 = .ok (.getfield 22, 3) := by decide +kernel
theorem dX10_rowAfterStep_136 : decode cX10_rowAfterStep 136 = .ok (.iconst 1, 1) := by decide +kernel
theorem dX10_rowAfterStep_137 : decode cX10_rowAfterStep 137 = .ok (.iadd, 1) := by decide +kernel
theorem dX10_rowAfterStep_138 : decode cX10_rowAfterStep 138 = .ok (.putfield 22, 3) := by decide +kernel
theorem dX10_rowAfterStep_141 : decode cX10_rowAfterStep 141 = .ok (.iload_n 1, 1) := by decide +kernel
theorem dX10_rowAfterStep_142 : decode cX10_rowAfterStep 142 = .ok (.iconst 1, 1) := by decide +kernel
theorem dX10_rowAfterStep_143 : decode cX10_rowAfterStep 143 = .ok (.iadd, 1) := by decide +kernel
theorem dX10_rowAfterStep_144 : decode cX10_rowAfterStep 144 = .ok (.ireturn, 1) := by decide +kernel
theorem dX10_isSo_0 : decode cX10_isSo 0 = .ok (.aload_n 0, 1) := by decide +kernel
theorem dX10_isSo_1 : decode cX10_isSo 1 = .ok (.getfield 44, 3) := by decide +kernel
theorem dX10_isSo_4 : decode cX10_isSo 4 = .ok (.getfield 104, 3) := by decide +kernel
theorem dX10_isSo_7 : decode cX10_isSo 7 = .ok (.iload_n 1, 1) := by decide +kernel
theorem dX10_isSo_8 : decode cX10_isSo 8 = .ok (.iaload, 1) := by decide +kernel
theorem dX10_isSo_9 : decode cX10_isSo 9 = .ok (.istore_n 2, 1) := by decide +kernel
theorem dX10_isSo_10 : decode cX10_isSo 10 = .ok (.aload_n 0, 1) := by decide +kernel
theorem dX10_isSo_11 : decode cX10_isSo 11 = .ok (.getfield 44, 3) := by decide +kernel
theorem dX10_isSo_14 : decode cX10_isSo 14 = .ok (.getfield 74, 3) := by decide +kernel
theorem dX10_isSo_17 : decode cX10_isSo 17 = .ok (.iload_n 1, 1) := by decide +kernel
theorem dX10_isSo_18 : decode cX10_isSo 18 = .ok (.iaload, 1) := by decide +kernel
theorem dX10_isSo_19 : decode cX10_isSo 19 = .ok (.lookupswitch 97 #[(20, 25), (21, 63)], 25) := by decide +kernel
theorem dX10_isSo_44 : decode cX10_isSo 44 = .ok (.aload_n 0, 1) := by decide +kernel
theorem dX10_isSo_45 : decode cX10_isSo 45 = .ok (.getfield 37, 3) := by decide +kernel
theorem dX10_isSo_48 : decode cX10_isSo 48 = .ok (.iload_n 2, 1) := by decide +kernel
theorem dX10_isSo_49 : decode cX10_isSo 49 = .ok (.invokevirtual 106, 3) := by decide +kernel
theorem dX10_isSo_52 : decode cX10_isSo 52 = .ok (.ifCond .eq 28, 3) := by decide +kernel
theorem dX10_isSo_55 : decode cX10_isSo 55 = .ok (.aload_n 0, 1) := by decide +kernel
theorem dX10_isSo_56 : decode cX10_isSo 56 = .ok (.getfield 9, 3) := by decide +kernel
theorem dX10_isSo_59 : decode cX10_isSo 59 = .ok (.iload_n 2, 1) := by decide +kernel
theorem dX10_isSo_60 : decode cX10_isSo 60 = .ok (.iaload, 1) := by decide +kernel
theorem dX10_isSo_61 : decode cX10_isSo 61 = .ok (.aload_n 0, 1) := by decide +kernel
theorem dX10_isSo_62 : decode cX10_isSo 62 = .ok (.getfield 44, 3) := by decide +kernel
theorem dX10_isSo_65 : decode cX10_isSo 65 = .ok (.getfield 109, 3) := by decide +kernel
theorem dX10_isSo_68 : decode cX10_isSo 68 = .ok (.iload_n 1, 1) := by decide +kernel
theorem dX10_isSo_69 : decode cX10_isSo 69 = .ok (.iaload, 1) := by decide +kernel
theorem dX10_isSo_70 : decode cX10_isSo 70 = .ok (.invokestatic 112, 3) := by decide +kernel
theorem dX10_isSo_73 : decode cX10_isSo 73 = .ok (.ifCond .eq 7, 3) := by decide +kernel
theorem dX10_isSo_76 : decode cX10_isSo 76 = .ok (.iconst 1, 1) := by decide +kernel
theorem dX10_isSo_77 : decode cX10_isSo 77 = .ok (.goto 4, 3) := by decide +kernel
theorem dX10_isSo_80 : decode cX10_isSo 80 = .ok (.iconst 0, 1) := by decide +kernel
theorem dX10_isSo_81 : decode cX10_isSo 81 = .ok (.ireturn, 1) := by decide +kernel
theorem dX10_isSo_82 : decode cX10_isSo 82 = .ok (.aload_n 0, 1) := by decide +kernel
theorem dX10_isSo_83 : decode cX10_isSo 83 = .ok (.getfield 37, 3) := by decide +kernel
theorem dX10_isSo_86 : decode cX10_isSo 86 = .ok (.iload_n 2, 1) := by decide +kernel
theorem dX10_isSo_87 : decode cX10_isSo 87 = .ok (.invokevirtual 106, 3) := by decide +kernel
theorem dX10_isSo_90 : decode cX10_isSo 90 = .ok (.ifCond .eq 24, 3) := by decide +kernel
theorem dX10_isSo_93 : decode cX10_isSo 93 = .ok (.aload_n 0, 1) := by decide +kernel
theorem dX10_isSo_94 : decode cX10_isSo 94 = .ok (.getfield 37, 3) := by decide +kernel
theorem dX10_isSo_97 : decode cX10_isSo 97 = .ok (.aload_n 0, 1) := by decide +kernel
theorem dX10_isSo_98 : decode cX10_isSo 98 = .ok (.getfield 9, 3) := by decide +kernel
theorem dX10_isSo_101 : decode cX10_isSo 101 = .ok (.iload_n 2, 1) := by decide +kernel
theorem dX10_isSo_102 : decode cX10_isSo 102 = .ok (.iaload, 1) := by decide +kernel
theorem dX10_isSo_103 : decode cX10_isSo 103 = .ok (.invokevirtual 116, 3) := by decide +kernel
theorem dX10_isSo_106 : decode cX10_isSo 106 = .ok (.iconst (-1), 1) := by decide +kernel
theorem dX10_isSo_107 : decode cX10_isSo 107 = .ok (.if_icmp .ne 7, 3) := by decide +kernel
theorem dX10_isSo_110 : decode cX10_isSo 110 = .ok (.iconst 1, 1) := by decide +kernel
theorem dX10_isSo_111 : decode cX10_isSo 111 = .ok (.goto 4, 3) := by decide +kernel
theorem dX10_isSo_114 : decode cX10_isSo 114 = .ok (.iconst 0, 1) := by decide +kernel
theorem dX10_isSo_115 : decode cX10_isSo 115 = .ok (.ireturn, 1) := by decide +kernel
theorem dX10_isSo_116 : decode cX10_isSo 116 = .ok (.aload_n 0, 1) := by decide +kernel
theorem dX10_isSo_117 : decode cX10_isSo 117 = .ok (.getfield 19, 3) := by decide +kernel
theorem dX10_isSo_120 : decode cX10_isSo 120 = .ok (.aload_n 0, 1) := by decide +kernel
theorem dX10_isSo_121 : decode cX10_isSo 121 = .ok (.getfield 44, 3) := by decide +kernel
theorem dX10_isSo_124 : decode cX10_isSo 124 = .ok (.getfield 95, 3) := by decide +kernel
theorem dX10_isSo_127 : decode cX10_isSo 127 = .ok (.iload_n 1, 1) := by decide +kernel
theorem dX10_isSo_128 : decode cX10_isSo 128 = .ok (.iaload, 1) := by decide +kernel
theorem dX10_isSo_129 : decode cX10_isSo 129 = .ok (.if_icmp .lt 7, 3) := by decide +kernel
theorem dX10_isSo_132 : decode cX10_isSo 132 = .ok (.iconst 1, 1) := by decide +kernel
theorem dX10_isSo_133 : decode cX10_isSo 133 = .ok (.goto 4, 3) := by decide +kernel
theorem dX10_isSo_136 : decode cX10_isSo 136 = .ok (.iconst 0, 1) := by decide +kernel
theorem dX10_isSo_137 : decode cX10_isSo 137 = .ok (.ireturn, 1) := by decide +kernel
theorem dX10_doStep_0 : decode cX10_doStep 0 = .ok (.aload_n 0, 1) := by decide +kernel
theorem dX10_doStep_1 : decode cX10_doStep 1 = .ok (.getfield 44, 3) := by decide +kernel
theorem dX10_doStep_4 : decode cX10_doStep 4 = .ok (.getfield 74, 3) := by decide +kernel
theorem dX10_doStep_7 : decode cX10_doStep 7 = .ok (.iload_n 1, 1) := by decide +kernel
theorem dX10_doStep_8 : decode cX10_doStep 8 = .ok (.iaload, 1) := by decide +kernel
theorem dX10_doStep_9 : decode cX10_doStep 9 = .ok (.lookupswitch 80 #[(13, 74), (23, 59), (24, 35)], 35) := by decide +kernel
theorem dX10_doStep_44 : decode cX10_doStep 44 = .ok (.aload_n 0, 1) := by decide +kernel
theorem dX10_doStep_45 : decode cX10_doStep 45 = .ok (.dup, 1) := by decide +kernel
theorem dX10_doStep_46 : decode cX10_doStep 46 = .ok (.getfield 19, 3) := by decide +kernel
theorem dX10_doStep_49 : decode cX10_doStep 49 = .ok (.aload_n 0, 1) := by decide +kernel
theorem dX10_doStep_50 : decode cX10_doStep 50 = .ok (.getfield 44, 3) := by decide +kernel
theorem dX10_doStep_53 : decode cX10_doStep 53 = .ok (.getfield 95, 3) := by decide +kernel
theorem dX10_doStep_56 : decode cX10_doStep 56 = .ok (.iload_n 1, 1) := by decide +kernel
theorem dX10_doStep_57 : decode cX10_doStep 57 = .ok (.iaload, 1) := by decide +kernel
theorem dX10_doStep_58 : decode cX10_doStep 58 = .ok (.iadd, 1) := by decide +kernel
theorem dX10_doStep_59 : decode cX10_doStep 59 = .ok (.putfield 19, 3) := by decide +kernel
theorem dX10_doStep_62 : decode cX10_doStep 62 = .ok (.aload_n 0, 1) := by decide +kernel
theorem dX10_doStep_63 : decode cX10_doStep 63 = .ok (.invokevirtual 119, 3) := by decide +kernel
theorem dX10_doStep_66 : decode cX10_doStep 66 = .ok (.iconst 1, 1) := by decide +kernel
theorem dX10_doStep_67 : decode cX10_doStep 67 = .ok (.ireturn, 1) := by decide +kernel
theorem dX10_doStep_68 : decode cX10_doStep 68 = .ok (.aload_n 0, 1) := by decide +kernel
theorem dX10_doStep_69 : decode cX10_doStep 69 = .ok (.aload_n 0, 1) := by decide +kernel
theorem dX10_doStep_70 : decode cX10_doStep 70 = .ok (.getfield 44, 3) := by decide +kernel
theorem dX10_doStep_73 : decode cX10_doStep 73 = .ok (.getfield 95, 3) := by decide +kernel
theorem dX10_doStep_76 : decode cX10_doStep 76 = .ok (.iload_n 1, 1) := by decide +kernel
theorem dX10_doStep_77 : decode cX10_doStep 77 = .ok (.iaload, 1) := by decide +kernel
theorem dX10_doStep_78 : decode cX10_doStep 78 = .ok (.invokevirtual 122, 3) := by decide +kernel
theorem dX10_doStep_81 : decode cX10_doStep 81 = .ok (.iconst 1, 1) := by decide +kernel
theorem dX10_doStep_82 : decode cX10_doStep 82 = .ok (.ireturn, 1) := by decide +kernel
theorem dX10_doStep_83 : decode cX10_doStep 83 = .ok (.aload_n 0, 1) := by decide +kernel
theorem dX10_doStep_84 : decode cX10_doStep 84 = .ok (.iload_n 1, 1) := by decide +kernel
theorem dX10_doStep_85 : decode cX10_doStep 85 = .ok (.invokevirtual 126, 3) := by decide +kernel
theorem dX10_doStep_88 : decode cX10_doStep 88 = .ok (.ireturn, 1) := by decide +kernel
theorem dX10_doStep_89 : decode cX10_doStep 89 = .ok (.aload_n 0, 1) := by decide +kernel
theorem dX10_doStep_90 : decode cX10_doStep 90 = .ok (.aload_n 0, 1) := by decide +kernel
theorem dX10_doStep_91 : decode cX10_doStep 91 = .ok (.getfield 44, 3) := by decide +kernel
theorem dX10_doStep_94 : decode cX10_doStep 94 = .ok (.getfield 74, 3) := by decide +kernel
theorem dX10_doStep_97 : decode cX10_doStep 97 = .ok (.iload_n 1, 1) := by decide +kernel
theorem dX10_doStep_98 : decode cX10_doStep 98 = .ok (.iaload, 1) := by decide +kernel
theorem dX10_doStep_99 : decode cX10_doStep 99 = .ok (.aload_n 0, 1) := by decide +kernel
theorem dX10_doStep_100 : decode cX10_doStep 100 = .ok (.getfield 44, 3) := by decide +kernel
theorem dX10_doStep_103 : decode cX10_doStep 103 = .ok (.getfield 104, 3) := by decide +kernel
theorem dX10_doStep_106 : decode cX10_doStep 106 = .ok (.iload_n 1, 1) := by decide +kernel
theorem dX10_doStep_107 : decode cX10_doStep 107 = .ok (.iaload, 1) := by decide +kernel
theorem dX10_doStep_108 : decode cX10_doStep 108 = .ok (.aload_n 0, 1) := by decide +kernel
theorem dX10_doStep_109 : decode cX10_doStep 109 = .ok (.getfield 44, 3) := by decide +kernel
theorem dX10_doStep_112 : decode cX10_doStep 112 = .ok (.getfield 109, 3) := by decide +kernel
theorem dX10_doStep_115 : decode cX10_doStep 115 = .ok (.iload_n 1, 1) := by decide +kernel
theorem dX10_doStep_116 : decode cX10_doStep 116 = .ok (.iaload, 1) := by decide +kernel
theorem dX10_doStep_117 : decode cX10_doStep 117 = .ok (.invokevirtual 129, 3) := by decide +kernel
theorem dX10_doStep_120 : decode cX10_doStep 120 = .ok (.ireturn, 1) := by decide +kernel
theorem dX10_alter_0 : decode cX10_alter 0 = .ok (.aload_n 0, 1) := by decide +kernel
theorem dX10_alter_1 : decode cX10_alter 1 = .ok (.getfield 37, 3) := by decide +kernel
theorem dX10_alter_4 : decode cX10_alter 4 = .ok (.iload_n 2, 1) := by decide +kernel
theorem dX10_alter_5 : decode cX10_alter 5 = .ok (.invokevirtual 106, 3) := by decide +kernel
theorem dX10_alter_8 : decode cX10_alter 8 = .ok (.ifCond .eq 14, 3) := by decide +kernel
theorem dX10_alter_11 : decode cX10_alter 11 = .ok (.aload_n 0, 1) := by decide +kernel
theorem dX10_alter_12 : decode cX10_alter 12 = .ok (.getfield 37, 3) := by decide +kernel
theorem dX10_alter_15 : decode cX10_alter 15 = .ok (.iload_n 3, 1) := by decide +kernel
theorem dX10_alter_16 : decode cX10_alter 16 = .ok (.invokevirtual 133, 3) := by decide +kernel
theorem dX10_alter_19 : decode cX10_alter 19 = .ok (.ifCond .ne 5, 3) := by decide +kernel
theorem dX10_alter_22 : decode cX10_alter 22 = .ok (.iconst 0, 1) := by decide +kernel
theorem dX10_alter_23 : decode cX10_alter 23 = .ok (.ireturn, 1) := by decide +kernel
theorem dX10_alter_24 : decode cX10_alter 24 = .ok (.iload_n 1, 1) := by decide +kernel
theorem dX10_alter_25 : decode cX10_alter 25 = .ok (.lookupswitch 86 #[(11, 27), (17, 64)], 27) := by decide +kernel
theorem dX10_alter_52 : decode cX10_alter 52 = .ok (.aload_n 0, 1) := by decide +kernel
theorem dX10_alter_53 : decode cX10_alter 53 = .ok (.getfield 37, 3) := by decide +kernel
theorem dX10_alter_56 : decode cX10_alter 56 = .ok (.getfield 136, 3) := by decide +kernel
theorem dX10_alter_59 : decode cX10_alter 59 = .ok (.iload_n 3, 1) := by decide +kernel
theorem dX10_alter_60 : decode cX10_alter 60 = .ok (.iaload, 1) := by decide +kernel
theorem dX10_alter_61 : decode cX10_alter 61 = .ok (.aload_n 0, 1) := by decide +kernel
theorem dX10_alter_62 : decode cX10_alter 62 = .ok (.getfield 9, 3) := by decide +kernel
theorem dX10_alter_65 : decode cX10_alter 65 = .ok (.iload_n 2, 1) := by decide +kernel
theorem dX10_alter_66 : decode cX10_alter 66 = .ok (.iaload, 1) := by decide +kernel
theorem dX10_alter_67 : decode cX10_alter 67 = .ok (.iconst (-1), 1) := by decide +kernel
theorem dX10_alter_68 : decode cX10_alter 68 = .ok (.ixor, 1) := by decide +kernel
theorem dX10_alter_69 : decode cX10_alter 69 = .ok (.iand, 1) := by decide +kernel
theorem dX10_alter_70 : decode cX10_alter 70 = .ok (.ifCond .eq 5, 3) := by decide +kernel
theorem dX10_alter_73 : decode cX10_alter 73 = .ok (.iconst 0, 1) := by decide +kernel
theorem dX10_alter_74 : decode cX10_alter 74 = .ok (.ireturn, 1) := by decide +kernel
theorem dX10_alter_75 : decode cX10_alter 75 = .ok (.aload_n 0, 1) := by decide +kernel
theorem dX10_alter_76 : decode cX10_alter 76 = .ok (.getfield 9, 3) := by decide +kernel
theorem dX10_alter_79 : decode cX10_alter 79 = .ok (.iload_n 2, 1) := by decide +kernel
theorem dX10_alter_80 : decode cX10_alter 80 = .ok (.dup2, 1) := by decide +kernel
theorem dX10_alter_81 : decode cX10_alter 81 = .ok (.iaload, 1) := by decide +kernel
theorem dX10_alter_82 : decode cX10_alter 82 = .ok (.iconst 1, 1) := by decide +kernel
theorem dX10_alter_83 : decode cX10_alter 83 = .ok (.iload_n 3, 1) := by decide +kernel
theorem dX10_alter_84 : decode cX10_alter 84 = .ok (.ishl, 1) := by decide +kernel
theorem dX10_alter_85 : decode cX10_alter 85 = .ok (.ior, 1) := by decide +kernel
theorem dX10_alter_86 : decode cX10_alter 86 = .ok (.iastore, 1) := by decide +kernel
theorem dX10_alter_87 : decode cX10_alter 87 = .ok (.iconst 1, 1) := by decide +kernel
theorem dX10_alter_88 : decode cX10_alter 88 = .ok (.ireturn, 1) := by decide +kernel
theorem dX10_alter_89 : decode cX10_alter 89 = .ok (.aload_n 0, 1) := by decide +kernel
theorem dX10_alter_90 : decode cX10_alter 90 = .ok (.getfield 9, 3) := by decide +kernel
theorem dX10_alter_93 : decode cX10_alter 93 = .ok (.iload_n 2, 1) := by decide +kernel
theorem dX10_alter_94 : decode cX10_alter 94 = .ok (.aload_n 0, 1) := by decide +kernel
theorem dX10_alter_95 : decode cX10_alter 95 = .ok (.getfield 37, 3) := by decide +kernel
theorem dX10_alter_98 : decode cX10_alter 98 = .ok (.aload_n 0, 1) := by decide +kernel
theorem dX10_alter_99 : decode cX10_alter 99 = .ok (.getfield 9, 3) := by decide +kernel
theorem dX10_alter_102 : decode cX10_alter 102 = .ok (.iload_n 2, 1) := by decide +kernel
theorem dX10_alter_103 : decode cX10_alter 103 = .ok (.iaload, 1) := by decide +kernel
theorem dX10_alter_104 : decode cX10_alter 104 = .ok (.iload_n 3, 1) := by decide +kernel
theorem dX10_alter_105 : decode cX10_alter 105 = .ok (.invokevirtual 139, 3) := by decide +kernel
theorem dX10_alter_108 : decode cX10_alter 108 = .ok (.iastore, 1) := by decide +kernel
theorem dX10_alter_109 : decode cX10_alter 109 = .ok (.iconst 1, 1) := by decide +kernel
theorem dX10_alter_110 : decode cX10_alter 110 = .ok (.ireturn, 1) := by decide +kernel
theorem dX10_alter_111 : decode cX10_alter 111 = .ok (.aload_n 0, 1) := by decide +kernel
theorem dX10_alter_112 : decode cX10_alter 112 = .ok (.iload_n 3, 1) := by decide +kernel
theorem dX10_alter_113 : decode cX10_alter 113 = .ok (.invokevirtual 143, 3) := by decide +kernel
theorem dX10_alter_116 : decode cX10_alter 116 = .ok (.ifCond .ne 5, 3) := by decide +kernel
theorem dX10_alter_119 : decode cX10_alter 119 = .ok (.iconst 0, 1) := by decide +kernel
theorem dX10_alter_120 : decode cX10_alter 120 = .ok (.ireturn, 1) := by decide +kernel
theorem dX10_alter_121 : decode cX10_alter 121 = .ok (.aload_n 0, 1) := by decide +kernel
theorem dX10_alter_122 : decode cX10_alter 122 = .ok (.getfield 9, 3) := by decide +kernel
theorem dX10_alter_125 : decode cX10_alter 125 = .ok (.iload_n 2, 1) := by decide +kernel
theorem dX10_alter_126 : decode cX10_alter 126 = .ok (.aload_n 0, 1) := by decide +kernel
theorem dX10_alter_127 : decode cX10_alter 127 = .ok (.getfield 37, 3) := by decide +kernel
theorem dX10_alter_130 : decode cX10_alter 130 = .ok (.aload_n 0, 1) := by decide +kernel
theorem dX10_alter_131 : decode cX10_alter 131 = .ok (.getfield 9, 3) := by decide +kernel
theorem dX10_alter_134 : decode cX10_alter 134 = .ok (.iload_n 2, 1) := by decide +kernel
theorem dX10_alter_135 : decode cX10_alter 135 = .ok (.iaload, 1) := by decide +kernel
theorem dX10_alter_136 : decode cX10_alter 136 = .ok (.iload_n 3, 1) := by decide +kernel
theorem dX10_alter_137 : decode cX10_alter 137 = .ok (.invokevirtual 146, 3) := by decide +kernel
theorem dX10_alter_140 : decode cX10_alter 140 = .ok (.iastore, 1) := by decide +kernel
theorem dX10_alter_141 : decode cX10_alter 141 = .ok (.iconst 1, 1) := by decide +kernel
theorem dX10_alter_142 : decode cX10_alter 142 = .ok (.ireturn, 1) := by decide +kernel
theorem dX10_isAnywhere_0 : decode cX10_isAnywhere 0 = .ok (.iconst 0, 1) := by decide +kernel
theorem dX10_isAnywhere_1 : decode cX10_isAnywhere 1 = .ok (.istore_n 2, 1) := by decide +kernel
theorem dX10_isAnywhere_2 : decode cX10_isAnywhere 2 = .ok (.iload_n 2, 1) := by decide +kernel
theorem dX10_isAnywhere_3 : decode cX10_isAnywhere 3 = .ok (.aload_n 0, 1) := by decide +kernel
theorem dX10_isAnywhere_4 : decode cX10_isAnywhere 4 = .ok (.getfield 37, 3) := by decide +kernel
theorem dX10_isAnywhere_7 : decode cX10_isAnywhere 7 = .ok (.getfield 89, 3) := by decide +kernel
theorem dX10_isAnywhere_10 : decode cX10_isAnywhere 10 = .ok (.if_icmp .ge 24, 3) := by decide +kernel
theorem dX10_isAnywhere_13 : decode cX10_isAnywhere 13 = .ok (.aload_n 0, 1) := by decide +kernel
theorem dX10_isAnywhere_14 : decode cX10_isAnywhere 14 = .ok (.getfield 9, 3) := by decide +kernel
theorem dX10_isAnywhere_17 : decode cX10_isAnywhere 17 = .ok (.iload_n 2, 1) := by decide +kernel
theorem dX10_isAnywhere_18 : decode cX10_isAnywhere 18 = .ok (.iaload, 1) := by decide +kernel
theorem dX10_isAnywhere_19 : decode cX10_isAnywhere 19 = .ok (.iload_n 1, 1) := by decide +kernel
theorem dX10_isAnywhere_20 : decode cX10_isAnywhere 20 = .ok (.invokestatic 112, 3) := by decide +kernel
theorem dX10_isAnywhere_23 : decode cX10_isAnywhere 23 = .ok (.ifCond .eq 5, 3) := by decide +kernel
theorem dX10_isAnywhere_26 : decode cX10_isAnywhere 26 = .ok (.iconst 1, 1) := by decide +kernel
theorem dX10_isAnywhere_27 : decode cX10_isAnywhere 27 = .ok (.ireturn, 1) := by decide +kernel
theorem dX10_isAnywhere_28 : decode cX10_isAnywhere 28 = .ok (.iinc 2 1, 3) := by decide +kernel
theorem dX10_isAnywhere_31 : decode cX10_isAnywhere 31 = .ok (.goto (-29), 3) := by decide +kernel
theorem dX10_isAnywhere_34 : decode cX10_isAnywhere 34 = .ok (.iconst 0, 1) := by decide +kernel
theorem dX10_isAnywhere_35 : decode cX10_isAnywhere 35 = .ok (.ireturn, 1) := by decide +kernel
theorem dX10_setOut_0 : decode cX10_setOut 0 = .ok (.aload_n 0, 1) := by decide +kernel
theorem dX10_setOut_1 : decode cX10_setOut 1 = .ok (.getfield 44, 3) := by decide +kernel
theorem dX10_setOut_4 : decode cX10_setOut 4 = .ok (.getfield 104, 3) := by decide +kernel
theorem dX10_setOut_7 : decode cX10_setOut 7 = .ok (.iload_n 1, 1) := by decide +kernel
theorem dX10_setOut_8 : decode cX10_setOut 8 = .ok (.iaload, 1) := by decide +kernel
theorem dX10_setOut_9 : decode cX10_setOut 9 = .ok (.istore_n 2, 1) := by decide +kernel
theorem dX10_setOut_10 : decode cX10_setOut 10 = .ok (.aload_n 0, 1) := by decide +kernel
theorem dX10_setOut_11 : decode cX10_setOut 11 = .ok (.getfield 44, 3) := by decide +kernel
theorem dX10_setOut_14 : decode cX10_setOut 14 = .ok (.getfield 109, 3) := by decide +kernel
theorem dX10_setOut_17 : decode cX10_setOut 17 = .ok (.iload_n 1, 1) := by decide +kernel
theorem dX10_setOut_18 : decode cX10_setOut 18 = .ok (.iaload, 1) := by decide +kernel
theorem dX10_setOut_19 : decode cX10_setOut 19 = .ok (.istore_n 3, 1) := by decide +kernel
theorem dX10_setOut_20 : decode cX10_setOut 20 = .ok (.aload_n 0, 1) := by decide +kernel
theorem dX10_setOut_21 : decode cX10_setOut 21 = .ok (.getfield 37, 3) := by decide +kernel
theorem dX10_setOut_24 : decode cX10_setOut 24 = .ok (.iload_n 2, 1) := by decide +kernel
theorem dX10_setOut_25 : decode cX10_setOut 25 = .ok (.invokevirtual 106, 3) := by decide +kernel
theorem dX10_setOut_28 : decode cX10_setOut 28 = .ok (.ifCond .eq 19, 3) := by decide +kernel
theorem dX10_setOut_31 : decode cX10_setOut 31 = .ok (.aload_n 0, 1) := by decide +kernel
theorem dX10_setOut_32 : decode cX10_setOut 32 = .ok (.getfield 37, 3) := by decide +kernel
theorem dX10_setOut_35 : decode cX10_setOut 35 = .ok (.iload_n 3, 1) := by decide +kernel
theorem dX10_setOut_36 : decode cX10_setOut 36 = .ok (.invokevirtual 106, 3) := by decide +kernel
theorem dX10_setOut_39 : decode cX10_setOut 39 = .ok (.ifCond .eq 8, 3) := by decide +kernel
theorem dX10_setOut_42 : decode cX10_setOut 42 = .ok (.iload_n 2, 1) := by decide +kernel
theorem dX10_setOut_43 : decode cX10_setOut 43 = .ok (.iload_n 3, 1) := by decide +kernel
theorem dX10_setOut_44 : decode cX10_setOut 44 = .ok (.if_icmp .ne 5, 3) := by decide +kernel
theorem dX10_setOut_47 : decode cX10_setOut 47 = .ok (.iconst 0, 1) := by decide +kernel
theorem dX10_setOut_48 : decode cX10_setOut 48 = .ok (.ireturn, 1) := by decide +kernel
theorem dX10_setOut_49 : decode cX10_setOut 49 = .ok (.aload_n 0, 1) := by decide +kernel
theorem dX10_setOut_50 : decode cX10_setOut 50 = .ok (.getfield 44, 3) := by decide +kernel
theorem dX10_setOut_53 : decode cX10_setOut 53 = .ok (.getfield 95, 3) := by decide +kernel
theorem dX10_setOut_56 : decode cX10_setOut 56 = .ok (.iload_n 1, 1) := by decide +kernel
theorem dX10_setOut_57 : decode cX10_setOut 57 = .ok (.iaload, 1) := by decide +kernel
theorem dX10_setOut_58 : decode cX10_setOut 58 = .ok (.istore 4, 2) := by decide +kernel
theorem dX10_setOut_60 : decode cX10_setOut 60 = .ok (.iload 4, 2) := by decide +kernel
theorem dX10_setOut_62 : decode cX10_setOut 62 = .ok (.ifCond .le 7, 3) := by decide +kernel
theorem dX10_setOut_65 : decode cX10_setOut 65 = .ok (.iconst 1, 1) := by decide +kernel
theorem dX10_setOut_66 : decode cX10_setOut 66 = .ok (.goto 4, 3) := by decide +kernel
theorem dX10_setOut_69 : decode cX10_setOut 69 = .ok (.iconst 0, 1) := by decide +kernel
theorem dX10_setOut_70 : decode cX10_setOut 70 = .ok (.aload_n 0, 1) := by decide +kernel
theorem dX10_setOut_71 : decode cX10_setOut 71 = .ok (.getfield 44, 3) := by decide +kernel
theorem dX10_setOut_74 : decode cX10_setOut 74 = .ok (.getfield 149, 3) := by decide +kernel
theorem dX10_setOut_77 : decode cX10_setOut 77 = .ok (.iload_n 1, 1) := by decide +kernel
theorem dX10_setOut_78 : decode cX10_setOut 78 = .ok (.baload, 1) := by decide +kernel
theorem dX10_setOut_79 : decode cX10_setOut 79 = .ok (.ifCond .eq 7, 3) := by decide +kernel
theorem dX10_setOut_82 : decode cX10_setOut 82 = .ok (.iconst 1, 1) := by decide +kernel
theorem dX10_setOut_83 : decode cX10_setOut 83 = .ok (.goto 4, 3) := by decide +kernel
theorem dX10_setOut_86 : decode cX10_setOut 86 = .ok (.iconst 0, 1) := by decide +kernel
theorem dX10_setOut_87 : decode cX10_setOut 87 = .ok (.iadd, 1) := by decide +kernel
theorem dX10_setOut_88 : decode cX10_setOut 88 = .ok (.istore 5, 2) := by decide +kernel
theorem dX10_setOut_90 : decode cX10_setOut 90 = .ok (.aload_n 0, 1) := by decide +kernel
theorem dX10_setOut_91 : decode cX10_setOut 91 = .ok (.getfield 31, 3) := by decide +kernel
theorem dX10_setOut_94 : decode cX10_setOut 94 = .ok (.iload 5, 2) := by decide +kernel
theorem dX10_setOut_96 : decode cX10_setOut 96 = .ok (.iadd, 1) := by decide +kernel
theorem dX10_setOut_97 : decode cX10_setOut 97 = .ok (.bipush 20, 2) := by decide +kernel
theorem dX10_setOut_99 : decode cX10_setOut 99 = .ok (.if_icmp .le 5, 3) := by decide +kernel
theorem dX10_setOut_102 : decode cX10_setOut 102 = .ok (.iconst 0, 1) := by decide +kernel
theorem dX10_setOut_103 : decode cX10_setOut 103 = .ok (.ireturn, 1) := by decide +kernel
theorem dX10_setOut_104 : decode cX10_setOut 104 = .ok (.aload_n 0, 1) := by decide +kernel
theorem dX10_setOut_105 : decode cX10_setOut 105 = .ok (.dup, 1) := by decide +kernel
theorem dX10_setOut_106 : decode cX10_setOut 106 = .ok (.getfield 51, 3) := by decide +kernel
theorem dX10_setOut_109 : decode cX10_setOut 109 = .ok (.iconst 1, 1) := by decide +kernel
theorem dX10_setOut_110 : decode cX10_setOut 110 = .ok (.iadd, 1) := by decide +kernel
theorem dX10_setOut_111 : decode cX10_setOut 111 = .ok (.putfield 51, 3) := by decide +kernel
theorem dX10_setOut_114 : decode cX10_setOut 114 = .ok (.iload 4, 2) := by decide +kernel
theorem dX10_setOut_116 : decode cX10_setOut 116 = .ok (.ifCond .le 24, 3) := by decide +kernel
theorem dX10_setOut_119 : decode cX10_setOut 119 = .ok (.aload_n 0, 1) := by decide +kernel
theorem dX10_setOut_120 : decode cX10_setOut 120 = .ok (.aload_n 0, 1) := by decide +kernel
theorem dX10_setOut_121 : decode cX10_setOut 121 = .ok (.getfield 9, 3) := by decide +kernel
theorem dX10_setOut_124 : decode cX10_setOut 124 = .ok (.iload_n 2, 1) := by decide +kernel
theorem dX10_setOut_125 : decode cX10_setOut 125 = .ok (.iaload, 1) := by decide +kernel
theorem dX10_setOut_126 : decode cX10_setOut 126 = .ok (.iload_n 3, 1) := by decide +kernel
theorem dX10_setOut_127 : decode cX10_setOut 127 = .ok (.aload_n 0, 1) := by decide +kernel
theorem dX10_setOut_128 : decode cX10_setOut 128 = .ok (.getfield 19, 3) := by decide +kernel
theorem dX10_setOut_131 : decode cX10_setOut 131 = .ok (.iload 4, 2) := by decide +kernel
theorem dX10_setOut_133 : decode cX10_setOut 133 = .ok (.iadd, 1) := by decide +kernel
theorem dX10_setOut_134 : decode cX10_setOut 134 = .ok (.invokevirtual 153, 3) := by decide +kernel
theorem dX10_setOut_137 : decode cX10_setOut 137 = .ok (.goto 14, 3) := by decide +kernel
theorem dX10_setOut_140 : decode cX10_setOut 140 = .ok (.aload_n 0, 1) := by decide +kernel
theorem dX10_setOut_141 : decode cX10_setOut 141 = .ok (.aload_n 0, 1) := by decide +kernel
theorem dX10_setOut_142 : decode cX10_setOut 142 = .ok (.getfield 9, 3) := by decide +kernel
theorem dX10_setOut_145 : decode cX10_setOut 145 = .ok (.iload_n 2, 1) := by decide +kernel
theorem dX10_setOut_146 : decode cX10_setOut 146 = .ok (.iaload, 1) := by decide +kernel
theorem dX10_setOut_147 : decode cX10_setOut 147 = .ok (.iload_n 3, 1) := by decide +kernel
theorem dX10_setOut_148 : decode cX10_setOut 148 = .ok (.invokevirtual 157, 3) := by decide +kernel
theorem dX10_setOut_151 : decode cX10_setOut 151 = .ok (.aload_n 0, 1) := by decide +kernel
theorem dX10_setOut_152 : decode cX10_setOut 152 = .ok (.getfield 44, 3) := by decide +kernel
theorem dX10_setOut_155 : decode cX10_setOut 155 = .ok (.getfield 149, 3) := by decide +kernel
theorem dX10_setOut_158 : decode cX10_setOut 158 = .ok (.iload_n 1, 1) := by decide +kernel
theorem dX10_setOut_159 : decode cX10_setOut 159 = .ok (.baload, 1) := by decide +kernel
theorem dX10_setOut_160 : decode cX10_setOut 160 = .ok (.ifCond .eq 23, 3) := by decide +kernel
theorem dX10_setOut_163 : decode cX10_setOut 163 = .ok (.aload_n 0, 1) := by decide +kernel
theorem dX10_setOut_164 : decode cX10_setOut 164 = .ok (.aload_n 0, 1) := by decide +kernel
theorem dX10_setOut_165 : decode cX10_setOut 165 = .ok (.getfield 9, 3) := by decide +kernel
theorem dX10_setOut_168 : decode cX10_setOut 168 = .ok (.iload_n 2, 1) := by decide +kernel
theorem dX10_setOut_169 : decode cX10_setOut 169 = .ok (.iaload, 1) := by decide +kernel
theorem dX10_setOut_170 : decode cX10_setOut 170 = .ok (.iload_n 3, 1) := by decide +kernel
theorem dX10_setOut_171 : decode cX10_setOut 171 = .ok (.aload_n 0, 1) := by decide +kernel
theorem dX10_setOut_172 : decode cX10_setOut 172 = .ok (.getfield 19, 3) := by decide +kernel
theorem dX10_setOut_175 : decode cX10_setOut 175 = .ok (.iload 4, 2) := by decide +kernel
theorem dX10_setOut_177 : decode cX10_setOut 177 = .ok (.iadd, 1) := by decide +kernel
theorem dX10_setOut_178 : decode cX10_setOut 178 = .ok (.iconst 1, 1) := by decide +kernel
theorem dX10_setOut_179 : decode cX10_setOut 179 = .ok (.iadd, 1) := by decide +kernel
theorem dX10_setOut_180 : decode cX10_setOut 180 = .ok (.invokevirtual 153, 3) := by decide +kernel
theorem dX10_setOut_183 : decode cX10_setOut 183 = .ok (.iconst 1, 1) := by decide +kernel
theorem dX10_setOut_184 : decode cX10_setOut 184 = .ok (.ireturn, 1) := by decide +kernel
theorem dX10_addCargo_0 : decode cX10_addCargo 0 = .ok (.aload_n 0, 1) := by decide +kernel
theorem dX10_addCargo_1 : decode cX10_addCargo 1 = .ok (.getfield 31, 3) := by decide +kernel
theorem dX10_addCargo_4 : decode cX10_addCargo 4 = .ok (.bipush 20, 2) := by decide +kernel
theorem dX10_addCargo_6 : decode cX10_addCargo 6 = .ok (.if_icmp .ge 56, 3) := by decide +kernel
theorem dX10_addCargo_9 : decode cX10_addCargo 9 = .ok (.aload_n 0, 1) := by decide +kernel
theorem dX10_addCargo_10 : decode cX10_addCargo 10 = .ok (.getfield 54, 3) := by decide +kernel
theorem dX10_addCargo_13 : decode cX10_addCargo 13 = .ok (.aload_n 0, 1) := by decide +kernel
theorem dX10_addCargo_14 : decode cX10_addCargo 14 = .ok (.getfield 31, 3) := by decide +kernel
theorem dX10_addCargo_17 : decode cX10_addCargo 17 = .ok (.iload_n 1, 1) := by decide +kernel
theorem dX10_addCargo_18 : decode cX10_addCargo 18 = .ok (.iastore, 1) := by decide +kernel
theorem dX10_addCargo_19 : decode cX10_addCargo 19 = .ok (.aload_n 0, 1) := by decide +kernel
theorem dX10_addCargo_20 : decode cX10_addCargo 20 = .ok (.getfield 57, 3) := by decide +kernel
theorem dX10_addCargo_23 : decode cX10_addCargo 23 = .ok (.aload_n 0, 1) := by decide +kernel
theorem dX10_addCargo_24 : decode cX10_addCargo 24 = .ok (.getfield 31, 3) := by decide +kernel
theorem dX10_addCargo_27 : decode cX10_addCargo 27 = .ok (.iload_n 2, 1) := by decide +kernel
theorem dX10_addCargo_28 : decode cX10_addCargo 28 = .ok (.iastore, 1) := by decide +kernel
theorem dX10_addCargo_29 : decode cX10_addCargo 29 = .ok (.aload_n 0, 1) := by decide +kernel
theorem dX10_addCargo_30 : decode cX10_addCargo 30 = .ok (.getfield 60, 3) := by decide +kernel
theorem dX10_addCargo_33 : decode cX10_addCargo 33 = .ok (.aload_n 0, 1) := by decide +kernel
theorem dX10_addCargo_34 : decode cX10_addCargo 34 = .ok (.getfield 31, 3) := by decide +kernel
theorem dX10_addCargo_37 : decode cX10_addCargo 37 = .ok (.iload_n 3, 1) := by decide +kernel
theorem dX10_addCargo_38 : decode cX10_addCargo 38 = .ok (.iastore, 1) := by decide +kernel
theorem dX10_addCargo_39 : decode cX10_addCargo 39 = .ok (.aload_n 0, 1) := by decide +kernel
theorem dX10_addCargo_40 : decode cX10_addCargo 40 = .ok (.getfield 63, 3) := by decide +kernel
theorem dX10_addCargo_43 : decode cX10_addCargo 43 = .ok (.aload_n 0, 1) := by decide +kernel
theorem dX10_addCargo_44 : decode cX10_addCargo 44 = .ok (.getfield 31, 3) := by decide +kernel
theorem dX10_addCargo_47 : decode cX10_addCargo 47 = .ok (.aload_n 0, 1) := by decide +kernel
theorem dX10_addCargo_48 : decode cX10_addCargo 48 = .ok (.getfield 51, 3) := by decide +kernel
theorem dX10_addCargo_51 : decode cX10_addCargo 51 = .ok (.iastore, 1) := by decide +kernel
theorem dX10_addCargo_52 : decode cX10_addCargo 52 = .ok (.aload_n 0, 1) := by decide +kernel
theorem dX10_addCargo_53 : decode cX10_addCargo 53 = .ok (.dup, 1) := by decide +kernel
theorem dX10_addCargo_54 : decode cX10_addCargo 54 = .ok (.getfield 31, 3) := by decide +kernel
theorem dX10_addCargo_57 : decode cX10_addCargo 57 = .ok (.iconst 1, 1) := by decide +kernel
theorem dX10_addCargo_58 : decode cX10_addCargo 58 = .ok (.iadd, 1) := by decide +kernel
theorem dX10_addCargo_59 : decode cX10_addCargo 59 = .ok (.putfield 31, 3) := by decide +kernel
theorem dX10_addCargo_62 : decode cX10_addCargo 62 = .ok (.return_, 1) := by decide +kernel
theorem dX10_land_0 : decode cX10_land 0 = .ok (.aload_n 0, 1) := by decide +kernel
theorem dX10_land_1 : decode cX10_land 1 = .ok (.getfield 37, 3) := by decide +kernel
theorem dX10_land_4 : decode cX10_land 4 = .ok (.iload_n 2, 1) := by decide +kernel
theorem dX10_land_5 : decode cX10_land 5 = .ok (.invokevirtual 106, 3) := by decide +kernel
theorem dX10_land_8 : decode cX10_land 8 = .ok (.ifCond .eq 13, 3) := by decide +kernel
theorem dX10_land_11 : decode cX10_land 11 = .ok (.aload_n 0, 1) := by decide +kernel
theorem dX10_land_12 : decode cX10_land 12 = .ok (.getfield 9, 3) := by decide +kernel
theorem dX10_land_15 : decode cX10_land 15 = .ok (.iload_n 2, 1) := by decide +kernel
theorem dX10_land_16 : decode cX10_land 16 = .ok (.dup2, 1) := by decide +kernel
theorem dX10_land_17 : decode cX10_land 17 = .ok (.iaload, 1) := by decide +kernel
theorem dX10_land_18 : decode cX10_land 18 = .ok (.iload_n 1, 1) := by decide +kernel
theorem dX10_land_19 : decode cX10_land 19 = .ok (.ior, 1) := by decide +kernel
theorem dX10_land_20 : decode cX10_land 20 = .ok (.iastore, 1) := by decide +kernel
theorem dX10_land_21 : decode cX10_land 21 = .ok (.aload_n 0, 1) := by decide +kernel
theorem dX10_land_22 : decode cX10_land 22 = .ok (.dup, 1) := by decide +kernel
theorem dX10_land_23 : decode cX10_land 23 = .ok (.getfield 25, 3) := by decide +kernel
theorem dX10_land_26 : decode cX10_land 26 = .ok (.iconst 1, 1) := by decide +kernel
theorem dX10_land_27 : decode cX10_land 27 = .ok (.iadd, 1) := by decide +kernel
theorem dX10_land_28 : decode cX10_land 28 = .ok (.putfield 25, 3) := by decide +kernel
theorem dX10_land_31 : decode cX10_land 31 = .ok (.return_, 1) := by decide +kernel
theorem dX10_landDue_0 : decode cX10_landDue 0 = .ok (.iconst 0, 1) := by decide +kernel
theorem dX10_landDue_1 : decode cX10_landDue 1 = .ok (.istore_n 1, 1) := by decide +kernel
theorem dX10_landDue_2 : decode cX10_landDue 2 = .ok (.iconst 0, 1) := by decide +kernel
theorem dX10_landDue_3 : decode cX10_landDue 3 = .ok (.istore_n 2, 1) := by decide +kernel
theorem dX10_landDue_4 : decode cX10_landDue 4 = .ok (.iload_n 2, 1) := by decide +kernel
theorem dX10_landDue_5 : decode cX10_landDue 5 = .ok (.aload_n 0, 1) := by decide +kernel
theorem dX10_landDue_6 : decode cX10_landDue 6 = .ok (.getfield 31, 3) := by decide +kernel
theorem dX10_landDue_9 : decode cX10_landDue 9 = .ok (.if_icmp .ge 56, 3) := by decide +kernel
theorem dX10_landDue_12 : decode cX10_landDue 12 = .ok (.iload_n 2, 1) := by decide +kernel
theorem dX10_landDue_13 : decode cX10_landDue 13 = .ok (.bipush 20, 2) := by decide +kernel
theorem dX10_landDue_15 : decode cX10_landDue 15 = .ok (.if_icmp .ge 50, 3) := by decide +kernel
theorem dX10_landDue_18 : decode cX10_landDue 18 = .ok (.aload_n 0, 1) := by decide +kernel
theorem dX10_landDue_19 : decode cX10_landDue 19 = .ok (.getfield 60, 3) := by decide +kernel
theorem dX10_landDue_22 : decode cX10_landDue 22 = .ok (.iload_n 2, 1) := by decide +kernel
theorem dX10_landDue_23 : decode cX10_landDue 23 = .ok (.iaload, 1) := by decide +kernel
theorem dX10_landDue_24 : decode cX10_landDue 24 = .ok (.aload_n 0, 1) := by decide +kernel
theorem dX10_landDue_25 : decode cX10_landDue 25 = .ok (.getfield 19, 3) := by decide +kernel
theorem dX10_landDue_28 : decode cX10_landDue 28 = .ok (.if_icmp .gt 22, 3) := by decide +kernel
theorem dX10_landDue_31 : decode cX10_landDue 31 = .ok (.aload_n 0, 1) := by decide +kernel
theorem dX10_landDue_32 : decode cX10_landDue 32 = .ok (.aload_n 0, 1) := by decide +kernel
theorem dX10_landDue_33 : decode cX10_landDue 33 = .ok (.getfield 54, 3) := by decide +kernel
theorem dX10_landDue_36 : decode cX10_landDue 36 = .ok (.iload_n 2, 1) := by decide +kernel
theorem dX10_landDue_37 : decode cX10_landDue 37 = .ok (.iaload, 1) := by decide +kernel
theorem dX10_landDue_38 : decode cX10_landDue 38 = .ok (.aload_n 0, 1) := by decide +kernel
theorem dX10_landDue_39 : decode cX10_landDue 39 = .ok (.getfield 57, 3) := by decide +kernel
theorem dX10_landDue_42 : decode cX10_landDue 42 = .ok (.iload_n 2, 1) := by decide +kernel
theorem dX10_landDue_43 : decode cX10_landDue 43 = .ok (.iaload, 1) := by decide +kernel
theorem dX10_landDue_44 : decode cX10_landDue 44 = .ok (.invokevirtual 157, 3) := by decide +kernel
theorem dX10_landDue_47 : decode cX10_landDue 47 = .ok (.goto 12, 3) := by decide +kernel
theorem dX10_landDue_50 : decode cX10_landDue 50 = .ok (.aload_n 0, 1) := by decide +kernel
theorem dX10_landDue_51 : decode cX10_landDue 51 = .ok (.iload_n 2, 1) := by decide +kernel
theorem dX10_landDue_52 : decode cX10_landDue 52 = .ok (.iload_n 1, 1) := by decide +kernel
theorem dX10_landDue_53 : decode cX10_landDue 53 = .ok (.invokevirtual 161, 3) := by decide +kernel
theorem dX10_landDue_56 : decode cX10_landDue 56 = .ok (.iinc 1 1, 3) := by decide +kernel
theorem dX10_landDue_59 : decode cX10_landDue 59 = .ok (.iinc 2 1, 3) := by decide +kernel
theorem dX10_landDue_62 : decode cX10_landDue 62 = .ok (.goto (-58), 3) := by decide +kernel
theorem dX10_landDue_65 : decode cX10_landDue 65 = .ok (.aload_n 0, 1) := by decide +kernel
theorem dX10_landDue_66 : decode cX10_landDue 66 = .ok (.iload_n 1, 1) := by decide +kernel
theorem dX10_landDue_67 : decode cX10_landDue 67 = .ok (.putfield 31, 3) := by decide +kernel
theorem dX10_landDue_70 : decode cX10_landDue 70 = .ok (.return_, 1) := by decide +kernel
theorem dX10_moveCargo_0 : decode cX10_moveCargo 0 = .ok (.aload_n 0, 1) := by decide +kernel
theorem dX10_moveCargo_1 : decode cX10_moveCargo 1 = .ok (.getfield 54, 3) := by decide +kernel
theorem dX10_moveCargo_4 : decode cX10_moveCargo 4 = .ok (.iload_n 2, 1) := by decide +kernel
theorem dX10_moveCargo_5 : decode cX10_moveCargo 5 = .ok (.aload_n 0, 1) := by decide +kernel
theorem dX10_moveCargo_6 : decode cX10_moveCargo 6 = .ok (.getfield 54, 3) := by decide +kernel
theorem dX10_moveCargo_9 : decode cX10_moveCargo 9 = .ok (.iload_n 1, 1) := by decide +kernel
theorem dX10_moveCargo_10 : decode cX10_moveCargo 10 = .ok (.iaload, 1) := by decide +kernel
theorem dX10_moveCargo_11 : decode cX10_moveCargo 11 = .ok (.iastore, 1) := by decide +kernel
theorem dX10_moveCargo_12 : decode cX10_moveCargo 12 = .ok (.aload_n 0, 1) := by decide +kernel
theorem dX10_moveCargo_13 : decode cX10_moveCargo 13 = .ok (.getfield 57, 3) := by decide +kernel
theorem dX10_moveCargo_16 : decode cX10_moveCargo 16 = .ok (.iload_n 2, 1) := by decide +kernel
theorem dX10_moveCargo_17 : decode cX10_moveCargo 17 = .ok (.aload_n 0, 1) := by decide +kernel
theorem dX10_moveCargo_18 : decode cX10_moveCargo 18 = .ok (.getfield 57, 3) := by decide +kernel
theorem dX10_moveCargo_21 : decode cX10_moveCargo 21 = .ok (.iload_n 1, 1) := by decide +kernel
theorem dX10_moveCargo_22 : decode cX10_moveCargo 22 = .ok (.iaload, 1) := by decide +kernel
theorem dX10_moveCargo_23 : decode cX10_moveCargo 23 = .ok (.iastore, 1) := by decide +kernel
theorem dX10_moveCargo_24 : decode cX10_moveCargo 24 = .ok (.aload_n 0, 1) := by decide +kernel
theorem dX10_moveCargo_25 : decode cX10_moveCargo 25 = .ok (.getfield 60, 3) := by decide +kernel
theorem dX10_moveCargo_28 : decode cX10_moveCargo 28 = .ok (.iload_n 2, 1) := by decide +kernel
theorem dX10_moveCargo_29 : decode cX10_moveCargo 29 = .ok (.aload_n 0, 1) := by decide +kernel
theorem dX10_moveCargo_30 : decode cX10_moveCargo 30 = .ok (.getfield 60, 3) := by decide +kernel
theorem dX10_moveCargo_33 : decode cX10_moveCargo 33 = .ok (.iload_n 1, 1) := by decide +kernel
theorem dX10_moveCargo_34 : decode cX10_moveCargo 34 = .ok (.iaload, 1) := by decide +kernel
theorem dX10_moveCargo_35 : decode cX10_moveCargo 35 = .ok (.iastore, 1) := by decide +kernel
theorem dX10_moveCargo_36 : decode cX10_moveCargo 36 = .ok (.aload_n 0, 1) := by decide +kernel
theorem dX10_moveCargo_37 : decode cX10_moveCargo 37 = .ok (.getfield 63, 3) := by decide +kernel
theorem dX10_moveCargo_40 : decode cX10_moveCargo 40 = .ok (.iload_n 2, 1) := by decide +kernel
theorem dX10_moveCargo_41 : decode cX10_moveCargo 41 = .ok (.aload_n 0, 1) := by decide +kernel
theorem dX10_moveCargo_42 : decode cX10_moveCargo 42 = .ok (.getfield 63, 3) := by decide +kernel
theorem dX10_moveCargo_45 : decode cX10_moveCargo 45 = .ok (.iload_n 1, 1) := by decide +kernel
theorem dX10_moveCargo_46 : decode cX10_moveCargo 46 = .ok (.iaload, 1) := by decide +kernel
theorem dX10_moveCargo_47 : decode cX10_moveCargo 47 = .ok (.iastore, 1) := by decide +kernel
theorem dX10_moveCargo_48 : decode cX10_moveCargo 48 = .ok (.return_, 1) := by decide +kernel
theorem dX10_draw_0 : decode cX10_draw 0 = .ok (.aload_n 0, 1) := by decide +kernel
theorem dX10_draw_1 : decode cX10_draw 1 = .ok (.aload_n 0, 1) := by decide +kernel
theorem dX10_draw_2 : decode cX10_draw 2 = .ok (.getfield 48, 3) := by decide +kernel
theorem dX10_draw_5 : decode cX10_draw 5 = .ok (.sipush 2749, 3) := by decide +kernel
theorem dX10_draw_8 : decode cX10_draw 8 = .ok (.imul, 1) := by decide +kernel
theorem dX10_draw_9 : decode cX10_draw 9 = .ok (.sipush 9733, 3) := by decide +kernel
theorem dX10_draw_12 : decode cX10_draw 12 = .ok (.iadd, 1) := by decide +kernel
theorem dX10_draw_13 : decode cX10_draw 13 = .ok (.ldc 164, 2) := by decide +kernel
theorem dX10_draw_15 : decode cX10_draw 15 = .ok (.irem, 1) := by decide +kernel
theorem dX10_draw_16 : decode cX10_draw 16 = .ok (.putfield 48, 3) := by decide +kernel
theorem dX10_draw_19 : decode cX10_draw 19 = .ok (.aload_n 0, 1) := by decide +kernel
theorem dX10_draw_20 : decode cX10_draw 20 = .ok (.getfield 48, 3) := by decide +kernel
theorem dX10_draw_23 : decode cX10_draw 23 = .ok (.bipush 8, 2) := by decide +kernel
theorem dX10_draw_25 : decode cX10_draw 25 = .ok (.idiv, 1) := by decide +kernel
theorem dX10_draw_26 : decode cX10_draw 26 = .ok (.bipush 16, 2) := by decide +kernel
theorem dX10_draw_28 : decode cX10_draw 28 = .ok (.irem, 1) := by decide +kernel
theorem dX10_draw_29 : decode cX10_draw 29 = .ok (.iload_n 1, 1) := by decide +kernel
theorem dX10_draw_30 : decode cX10_draw 30 = .ok (.if_icmp .ge 19, 3) := by decide +kernel
theorem dX10_draw_33 : decode cX10_draw 33 = .ok (.aload_n 0, 1) := by decide +kernel
theorem dX10_draw_34 : decode cX10_draw 34 = .ok (.getfield 31, 3) := by decide +kernel
theorem dX10_draw_37 : decode cX10_draw 37 = .ok (.ifCond .le 12, 3) := by decide +kernel
theorem dX10_draw_40 : decode cX10_draw 40 = .ok (.aload_n 0, 1) := by decide +kernel
theorem dX10_draw_41 : decode cX10_draw 41 = .ok (.getfield 31, 3) := by decide +kernel
theorem dX10_draw_44 : decode cX10_draw 44 = .ok (.bipush 20, 2) := by decide +kernel
theorem dX10_draw_46 : decode cX10_draw 46 = .ok (.if_icmp .le 4, 3) := by decide +kernel
theorem dX10_draw_49 : decode cX10_draw 49 = .ok (.return_, 1) := by decide +kernel
theorem dX10_draw_50 : decode cX10_draw 50 = .ok (.aload_n 0, 1) := by decide +kernel
theorem dX10_draw_51 : decode cX10_draw 51 = .ok (.getfield 63, 3) := by decide +kernel
theorem dX10_draw_54 : decode cX10_draw 54 = .ok (.aload_n 0, 1) := by decide +kernel
theorem dX10_draw_55 : decode cX10_draw 55 = .ok (.getfield 31, 3) := by decide +kernel
theorem dX10_draw_58 : decode cX10_draw 58 = .ok (.iconst 1, 1) := by decide +kernel
theorem dX10_draw_59 : decode cX10_draw 59 = .ok (.isub, 1) := by decide +kernel
theorem dX10_draw_60 : decode cX10_draw 60 = .ok (.iaload, 1) := by decide +kernel
theorem dX10_draw_61 : decode cX10_draw 61 = .ok (.istore_n 2, 1) := by decide +kernel
theorem dX10_draw_62 : decode cX10_draw 62 = .ok (.bipush 20, 2) := by decide +kernel
theorem dX10_draw_64 : decode cX10_draw 64 = .ok (.istore_n 3, 1) := by decide +kernel
theorem dX10_draw_65 : decode cX10_draw 65 = .ok (.iload_n 3, 1) := by decide +kernel
theorem dX10_draw_66 : decode cX10_draw 66 = .ok (.ifCond .le 51, 3) := by decide +kernel
theorem dX10_draw_69 : decode cX10_draw 69 = .ok (.aload_n 0, 1) := by decide +kernel
theorem dX10_draw_70 : decode cX10_draw 70 = .ok (.getfield 31, 3) := by decide +kernel
theorem dX10_draw_73 : decode cX10_draw 73 = .ok (.ifCond .le 44, 3) := by decide +kernel
theorem dX10_draw_76 : decode cX10_draw 76 = .ok (.aload_n 0, 1) := by decide +kernel
theorem dX10_draw_77 : decode cX10_draw 77 = .ok (.getfield 63, 3) := by decide +kernel
theorem dX10_draw_80 : decode cX10_draw 80 = .ok (.aload_n 0, 1) := by decide +kernel
theorem dX10_draw_81 : decode cX10_draw 81 = .ok (.getfield 31, 3) := by decide +kernel
theorem dX10_draw_84 : decode cX10_draw 84 = .ok (.iconst 1, 1) := by decide +kernel
theorem dX10_draw_85 : decode cX10_draw 85 = .ok (.isub, 1) := by decide +kernel
theorem dX10_draw_86 : decode cX10_draw 86 = .ok (.iaload, 1) := by decide +kernel
theorem dX10_draw_87 : decode cX10_draw 87 = .ok (.iload_n 2, 1) := by decide +kernel
theorem dX10_draw_88 : decode cX10_draw 88 = .ok (.if_icmp .ne 29, 3) := by decide +kernel
theorem dX10_draw_91 : decode cX10_draw 91 = .ok (.aload_n 0, 1) := by decide +kernel
theorem dX10_draw_92 : decode cX10_draw 92 = .ok (.dup, 1) := by decide +kernel
theorem dX10_draw_93 : decode cX10_draw 93 = .ok (.getfield 31, 3) := by decide +kernel
theorem dX10_draw_96 : decode cX10_draw 96 = .ok (.iconst 1, 1) := by decide +kernel
theorem dX10_draw_97 : decode cX10_draw 97 = .ok (.isub, 1) := by decide +kernel
theorem dX10_draw_98 : decode cX10_draw 98 = .ok (.putfield 31, 3) := by decide +kernel
theorem dX10_draw_101 : decode cX10_draw 101 = .ok (.aload_n 0, 1) := by decide +kernel
theorem dX10_draw_102 : decode cX10_draw 102 = .ok (.dup, 1) := by decide +kernel
theorem dX10_draw_103 : decode cX10_draw 103 = .ok (.getfield 28, 3) := by decide +kernel
theorem dX10_draw_106 : decode cX10_draw 106 = .ok (.iconst 1, 1) := by decide +kernel
theorem dX10_draw_107 : decode cX10_draw 107 = .ok (.iadd, 1) := by decide +kernel
theorem dX10_draw_108 : decode cX10_draw 108 = .ok (.putfield 28, 3) := by decide +kernel
theorem dX10_draw_111 : decode cX10_draw 111 = .ok (.iinc 3 (-1), 3) := by decide +kernel
theorem dX10_draw_114 : decode cX10_draw 114 = .ok (.goto (-49), 3) := by decide +kernel
theorem dX10_draw_117 : decode cX10_draw 117 = .ok (.return_, 1) := by decide +kernel
theorem dX11_init_0 : decode cX11_init 0 = .ok (.aload_n 0, 1) := by decide +kernel
theorem dX11_init_1 : decode cX11_init 1 = .ok (.invokespecial 1, 3) := by decide +kernel
theorem dX11_init_4 : decode cX11_init 4 = .ok (.aload_n 0, 1) := by decide +kernel
theorem dX11_init_5 : decode cX11_init 5 = .ok (.iconst 4, 1) := by decide +kernel
theorem dX11_init_6 : decode cX11_init 6 = .ok (.anewarray 9, 3) := by decide +kernel
theorem dX11_init_9 : decode cX11_init 9 = .ok (.putfield 11, 3) := by decide +kernel
theorem dX11_init_12 : decode cX11_init 12 = .ok (.aload_n 0, 1) := by decide +kernel
theorem dX11_init_13 : decode cX11_init 13 = .ok (.new 15, 3) := by decide +kernel
theorem dX11_init_16 : decode cX11_init 16 = .ok (.dup, 1) := by decide +kernel
theorem dX11_init_17 : decode cX11_init 17 = .ok (.invokespecial 17, 3) := by decide +kernel
theorem dX11_init_20 : decode cX11_init 20 = .ok (.putfield 18, 3) := by decide +kernel
theorem dX11_init_23 : decode cX11_init 23 = .ok (.aload_n 0, 1) := by decide +kernel
theorem dX11_init_24 : decode cX11_init 24 = .ok (.new 22, 3) := by decide +kernel
theorem dX11_init_27 : decode cX11_init 27 = .ok (.dup, 1) := by decide +kernel
theorem dX11_init_28 : decode cX11_init 28 = .ok (.invokespecial 24, 3) := by decide +kernel
theorem dX11_init_31 : decode cX11_init 31 = .ok (.putfield 25, 3) := by decide +kernel
theorem dX11_init_34 : decode cX11_init 34 = .ok (.aload_n 0, 1) := by decide +kernel
theorem dX11_init_35 : decode cX11_init 35 = .ok (.iconst 3, 1) := by decide +kernel
theorem dX11_init_36 : decode cX11_init 36 = .ok (.anewarray 22, 3) := by decide +kernel
theorem dX11_init_39 : decode cX11_init 39 = .ok (.putfield 29, 3) := by decide +kernel
theorem dX11_init_42 : decode cX11_init 42 = .ok (.aload_n 0, 1) := by decide +kernel
theorem dX11_init_43 : decode cX11_init 43 = .ok (.new 33, 3) := by decide +kernel
theorem dX11_init_46 : decode cX11_init 46 = .ok (.dup, 1) := by decide +kernel
theorem dX11_init_47 : decode cX11_init 47 = .ok (.invokespecial 35, 3) := by decide +kernel
theorem dX11_init_50 : decode cX11_init 50 = .ok (.putfield 36, 3) := by decide +kernel
theorem dX11_init_53 : decode cX11_init 53 = .ok (.aload_n 0, 1) := by decide +kernel
theorem dX11_init_54 : decode cX11_init 54 = .ok (.new 33, 3) := by decide +kernel
theorem dX11_init_57 : decode cX11_init 57 = .ok (.dup, 1) := by decide +kernel
theorem dX11_init_58 : decode cX11_init 58 = .ok (.invokespecial 35, 3) := by decide +kernel
theorem dX11_init_61 : decode cX11_init 61 = .ok (.putfield 40, 3) := by decide +kernel
theorem dX11_init_64 : decode cX11_init 64 = .ok (.aload_n 0, 1) := by decide +kernel
theorem dX11_init_65 : decode cX11_init 65 = .ok (.new 43, 3) := by decide +kernel
theorem dX11_init_68 : decode cX11_init 68 = .ok (.dup, 1) := by decide +kernel
theorem dX11_init_69 : decode cX11_init 69 = .ok (.invokespecial 45, 3) := by decide +kernel
theorem dX11_init_72 : decode cX11_init 72 = .ok (.putfield 46, 3) := by decide +kernel
theorem dX11_init_75 : decode cX11_init 75 = .ok (.aload_n 0, 1) := by decide +kernel
theorem dX11_init_76 : decode cX11_init 76 = .ok (.new 50, 3) := by decide +kernel
theorem dX11_init_79 : decode cX11_init 79 = .ok (.dup, 1) := by decide +kernel
theorem dX11_init_80 : decode cX11_init 80 = .ok (.invokespecial 52, 3) := by decide +kernel
theorem dX11_init_83 : decode cX11_init 83 = .ok (.putfield 53, 3) := by decide +kernel
theorem dX11_init_86 : decode cX11_init 86 = .ok (.aload_n 0, 1) := by decide +kernel
theorem dX11_init_87 : decode cX11_init 87 = .ok (.iconst 5, 1) := by decide +kernel
theorem dX11_init_88 : decode cX11_init 88 = .ok (.newarray .int, 2) := by decide +kernel
theorem dX11_init_90 : decode cX11_init 90 = .ok (.putfield 57, 3) := by decide +kernel
theorem dX11_init_93 : decode cX11_init 93 = .ok (.aload_n 0, 1) := by decide +kernel
theorem dX11_init_94 : decode cX11_init 94 = .ok (.iconst 0, 1) := by decide +kernel
theorem dX11_init_95 : decode cX11_init 95 = .ok (.putfield 61, 3) := by decide +kernel
theorem dX11_init_98 : decode cX11_init 98 = .ok (.aload_n 0, 1) := by decide +kernel
theorem dX11_init_99 : decode cX11_init 99 = .ok (.iconst 0, 1) := by decide +kernel
theorem dX11_init_100 : decode cX11_init 100 = .ok (.putfield 65, 3) := by decide +kernel
theorem dX11_init_103 : decode cX11_init 103 = .ok (.aload_n 0, 1) := by decide +kernel
theorem dX11_init_104 : decode cX11_init 104 = .ok (.iconst 0, 1) := by decide +kernel
theorem dX11_init_105 : decode cX11_init 105 = .ok (.putfield 69, 3) := by decide +kernel
theorem dX11_init_108 : decode cX11_init 108 = .ok (.aload_n 0, 1) := by decide +kernel
theorem dX11_init_109 : decode cX11_init 109 = .ok (.lconst 0, 1) := by decide +kernel
theorem dX11_init_110 : decode cX11_init 110 = .ok (.putfield 72, 3) := by decide +kernel
theorem dX11_init_113 : decode cX11_init 113 = .ok (.aload_n 0, 1) := by decide +kernel
theorem dX11_init_114 : decode cX11_init 114 = .ok (.lconst 1, 1) := by decide +kernel
theorem dX11_init_115 : decode cX11_init 115 = .ok (.putfield 76, 3) := by decide +kernel
theorem dX11_init_118 : decode cX11_init 118 = .ok (.iconst 0, 1) := by decide +kernel
theorem dX11_init_119 : decode cX11_init 119 = .ok (.istore_n 1, 1) := by decide +kernel
theorem dX11_init_120 : decode cX11_init 120 = .ok (.iload_n 1, 1) := by decide +kernel
theorem dX11_init_121 : decode cX11_init 121 = .ok (.iconst 4, 1) := by decide +kernel
theorem dX11_init_122 : decode cX11_init 122 = .ok (.if_icmp .ge 22, 3) := by decide +kernel
theorem dX11_init_125 : decode cX11_init 125 = .ok (.aload_n 0, 1) := by decide +kernel
theorem dX11_init_126 : decode cX11_init 126 = .ok (.getfield 11, 3) := by decide +kernel
theorem dX11_init_129 : decode cX11_init 129 = .ok (.iload_n 1, 1) := by decide +kernel
theorem dX11_init_130 : decode cX11_init 130 = .ok (.new 9, 3) := by decide +kernel
theorem dX11_init_133 : decode cX11_init 133 = .ok (.dup, 1) := by decide +kernel
theorem dX11_init_134 : decode cX11_init 134 = .ok (.invokespecial 79, 3) := by decide +kernel
theorem dX11_init_137 : decode cX11_init 137 = .ok (.aastore, 1) := by decide +kernel
theorem dX11_init_138 : decode cX11_init 138 = .ok (.iinc 1 1, 3) := by decide +kernel
theorem dX11_init_141 : decode cX11_init 141 = .ok (.goto (-21), 3) := by decide +kernel
theorem dX11_init_144 : decode cX11_init 144 = .ok (.iconst 0, 1) := by decide +kernel
theorem dX11_init_145 : decode cX11_init 145 = .ok (.istore_n 1, 1) := by decide +kernel
theorem dX11_init_146 : decode cX11_init 146 = .ok (.iload_n 1, 1) := by decide +kernel
theorem dX11_init_147 : decode cX11_init 147 = .ok (.iconst 3, 1) := by decide +kernel
theorem dX11_init_148 : decode cX11_init 148 = .ok (.if_icmp .ge 22, 3) := by decide +kernel
theorem dX11_init_151 : decode cX11_init 151 = .ok (.aload_n 0, 1) := by decide +kernel
theorem dX11_init_152 : decode cX11_init 152 = .ok (.getfield 29, 3) := by decide +kernel
theorem dX11_init_155 : decode cX11_init 155 = .ok (.iload_n 1, 1) := by decide +kernel
theorem dX11_init_156 : decode cX11_init 156 = .ok (.new 22, 3) := by decide +kernel
theorem dX11_init_159 : decode cX11_init 159 = .ok (.dup, 1) := by decide +kernel
theorem dX11_init_160 : decode cX11_init 160 = .ok (.invokespecial 24, 3) := by decide +kernel
theorem dX11_init_163 : decode cX11_init 163 = .ok (.aastore, 1) := by decide +kernel
theorem dX11_init_164 : decode cX11_init 164 = .ok (.iinc 1 1, 3) := by decide +kernel
theorem dX11_init_167 : decode cX11_init 167 = .ok (.goto (-21), 3) := by decide +kernel
theorem dX11_init_170 : decode cX11_init 170 = .ok (.return_, 1) := by decide +kernel
theorem dX11_status_0 : decode cX11_status 0 = .ok (.aload_n 0, 1) := by decide +kernel
theorem dX11_status_1 : decode cX11_status 1 = .ok (.getfield 69, 3) := by decide +kernel
theorem dX11_status_4 : decode cX11_status 4 = .ok (.ireturn, 1) := by decide +kernel
theorem dX11_top_0 : decode cX11_top 0 = .ok (.aload_n 0, 1) := by decide +kernel
theorem dX11_top_1 : decode cX11_top 1 = .ok (.getfield 72, 3) := by decide +kernel
theorem dX11_top_4 : decode cX11_top 4 = .ok (.lreturn, 1) := by decide +kernel
theorem dX11_bottom_0 : decode cX11_bottom 0 = .ok (.aload_n 0, 1) := by decide +kernel
theorem dX11_bottom_1 : decode cX11_bottom 1 = .ok (.getfield 76, 3) := by decide +kernel
theorem dX11_bottom_4 : decode cX11_bottom 4 = .ok (.lreturn, 1) := by decide +kernel
theorem dX11_tell_0 : decode cX11_tell 0 = .ok (.aload_n 0, 1) := by decide +kernel
theorem dX11_tell_1 : decode cX11_tell 1 = .ok (.iconst 0, 1) := by decide +kernel
theorem dX11_tell_2 : decode cX11_tell 2 = .ok (.putfield 69, 3) := by decide +kernel
theorem dX11_tell_5 : decode cX11_tell 5 = .ok (.iload_n 1, 1) := by decide +kernel
theorem dX11_tell_6 : decode cX11_tell 6 = .ok (.ireturn, 1) := by decide +kernel
theorem dX11_tellLong_0 : decode cX11_tellLong 0 = .ok (.aload_n 0, 1) := by decide +kernel
theorem dX11_tellLong_1 : decode cX11_tellLong 1 = .ok (.iconst 0, 1) := by decide +kernel
theorem dX11_tellLong_2 : decode cX11_tellLong 2 = .ok (.putfield 69, 3) := by decide +kernel
theorem dX11_tellLong_5 : decode cX11_tellLong 5 = .ok (.lload_n 1, 1) := by decide +kernel
theorem dX11_tellLong_6 : decode cX11_tellLong 6 = .ok (.lreturn, 1) := by decide +kernel
theorem dX11_refuse_0 : decode cX11_refuse 0 = .ok (.aload_n 0, 1) := by decide +kernel
theorem dX11_refuse_1 : decode cX11_refuse 1 = .ok (.iload_n 1, 1) := by decide +kernel
theorem dX11_refuse_2 : decode cX11_refuse 2 = .ok (.putfield 69, 3) := by decide +kernel
theorem dX11_refuse_5 : decode cX11_refuse 5 = .ok (.iconst (-1), 1) := by decide +kernel
theorem dX11_refuse_6 : decode cX11_refuse 6 = .ok (.ireturn, 1) := by decide +kernel
theorem dX11_grant_0 : decode cX11_grant 0 = .ok (.aload_n 0, 1) := by decide +kernel
theorem dX11_grant_1 : decode cX11_grant 1 = .ok (.iconst 0, 1) := by decide +kernel
theorem dX11_grant_2 : decode cX11_grant 2 = .ok (.putfield 69, 3) := by decide +kernel
theorem dX11_grant_5 : decode cX11_grant 5 = .ok (.iconst 1, 1) := by decide +kernel
theorem dX11_grant_6 : decode cX11_grant 6 = .ok (.ireturn, 1) := by decide +kernel
theorem dX11_deny_0 : decode cX11_deny 0 = .ok (.aload_n 0, 1) := by decide +kernel
theorem dX11_deny_1 : decode cX11_deny 1 = .ok (.iload_n 1, 1) := by decide +kernel
theorem dX11_deny_2 : decode cX11_deny 2 = .ok (.putfield 69, 3) := by decide +kernel
theorem dX11_deny_5 : decode cX11_deny 5 = .ok (.iconst 0, 1) := by decide +kernel
theorem dX11_deny_6 : decode cX11_deny 6 = .ok (.ireturn, 1) := by decide +kernel
theorem dX11_isTray_0 : decode cX11_isTray 0 = .ok (.iload_n 0, 1) := by decide +kernel
theorem dX11_isTray_1 : decode cX11_isTray 1 = .ok (.ifCond .lt 12, 3) := by decide +kernel
theorem dX11_isTray_4 : decode cX11_isTray 4 = .ok (.iload_n 0, 1) := by decide +kernel
theorem dX11_isTray_5 : decode cX11_isTray 5 = .ok (.iconst 4, 1) := by decide +kernel
theorem dX11_isTray_6 : decode cX11_isTray 6 = .ok (.if_icmp .ge 7, 3) := by decide +kernel
theorem dX11_isTray_9 : decode cX11_isTray 9 = .ok (.iconst 1, 1) := by decide +kernel
theorem dX11_isTray_10 : decode cX11_isTray 10 = .ok (.goto 4, 3) := by decide +kernel
theorem dX11_isTray_13 : decode cX11_isTray 13 = .ok (.iconst 0, 1) := by decide +kernel
theorem dX11_isTray_14 : decode cX11_isTray 14 = .ok (.ireturn, 1) := by decide +kernel
theorem dX11_faultOfPlace_0 : decode cX11_faultOfPlace 0 = .ok (.iload_n 1, 1) := by decide +kernel
theorem dX11_faultOfPlace_1 : decode cX11_faultOfPlace 1 = .ok (.invokestatic 80, 3) := by decide +kernel
