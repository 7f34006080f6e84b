theorem dX11_faultOfPlace_4 : decode cX11_faultOfPlace 4 = .ok (.ifCond .ne 5, 3) := by decide +kernel
theorem dX11_faultOfPlace_7 : decode cX11_faultOfPlace 7 = .ok (.iconst 1, 1) := by decide +kernel
theorem dX11_faultOfPlace_8 : decode cX11_faultOfPlace 8 = .ok (.ireturn, 1) := by decide +kernel
theorem dX11_faultOfPlace_9 : decode cX11_faultOfPlace 9 = .ok (.aload_n 0, 1) := by decide +kernel
theorem dX11_faultOfPlace_10 : decode cX11_faultOfPlace 10 = .ok (.getfield 11, 3) := by decide +kernel
theorem dX11_faultOfPlace_13 : decode cX11_faultOfPlace 13 = .ok (.iload_n 1, 1) := by decide +kernel
theorem dX11_faultOfPlace_14 : decode cX11_faultOfPlace 14 = .ok (.aaload, 1) := by decide +kernel
theorem dX11_faultOfPlace_15 : decode cX11_faultOfPlace 15 = .ok (.invokevirtual 84, 3) := by decide +kernel
theorem dX11_faultOfPlace_18 : decode cX11_faultOfPlace 18 = .ok (.ifCond .eq 5, 3) := by decide +kernel
theorem dX11_faultOfPlace_21 : decode cX11_faultOfPlace 21 = .ok (.iconst 3, 1) := by decide +kernel
theorem dX11_faultOfPlace_22 : decode cX11_faultOfPlace 22 = .ok (.ireturn, 1) := by decide +kernel
theorem dX11_faultOfPlace_23 : decode cX11_faultOfPlace 23 = .ok (.aload_n 0, 1) := by decide +kernel
theorem dX11_faultOfPlace_24 : decode cX11_faultOfPlace 24 = .ok (.getfield 11, 3) := by decide +kernel
theorem dX11_faultOfPlace_27 : decode cX11_faultOfPlace 27 = .ok (.iload_n 1, 1) := by decide +kernel
theorem dX11_faultOfPlace_28 : decode cX11_faultOfPlace 28 = .ok (.aaload, 1) := by decide +kernel
theorem dX11_faultOfPlace_29 : decode cX11_faultOfPlace 29 = .ok (.iload_n 2, 1) := by decide +kernel
theorem dX11_faultOfPlace_30 : decode cX11_faultOfPlace 30 = .ok (.iconst 1, 1) := by decide +kernel
theorem dX11_faultOfPlace_31 : decode cX11_faultOfPlace 31 = .ok (.invokevirtual 88, 3) := by decide +kernel
theorem dX11_faultOfPlace_34 : decode cX11_faultOfPlace 34 = .ok (.ifCond .eq 7, 3) := by decide +kernel
theorem dX11_faultOfPlace_37 : decode cX11_faultOfPlace 37 = .ok (.iconst 0, 1) := by decide +kernel
theorem dX11_faultOfPlace_38 : decode cX11_faultOfPlace 38 = .ok (.goto 4, 3) := by decide +kernel
theorem dX11_faultOfPlace_41 : decode cX11_faultOfPlace 41 = .ok (.iconst 4, 1) := by decide +kernel
theorem dX11_faultOfPlace_42 : decode cX11_faultOfPlace 42 = .ok (.ireturn, 1) := by decide +kernel
theorem dX11_tray_0 : decode cX11_tray 0 = .ok (.iload_n 1, 1) := by decide +kernel
theorem dX11_tray_1 : decode cX11_tray 1 = .ok (.invokestatic 80, 3) := by decide +kernel
theorem dX11_tray_4 : decode cX11_tray 4 = .ok (.ifCond .eq 10, 3) := by decide +kernel
theorem dX11_tray_7 : decode cX11_tray 7 = .ok (.iload_n 2, 1) := by decide +kernel
theorem dX11_tray_8 : decode cX11_tray 8 = .ok (.invokestatic 92, 3) := by decide +kernel
theorem dX11_tray_11 : decode cX11_tray 11 = .ok (.ifCond .ne 9, 3) := by decide +kernel
theorem dX11_tray_14 : decode cX11_tray 14 = .ok (.aload_n 0, 1) := by decide +kernel
theorem dX11_tray_15 : decode cX11_tray 15 = .ok (.iconst 1, 1) := by decide +kernel
theorem dX11_tray_16 : decode cX11_tray 16 = .ok (.invokevirtual 95, 3) := by decide +kernel
theorem dX11_tray_19 : decode cX11_tray 19 = .ok (.ireturn, 1) := by decide +kernel
theorem dX11_tray_20 : decode cX11_tray 20 = .ok (.iload_n 3, 1) := by decide +kernel
theorem dX11_tray_21 : decode cX11_tray 21 = .ok (.bipush 60, 2) := by decide +kernel
theorem dX11_tray_23 : decode cX11_tray 23 = .ok (.if_icmp .le 9, 3) := by decide +kernel
theorem dX11_tray_26 : decode cX11_tray 26 = .ok (.aload_n 0, 1) := by decide +kernel
theorem dX11_tray_27 : decode cX11_tray 27 = .ok (.iconst 5, 1) := by decide +kernel
theorem dX11_tray_28 : decode cX11_tray 28 = .ok (.invokevirtual 95, 3) := by decide +kernel
theorem dX11_tray_31 : decode cX11_tray 31 = .ok (.ireturn, 1) := by decide +kernel
theorem dX11_tray_32 : decode cX11_tray 32 = .ok (.iload_n 3, 1) := by decide +kernel
theorem dX11_tray_33 : decode cX11_tray 33 = .ok (.ifCond .ge 10, 3) := by decide +kernel
theorem dX11_tray_36 : decode cX11_tray 36 = .ok (.aload_n 0, 1) := by decide +kernel
theorem dX11_tray_37 : decode cX11_tray 37 = .ok (.bipush 6, 2) := by decide +kernel
theorem dX11_tray_39 : decode cX11_tray 39 = .ok (.invokevirtual 95, 3) := by decide +kernel
theorem dX11_tray_42 : decode cX11_tray 42 = .ok (.ireturn, 1) := by decide +kernel
theorem dX11_tray_43 : decode cX11_tray 43 = .ok (.aload_n 0, 1) := by decide +kernel
theorem dX11_tray_44 : decode cX11_tray 44 = .ok (.getfield 11, 3) := by decide +kernel
theorem dX11_tray_47 : decode cX11_tray 47 = .ok (.iload_n 1, 1) := by decide +kernel
theorem dX11_tray_48 : decode cX11_tray 48 = .ok (.aaload, 1) := by decide +kernel
theorem dX11_tray_49 : decode cX11_tray 49 = .ok (.iload_n 2, 1) := by decide +kernel
theorem dX11_tray_50 : decode cX11_tray 50 = .ok (.iload_n 3, 1) := by decide +kernel
theorem dX11_tray_51 : decode cX11_tray 51 = .ok (.invokevirtual 98, 3) := by decide +kernel
theorem dX11_tray_54 : decode cX11_tray 54 = .ok (.aload_n 0, 1) := by decide +kernel
theorem dX11_tray_55 : decode cX11_tray 55 = .ok (.invokevirtual 102, 3) := by decide +kernel
theorem dX11_tray_58 : decode cX11_tray 58 = .ok (.ireturn, 1) := by decide +kernel
theorem dX11_write_0 : decode cX11_write 0 = .ok (.aload_n 0, 1) := by decide +kernel
theorem dX11_write_1 : decode cX11_write 1 = .ok (.iload_n 1, 1) := by decide +kernel
theorem dX11_write_2 : decode cX11_write 2 = .ok (.iload_n 2, 1) := by decide +kernel
theorem dX11_write_3 : decode cX11_write 3 = .ok (.invokevirtual 105, 3) := by decide +kernel
theorem dX11_write_6 : decode cX11_write 6 = .ok (.istore 5, 2) := by decide +kernel
theorem dX11_write_8 : decode cX11_write 8 = .ok (.iload 5, 2) := by decide +kernel
theorem dX11_write_10 : decode cX11_write 10 = .ok (.ifCond .eq 10, 3) := by decide +kernel
theorem dX11_write_13 : decode cX11_write 13 = .ok (.aload_n 0, 1) := by decide +kernel
theorem dX11_write_14 : decode cX11_write 14 = .ok (.iload 5, 2) := by decide +kernel
theorem dX11_write_16 : decode cX11_write 16 = .ok (.invokevirtual 95, 3) := by decide +kernel
theorem dX11_write_19 : decode cX11_write 19 = .ok (.ireturn, 1) := by decide +kernel
theorem dX11_write_20 : decode cX11_write 20 = .ok (.aload_n 0, 1) := by decide +kernel
theorem dX11_write_21 : decode cX11_write 21 = .ok (.getfield 11, 3) := by decide +kernel
theorem dX11_write_24 : decode cX11_write 24 = .ok (.iload_n 1, 1) := by decide +kernel
theorem dX11_write_25 : decode cX11_write 25 = .ok (.aaload, 1) := by decide +kernel
theorem dX11_write_26 : decode cX11_write 26 = .ok (.iload_n 2, 1) := by decide +kernel
theorem dX11_write_27 : decode cX11_write 27 = .ok (.lload_n 3, 1) := by decide +kernel
theorem dX11_write_28 : decode cX11_write 28 = .ok (.invokevirtual 109, 3) := by decide +kernel
theorem dX11_write_31 : decode cX11_write 31 = .ok (.aload_n 0, 1) := by decide +kernel
theorem dX11_write_32 : decode cX11_write 32 = .ok (.invokevirtual 102, 3) := by decide +kernel
theorem dX11_write_35 : decode cX11_write 35 = .ok (.ireturn, 1) := by decide +kernel
theorem dX11_read_0 : decode cX11_read 0 = .ok (.aload_n 0, 1) := by decide +kernel
theorem dX11_read_1 : decode cX11_read 1 = .ok (.iload_n 1, 1) := by decide +kernel
theorem dX11_read_2 : decode cX11_read 2 = .ok (.iload_n 2, 1) := by decide +kernel
theorem dX11_read_3 : decode cX11_read 3 = .ok (.invokevirtual 105, 3) := by decide +kernel
theorem dX11_read_6 : decode cX11_read 6 = .ok (.istore_n 3, 1) := by decide +kernel
theorem dX11_read_7 : decode cX11_read 7 = .ok (.iload_n 3, 1) := by decide +kernel
theorem dX11_read_8 : decode cX11_read 8 = .ok (.ifCond .eq 10, 3) := by decide +kernel
theorem dX11_read_11 : decode cX11_read 11 = .ok (.aload_n 0, 1) := by decide +kernel
theorem dX11_read_12 : decode cX11_read 12 = .ok (.iload_n 3, 1) := by decide +kernel
theorem dX11_read_13 : decode cX11_read 13 = .ok (.invokevirtual 113, 3) := by decide +kernel
theorem dX11_read_16 : decode cX11_read 16 = .ok (.i2l, 1) := by decide +kernel
theorem dX11_read_17 : decode cX11_read 17 = .ok (.lreturn, 1) := by decide +kernel
theorem dX11_read_18 : decode cX11_read 18 = .ok (.aload_n 0, 1) := by decide +kernel
theorem dX11_read_19 : decode cX11_read 19 = .ok (.aload_n 0, 1) := by decide +kernel
theorem dX11_read_20 : decode cX11_read 20 = .ok (.getfield 11, 3) := by decide +kernel
theorem dX11_read_23 : decode cX11_read 23 = .ok (.iload_n 1, 1) := by decide +kernel
theorem dX11_read_24 : decode cX11_read 24 = .ok (.aaload, 1) := by decide +kernel
theorem dX11_read_25 : decode cX11_read 25 = .ok (.iload_n 2, 1) := by decide +kernel
theorem dX11_read_26 : decode cX11_read 26 = .ok (.invokevirtual 117, 3) := by decide +kernel
theorem dX11_read_29 : decode cX11_read 29 = .ok (.invokevirtual 121, 3) := by decide +kernel
theorem dX11_read_32 : decode cX11_read 32 = .ok (.lreturn, 1) := by decide +kernel
theorem dX11_pour_0 : decode cX11_pour 0 = .ok (.iload_n 1, 1) := by decide +kernel
theorem dX11_pour_1 : decode cX11_pour 1 = .ok (.invokestatic 80, 3) := by decide +kernel
theorem dX11_pour_4 : decode cX11_pour 4 = .ok (.ifCond .eq 10, 3) := by decide +kernel
theorem dX11_pour_7 : decode cX11_pour 7 = .ok (.iload_n 3, 1) := by decide +kernel
theorem dX11_pour_8 : decode cX11_pour 8 = .ok (.invokestatic 80, 3) := by decide +kernel
theorem dX11_pour_11 : decode cX11_pour 11 = .ok (.ifCond .ne 9, 3) := by decide +kernel
theorem dX11_pour_14 : decode cX11_pour 14 = .ok (.aload_n 0, 1) := by decide +kernel
theorem dX11_pour_15 : decode cX11_pour 15 = .ok (.iconst 1, 1) := by decide +kernel
theorem dX11_pour_16 : decode cX11_pour 16 = .ok (.invokevirtual 95, 3) := by decide +kernel
theorem dX11_pour_19 : decode cX11_pour 19 = .ok (.ireturn, 1) := by decide +kernel
theorem dX11_pour_20 : decode cX11_pour 20 = .ok (.aload_n 0, 1) := by decide +kernel
theorem dX11_pour_21 : decode cX11_pour 21 = .ok (.getfield 11, 3) := by decide +kernel
theorem dX11_pour_24 : decode cX11_pour 24 = .ok (.iload_n 1, 1) := by decide +kernel
theorem dX11_pour_25 : decode cX11_pour 25 = .ok (.aaload, 1) := by decide +kernel
theorem dX11_pour_26 : decode cX11_pour 26 = .ok (.astore 6, 2) := by decide +kernel
theorem dX11_pour_28 : decode cX11_pour 28 = .ok (.aload_n 0, 1) := by decide +kernel
theorem dX11_pour_29 : decode cX11_pour 29 = .ok (.getfield 11, 3) := by decide +kernel
theorem dX11_pour_32 : decode cX11_pour 32 = .ok (.iload_n 3, 1) := by decide +kernel
theorem dX11_pour_33 : decode cX11_pour 33 = .ok (.aaload, 1) := by decide +kernel
theorem dX11_pour_34 : decode cX11_pour 34 = .ok (.astore 7, 2) := by decide +kernel
theorem dX11_pour_36 : decode cX11_pour 36 = .ok (.aload 6, 2) := by decide +kernel
theorem dX11_pour_38 : decode cX11_pour 38 = .ok (.invokevirtual 84, 3) := by decide +kernel
theorem dX11_pour_41 : decode cX11_pour 41 = .ok (.ifCond .ne 11, 3) := by decide +kernel
theorem dX11_pour_44 : decode cX11_pour 44 = .ok (.aload 7, 2) := by decide +kernel
theorem dX11_pour_46 : decode cX11_pour 46 = .ok (.invokevirtual 84, 3) := by decide +kernel
theorem dX11_pour_49 : decode cX11_pour 49 = .ok (.ifCond .eq 9, 3) := by decide +kernel
theorem dX11_pour_52 : decode cX11_pour 52 = .ok (.aload_n 0, 1) := by decide +kernel
theorem dX11_pour_53 : decode cX11_pour 53 = .ok (.iconst 3, 1) := by decide +kernel
theorem dX11_pour_54 : decode cX11_pour 54 = .ok (.invokevirtual 95, 3) := by decide +kernel
theorem dX11_pour_57 : decode cX11_pour 57 = .ok (.ireturn, 1) := by decide +kernel
theorem dX11_pour_58 : decode cX11_pour 58 = .ok (.aload 6, 2) := by decide +kernel
theorem dX11_pour_60 : decode cX11_pour 60 = .ok (.getfield 125, 3) := by decide +kernel
theorem dX11_pour_63 : decode cX11_pour 63 = .ok (.aload 7, 2) := by decide +kernel
theorem dX11_pour_65 : decode cX11_pour 65 = .ok (.getfield 125, 3) := by decide +kernel
theorem dX11_pour_68 : decode cX11_pour 68 = .ok (.if_icmp .eq 10, 3) := by decide +kernel
theorem dX11_pour_71 : decode cX11_pour 71 = .ok (.aload_n 0, 1) := by decide +kernel
theorem dX11_pour_72 : decode cX11_pour 72 = .ok (.bipush 11, 2) := by decide +kernel
theorem dX11_pour_74 : decode cX11_pour 74 = .ok (.invokevirtual 95, 3) := by decide +kernel
theorem dX11_pour_77 : decode cX11_pour 77 = .ok (.ireturn, 1) := by decide +kernel
theorem dX11_pour_78 : decode cX11_pour 78 = .ok (.iload 5, 2) := by decide +kernel
theorem dX11_pour_80 : decode cX11_pour 80 = .ok (.ifCond .ge 10, 3) := by decide +kernel
theorem dX11_pour_83 : decode cX11_pour 83 = .ok (.aload_n 0, 1) := by decide +kernel
theorem dX11_pour_84 : decode cX11_pour 84 = .ok (.bipush 6, 2) := by decide +kernel
theorem dX11_pour_86 : decode cX11_pour 86 = .ok (.invokevirtual 95, 3) := by decide +kernel
theorem dX11_pour_89 : decode cX11_pour 89 = .ok (.ireturn, 1) := by decide +kernel
theorem dX11_pour_90 : decode cX11_pour 90 = .ok (.aload 6, 2) := by decide +kernel
theorem dX11_pour_92 : decode cX11_pour 92 = .ok (.iload_n 2, 1) := by decide +kernel
theorem dX11_pour_93 : decode cX11_pour 93 = .ok (.iload 5, 2) := by decide +kernel
theorem dX11_pour_95 : decode cX11_pour 95 = .ok (.invokevirtual 88, 3) := by decide +kernel
theorem dX11_pour_98 : decode cX11_pour 98 = .ok (.ifCond .eq 15, 3) := by decide +kernel
theorem dX11_pour_101 : decode cX11_pour 101 = .ok (.aload 7, 2) := by decide +kernel
theorem dX11_pour_103 : decode cX11_pour 103 = .ok (.iload 4, 2) := by decide +kernel
theorem dX11_pour_105 : decode cX11_pour 105 = .ok (.iload 5, 2) := by decide +kernel
theorem dX11_pour_107 : decode cX11_pour 107 = .ok (.invokevirtual 88, 3) := by decide +kernel
theorem dX11_pour_110 : decode cX11_pour 110 = .ok (.ifCond .ne 9, 3) := by decide +kernel
theorem dX11_pour_113 : decode cX11_pour 113 = .ok (.aload_n 0, 1) := by decide +kernel
theorem dX11_pour_114 : decode cX11_pour 114 = .ok (.iconst 4, 1) := by decide +kernel
theorem dX11_pour_115 : decode cX11_pour 115 = .ok (.invokevirtual 95, 3) := by decide +kernel
theorem dX11_pour_118 : decode cX11_pour 118 = .ok (.ireturn, 1) := by decide +kernel
theorem dX11_pour_119 : decode cX11_pour 119 = .ok (.aload 6, 2) := by decide +kernel
theorem dX11_pour_121 : decode cX11_pour 121 = .ok (.getfield 128, 3) := by decide +kernel
theorem dX11_pour_124 : decode cX11_pour 124 = .ok (.iload_n 2, 1) := by decide +kernel
theorem dX11_pour_125 : decode cX11_pour 125 = .ok (.aload 7, 2) := by decide +kernel
theorem dX11_pour_127 : decode cX11_pour 127 = .ok (.getfield 128, 3) := by decide +kernel
theorem dX11_pour_130 : decode cX11_pour 130 = .ok (.iload 4, 2) := by decide +kernel
theorem dX11_pour_132 : decode cX11_pour 132 = .ok (.iload 5, 2) := by decide +kernel
theorem dX11_pour_134 : decode cX11_pour 134 = .ok (.invokestatic 132, 3) := by decide +kernel
theorem dX11_pour_137 : decode cX11_pour 137 = .ok (.aload_n 0, 1) := by decide +kernel
theorem dX11_pour_138 : decode cX11_pour 138 = .ok (.invokevirtual 102, 3) := by decide +kernel
theorem dX11_pour_141 : decode cX11_pour 141 = .ok (.ireturn, 1) := by decide +kernel
theorem dX11_feed_0 : decode cX11_feed 0 = .ok (.aload_n 0, 1) := by decide +kernel
theorem dX11_feed_1 : decode cX11_feed 1 = .ok (.getfield 18, 3) := by decide +kernel
theorem dX11_feed_4 : decode cX11_feed 4 = .ok (.bipush 20, 2) := by decide +kernel
theorem dX11_feed_6 : decode cX11_feed 6 = .ok (.invokevirtual 138, 3) := by decide +kernel
theorem dX11_feed_9 : decode cX11_feed 9 = .ok (.ifCond .ne 5, 3) := by decide +kernel
theorem dX11_feed_12 : decode cX11_feed 12 = .ok (.iconst (-1), 1) := by decide +kernel
theorem dX11_feed_13 : decode cX11_feed 13 = .ok (.ireturn, 1) := by decide +kernel
theorem dX11_feed_14 : decode cX11_feed 14 = .ok (.aload_n 0, 1) := by decide +kernel
theorem dX11_feed_15 : decode cX11_feed 15 = .ok (.getfield 18, 3) := by decide +kernel
theorem dX11_feed_18 : decode cX11_feed 18 = .ok (.iload_n 1, 1) := by decide +kernel
theorem dX11_feed_19 : decode cX11_feed 19 = .ok (.invokevirtual 141, 3) := by decide +kernel
theorem dX11_feed_22 : decode cX11_feed 22 = .ok (.aload_n 0, 1) := by decide +kernel
theorem dX11_feed_23 : decode cX11_feed 23 = .ok (.getfield 18, 3) := by decide +kernel
theorem dX11_feed_26 : decode cX11_feed 26 = .ok (.iload_n 2, 1) := by decide +kernel
theorem dX11_feed_27 : decode cX11_feed 27 = .ok (.invokevirtual 141, 3) := by decide +kernel
theorem dX11_feed_30 : decode cX11_feed 30 = .ok (.aload_n 0, 1) := by decide +kernel
theorem dX11_feed_31 : decode cX11_feed 31 = .ok (.getfield 18, 3) := by decide +kernel
theorem dX11_feed_34 : decode cX11_feed 34 = .ok (.iload_n 3, 1) := by decide +kernel
theorem dX11_feed_35 : decode cX11_feed 35 = .ok (.invokevirtual 141, 3) := by decide +kernel
theorem dX11_feed_38 : decode cX11_feed 38 = .ok (.aload_n 0, 1) := by decide +kernel
theorem dX11_feed_39 : decode cX11_feed 39 = .ok (.getfield 18, 3) := by decide +kernel
theorem dX11_feed_42 : decode cX11_feed 42 = .ok (.iload 4, 2) := by decide +kernel
theorem dX11_feed_44 : decode cX11_feed 44 = .ok (.invokevirtual 141, 3) := by decide +kernel
theorem dX11_feed_47 : decode cX11_feed 47 = .ok (.aload_n 0, 1) := by decide +kernel
theorem dX11_feed_48 : decode cX11_feed 48 = .ok (.getfield 18, 3) := by decide +kernel
theorem dX11_feed_51 : decode cX11_feed 51 = .ok (.iload 5, 2) := by decide +kernel
theorem dX11_feed_53 : decode cX11_feed 53 = .ok (.invokevirtual 141, 3) := by decide +kernel
theorem dX11_feed_56 : decode cX11_feed 56 = .ok (.aload_n 0, 1) := by decide +kernel
theorem dX11_feed_57 : decode cX11_feed 57 = .ok (.getfield 18, 3) := by decide +kernel
theorem dX11_feed_60 : decode cX11_feed 60 = .ok (.getfield 145, 3) := by decide +kernel
theorem dX11_feed_63 : decode cX11_feed 63 = .ok (.ireturn, 1) := by decide +kernel
theorem dX11_book_0 : decode cX11_book 0 = .ok (.iload_n 1, 1) := by decide +kernel
theorem dX11_book_1 : decode cX11_book 1 = .ok (.ifCond .lt 14, 3) := by decide +kernel
theorem dX11_book_4 : decode cX11_book 4 = .ok (.iload_n 1, 1) := by decide +kernel
theorem dX11_book_5 : decode cX11_book 5 = .ok (.aload_n 0, 1) := by decide +kernel
theorem dX11_book_6 : decode cX11_book 6 = .ok (.getfield 18, 3) := by decide +kernel
theorem dX11_book_9 : decode cX11_book 9 = .ok (.getfield 145, 3) := by decide +kernel
theorem dX11_book_12 : decode cX11_book 12 = .ok (.if_icmp .le 9, 3) := by decide +kernel
theorem dX11_book_15 : decode cX11_book 15 = .ok (.aload_n 0, 1) := by decide +kernel
theorem dX11_book_16 : decode cX11_book 16 = .ok (.iconst 5, 1) := by decide +kernel
theorem dX11_book_17 : decode cX11_book 17 = .ok (.invokevirtual 113, 3) := by decide +kernel
theorem dX11_book_20 : decode cX11_book 20 = .ok (.ireturn, 1) := by decide +kernel
theorem dX11_book_21 : decode cX11_book 21 = .ok (.new 148, 3) := by decide +kernel
theorem dX11_book_24 : decode cX11_book 24 = .ok (.dup, 1) := by decide +kernel
theorem dX11_book_25 : decode cX11_book 25 = .ok (.aload_n 0, 1) := by decide +kernel
theorem dX11_book_26 : decode cX11_book 26 = .ok (.getfield 18, 3) := by decide +kernel
theorem dX11_book_29 : decode cX11_book 29 = .ok (.invokespecial 150, 3) := by decide +kernel
theorem dX11_book_32 : decode cX11_book 32 = .ok (.iload_n 1, 1) := by decide +kernel
theorem dX11_book_33 : decode cX11_book 33 = .ok (.invokevirtual 153, 3) := by decide +kernel
theorem dX11_book_36 : decode cX11_book 36 = .ok (.astore_n 2, 1) := by decide +kernel
theorem dX11_book_37 : decode cX11_book 37 = .ok (.aload_n 0, 1) := by decide +kernel
theorem dX11_book_38 : decode cX11_book 38 = .ok (.getfield 18, 3) := by decide +kernel
theorem dX11_book_41 : decode cX11_book 41 = .ok (.getfield 157, 3) := by decide +kernel
theorem dX11_book_44 : decode cX11_book 44 = .ok (.ifCond .eq 10, 3) := by decide +kernel
theorem dX11_book_47 : decode cX11_book 47 = .ok (.aload_n 0, 1) := by decide +kernel
theorem dX11_book_48 : decode cX11_book 48 = .ok (.bipush 10, 2) := by decide +kernel
theorem dX11_book_50 : decode cX11_book 50 = .ok (.invokevirtual 113, 3) := by decide +kernel
theorem dX11_book_53 : decode cX11_book 53 = .ok (.ireturn, 1) := by decide +kernel
theorem dX11_book_54 : decode cX11_book 54 = .ok (.aload_n 0, 1) := by decide +kernel
theorem dX11_book_55 : decode cX11_book 55 = .ok (.getfield 25, 3) := by decide +kernel
theorem dX11_book_58 : decode cX11_book 58 = .ok (.aload_n 2, 1) := by decide +kernel
theorem dX11_book_59 : decode cX11_book 59 = .ok (.invokevirtual 160, 3) := by decide +kernel
theorem dX11_book_62 : decode cX11_book 62 = .ok (.aload_n 0, 1) := by decide +kernel
theorem dX11_book_63 : decode cX11_book 63 = .ok (.aload_n 2, 1) := by decide +kernel
theorem dX11_book_64 : decode cX11_book 64 = .ok (.getfield 164, 3) := by decide +kernel
theorem dX11_book_67 : decode cX11_book 67 = .ok (.invokevirtual 169, 3) := by decide +kernel
theorem dX11_book_70 : decode cX11_book 70 = .ok (.ireturn, 1) := by decide +kernel
theorem dX11_log_0 : decode cX11_log 0 = .ok (.iload_n 1, 1) := by decide +kernel
theorem dX11_log_1 : decode cX11_log 1 = .ok (.ifCond .lt 21, 3) := by decide +kernel
theorem dX11_log_4 : decode cX11_log 4 = .ok (.iload_n 1, 1) := by decide +kernel
theorem dX11_log_5 : decode cX11_log 5 = .ok (.aload_n 0, 1) := by decide +kernel
theorem dX11_log_6 : decode cX11_log 6 = .ok (.getfield 18, 3) := by decide +kernel
theorem dX11_log_9 : decode cX11_log 9 = .ok (.getfield 145, 3) := by decide +kernel
theorem dX11_log_12 : decode cX11_log 12 = .ok (.if_icmp .gt 10, 3) := by decide +kernel
theorem dX11_log_15 : decode cX11_log 15 = .ok (.iload_n 1, 1) := by decide +kernel
theorem dX11_log_16 : decode cX11_log 16 = .ok (.sipush 300, 3) := by decide +kernel
theorem dX11_log_19 : decode cX11_log 19 = .ok (.if_icmp .le 9, 3) := by decide +kernel
theorem dX11_log_22 : decode cX11_log 22 = .ok (.aload_n 0, 1) := by decide +kernel
theorem dX11_log_23 : decode cX11_log 23 = .ok (.iconst 5, 1) := by decide +kernel
theorem dX11_log_24 : decode cX11_log 24 = .ok (.invokevirtual 113, 3) := by decide +kernel
theorem dX11_log_27 : decode cX11_log 27 = .ok (.ireturn, 1) := by decide +kernel
theorem dX11_log_28 : decode cX11_log 28 = .ok (.new 172, 3) := by decide +kernel
theorem dX11_log_31 : decode cX11_log 31 = .ok (.dup, 1) := by decide +kernel
theorem dX11_log_32 : decode cX11_log 32 = .ok (.aload_n 0, 1) := by decide +kernel
theorem dX11_log_33 : decode cX11_log 33 = .ok (.getfield 18, 3) := by decide +kernel
theorem dX11_log_36 : decode cX11_log 36 = .ok (.aload_n 0, 1) := by decide +kernel
theorem dX11_log_37 : decode cX11_log 37 = .ok (.getfield 25, 3) := by decide +kernel
theorem dX11_log_40 : decode cX11_log 40 = .ok (.getfield 174, 3) := by decide +kernel
theorem dX11_log_43 : decode cX11_log 43 = .ok (.invokespecial 178, 3) := by decide +kernel
theorem dX11_log_46 : decode cX11_log 46 = .ok (.iload_n 1, 1) := by decide +kernel
theorem dX11_log_47 : decode cX11_log 47 = .ok (.invokevirtual 181, 3) := by decide +kernel
theorem dX11_log_50 : decode cX11_log 50 = .ok (.astore_n 2, 1) := by decide +kernel
theorem dX11_log_51 : decode cX11_log 51 = .ok (.aload_n 0, 1) := by decide +kernel
theorem dX11_log_52 : decode cX11_log 52 = .ok (.getfield 18, 3) := by decide +kernel
theorem dX11_log_55 : decode cX11_log 55 = .ok (.getfield 157, 3) := by decide +kernel
theorem dX11_log_58 : decode cX11_log 58 = .ok (.ifCond .eq 10, 3) := by decide +kernel
theorem dX11_log_61 : decode cX11_log 61 = .ok (.aload_n 0, 1) := by decide +kernel
theorem dX11_log_62 : decode cX11_log 62 = .ok (.bipush 10, 2) := by decide +kernel
theorem dX11_log_64 : decode cX11_log 64 = .ok (.invokevirtual 113, 3) := by decide +kernel
theorem dX11_log_67 : decode cX11_log 67 = .ok (.ireturn, 1) := by decide +kernel
theorem dX11_log_68 : decode cX11_log 68 = .ok (.aload_n 0, 1) := by decide +kernel
theorem dX11_log_69 : decode cX11_log 69 = .ok (.getfield 25, 3) := by decide +kernel
theorem dX11_log_72 : decode cX11_log 72 = .ok (.aload_n 2, 1) := by decide +kernel
theorem dX11_log_73 : decode cX11_log 73 = .ok (.putfield 185, 3) := by decide +kernel
theorem dX11_log_76 : decode cX11_log 76 = .ok (.aload_n 0, 1) := by decide +kernel
theorem dX11_log_77 : decode cX11_log 77 = .ok (.aload_n 2, 1) := by decide +kernel
theorem dX11_log_78 : decode cX11_log 78 = .ok (.getfield 189, 3) := by decide +kernel
theorem dX11_log_81 : decode cX11_log 81 = .ok (.invokevirtual 169, 3) := by decide +kernel
theorem dX11_log_84 : decode cX11_log 84 = .ok (.ireturn, 1) := by decide +kernel
theorem dX11_fault_0 : decode cX11_fault 0 = .ok (.iload_n 1, 1) := by decide +kernel
theorem dX11_fault_1 : decode cX11_fault 1 = .ok (.ifCond .ne 11, 3) := by decide +kernel
theorem dX11_fault_4 : decode cX11_fault 4 = .ok (.aload_n 0, 1) := by decide +kernel
theorem dX11_fault_5 : decode cX11_fault 5 = .ok (.getfield 18, 3) := by decide +kernel
theorem dX11_fault_8 : decode cX11_fault 8 = .ok (.getfield 157, 3) := by decide +kernel
theorem dX11_fault_11 : decode cX11_fault 11 = .ok (.ireturn, 1) := by decide +kernel
theorem dX11_fault_12 : decode cX11_fault 12 = .ok (.iload_n 1, 1) := by decide +kernel
theorem dX11_fault_13 : decode cX11_fault 13 = .ok (.iconst 1, 1) := by decide +kernel
theorem dX11_fault_14 : decode cX11_fault 14 = .ok (.if_icmp .ne 13, 3) := by decide +kernel
theorem dX11_fault_17 : decode cX11_fault 17 = .ok (.aload_n 0, 1) := by decide +kernel
theorem dX11_fault_18 : decode cX11_fault 18 = .ok (.getfield 18, 3) := by decide +kernel
theorem dX11_fault_21 : decode cX11_fault 21 = .ok (.getfield 194, 3) := by decide +kernel
theorem dX11_fault_24 : decode cX11_fault 24 = .ok (.goto 4, 3) := by decide +kernel
theorem dX11_fault_27 : decode cX11_fault 27 = .ok (.iconst (-1), 1) := by decide +kernel
theorem dX11_fault_28 : decode cX11_fault 28 = .ok (.ireturn, 1) := by decide +kernel
theorem dX11_many_0 : decode cX11_many 0 = .ok (.aload_n 0, 1) := by decide +kernel
theorem dX11_many_1 : decode cX11_many 1 = .ok (.getfield 25, 3) := by decide +kernel
theorem dX11_many_4 : decode cX11_many 4 = .ok (.getfield 174, 3) := by decide +kernel
theorem dX11_many_7 : decode cX11_many 7 = .ok (.astore_n 2, 1) := by decide +kernel
theorem dX11_many_8 : decode cX11_many 8 = .ok (.iload_n 1, 1) := by decide +kernel
theorem dX11_many_9 : decode cX11_many 9 = .ok (.tableswitch 71 0 3 #[31, 40, 49, 62], 31) := by decide +kernel
theorem dX11_many_40 : decode cX11_many 40 = .ok (.aload_n 0, 1) := by decide +kernel
theorem dX11_many_41 : decode cX11_many 41 = .ok (.aload_n 2, 1) := by decide +kernel
theorem dX11_many_42 : decode cX11_many 42 = .ok (.getfield 164, 3) := by decide +kernel
theorem dX11_many_45 : decode cX11_many 45 = .ok (.invokevirtual 169, 3) := by decide +kernel
theorem dX11_many_48 : decode cX11_many 48 = .ok (.ireturn, 1) := by decide +kernel
theorem dX11_many_49 : decode cX11_many 49 = .ok (.aload_n 0, 1) := by decide +kernel
theorem dX11_many_50 : decode cX11_many 50 = .ok (.aload_n 2, 1) := by decide +kernel
theorem dX11_many_51 : decode cX11_many 51 = .ok (.getfield 197, 3) := by decide +kernel
theorem dX11_many_54 : decode cX11_many 54 = .ok (.invokevirtual 169, 3) := by decide +kernel
theorem dX11_many_57 : decode cX11_many 57 = .ok (.ireturn, 1) := by decide +kernel
theorem dX11_many_58 : decode cX11_many 58 = .ok (.aload_n 0, 1) := by decide +kernel
theorem dX11_many_59 : decode cX11_many 59 = .ok (.aload_n 2, 1) := by decide +kernel
theorem dX11_many_60 : decode cX11_many 60 = .ok (.iconst 0, 1) := by decide +kernel
theorem dX11_many_61 : decode cX11_many 61 = .ok (.invokevirtual 200, 3) := by decide +kernel
theorem dX11_many_64 : decode cX11_many 64 = .ok (.invokestatic 203, 3) := by decide +kernel
theorem dX11_many_67 : decode cX11_many 67 = .ok (.invokevirtual 169, 3) := by decide +kernel
theorem dX11_many_70 : decode cX11_many 70 = .ok (.ireturn, 1) := by decide +kernel
theorem dX11_many_71 : decode cX11_many 71 = .ok (.aload_n 0, 1) := by decide +kernel
theorem dX11_many_72 : decode cX11_many 72 = .ok (.aload_n 2, 1) := by decide +kernel
theorem dX11_many_73 : decode cX11_many 73 = .ok (.invokevirtual 208, 3) := by decide +kernel
theorem dX11_many_76 : decode cX11_many 76 = .ok (.invokevirtual 169, 3) := by decide +kernel
theorem dX11_many_79 : decode cX11_many 79 = .ok (.ireturn, 1) := by decide +kernel
theorem dX11_many_80 : decode cX11_many 80 = .ok (.aload_n 0, 1) := by decide +kernel
theorem dX11_many_81 : decode cX11_many 81 = .ok (.iconst 5, 1) := by decide +kernel
theorem dX11_many_82 : decode cX11_many 82 = .ok (.invokevirtual 113, 3) := by decide +kernel
theorem dX11_many_85 : decode cX11_many 85 = .ok (.ireturn, 1) := by decide +kernel
theorem dX11_change_0 : decode cX11_change 0 = .ok (.aload_n 0, 1) := by decide +kernel
theorem dX11_change_1 : decode cX11_change 1 = .ok (.getfield 25, 3) := by decide +kernel
theorem dX11_change_4 : decode cX11_change 4 = .ok (.getfield 174, 3) := by decide +kernel
theorem dX11_change_7 : decode cX11_change 7 = .ok (.astore_n 3, 1) := by decide +kernel
theorem dX11_change_8 : decode cX11_change 8 = .ok (.aload_n 3, 1) := by decide +kernel
theorem dX11_change_9 : decode cX11_change 9 = .ok (.iload_n 1, 1) := by decide +kernel
theorem dX11_change_10 : decode cX11_change 10 = .ok (.invokevirtual 212, 3) := by decide +kernel
theorem dX11_change_13 : decode cX11_change 13 = .ok (.ifCond .ne 9, 3) := by decide +kernel
theorem dX11_change_16 : decode cX11_change 16 = .ok (.aload_n 0, 1) := by decide +kernel
theorem dX11_change_17 : decode cX11_change 17 = .ok (.iconst 2, 1) := by decide +kernel
theorem dX11_change_18 : decode cX11_change 18 = .ok (.invokevirtual 113, 3) := by decide +kernel
theorem dX11_change_21 : decode cX11_change 21 = .ok (.ireturn, 1) := by decide +kernel
theorem dX11_change_22 : decode cX11_change 22 = .ok (.iload_n 2, 1) := by decide +kernel
theorem dX11_change_23 : decode cX11_change 23 = .ok (.tableswitch 105 0 4 #[33, 44, 55, 83, 94], 33) := by decide +kernel
theorem dX11_change_56 : decode cX11_change 56 = .ok (.aload_n 0, 1) := by decide +kernel
theorem dX11_change_57 : decode cX11_change 57 = .ok (.aload_n 3, 1) := by decide +kernel
theorem dX11_change_58 : decode cX11_change 58 = .ok (.getfield 215, 3) := by decide +kernel
theorem dX11_change_61 : decode cX11_change 61 = .ok (.iload_n 1, 1) := by decide +kernel
theorem dX11_change_62 : decode cX11_change 62 = .ok (.iaload, 1) := by decide +kernel
theorem dX11_change_63 : decode cX11_change 63 = .ok (.invokevirtual 169, 3) := by decide +kernel
theorem dX11_change_66 : decode cX11_change 66 = .ok (.ireturn, 1) := by decide +kernel
theorem dX11_change_67 : decode cX11_change 67 = .ok (.aload_n 0, 1) := by decide +kernel
theorem dX11_change_68 : decode cX11_change 68 = .ok (.aload_n 3, 1) := by decide +kernel
theorem dX11_change_69 : decode cX11_change 69 = .ok (.getfield 218, 3) := by decide +kernel
theorem dX11_change_72 : decode cX11_change 72 = .ok (.iload_n 1, 1) := by decide +kernel
theorem dX11_change_73 : decode cX11_change 73 = .ok (.iaload, 1) := by decide +kernel
theorem dX11_change_74 : decode cX11_change 74 = .ok (.invokevirtual 169, 3) := by decide +kernel
theorem dX11_change_77 : decode cX11_change 77 = .ok (.ireturn, 1) := by decide +kernel
theorem dX11_change_78 : decode cX11_change 78 = .ok (.aload_n 3, 1) := by decide +kernel
theorem dX11_change_79 : decode cX11_change 79 = .ok (.iload_n 1, 1) := by decide +kernel
theorem dX11_change_80 : decode cX11_change 80 = .ok (.invokevirtual 220, 3) := by decide +kernel
theorem dX11_change_83 : decode cX11_change 83 = .ok (.ifCond .eq 16, 3) := by decide +kernel
theorem dX11_change_86 : decode cX11_change 86 = .ok (.aload_n 0, 1) := by decide +kernel
theorem dX11_change_87 : decode cX11_change 87 = .ok (.aload_n 3, 1) := by decide +kernel
theorem dX11_change_88 : decode cX11_change 88 = .ok (.getfield 223, 3) := by decide +kernel
theorem dX11_change_91 : decode cX11_change 91 = .ok (.iload_n 1, 1) := by decide +kernel
theorem dX11_change_92 : decode cX11_change 92 = .ok (.iaload, 1) := by decide +kernel
theorem dX11_change_93 : decode cX11_change 93 = .ok (.invokevirtual 169, 3) := by decide +kernel
theorem dX11_change_96 : decode cX11_change 96 = .ok (.goto 9, 3) := by decide +kernel
theorem dX11_change_99 : decode cX11_change 99 = .ok (.aload_n 0, 1) := by decide +kernel
theorem dX11_change_100 : decode cX11_change 100 = .ok (.bipush 8, 2) := by decide +kernel
theorem dX11_change_102 : decode cX11_change 102 = .ok (.invokevirtual 113, 3) := by decide +kernel
theorem dX11_change_105 : decode cX11_change 105 = .ok (.ireturn, 1) := by decide +kernel
theorem dX11_change_106 : decode cX11_change 106 = .ok (.aload_n 0, 1) := by decide +kernel
theorem dX11_change_107 : decode cX11_change 107 = .ok (.aload_n 3, 1) := by decide +kernel
theorem dX11_change_108 : decode cX11_change 108 = .ok (.getfield 226, 3) := by decide +kernel
theorem dX11_change_111 : decode cX11_change 111 = .ok (.iload_n 1, 1) := by decide +kernel
theorem dX11_change_112 : decode cX11_change 112 = .ok (.iaload, 1) := by decide +kernel
theorem dX11_change_113 : decode cX11_change 113 = .ok (.invokevirtual 169, 3) := by decide +kernel
theorem dX11_change_116 : decode cX11_change 116 = .ok (.ireturn, 1) := by decide +kernel
theorem dX11_change_117 : decode cX11_change 117 = .ok (.aload_n 0, 1) := by decide +kernel
theorem dX11_change_118 : decode cX11_change 118 = .ok (.aload_n 3, 1) := by decide +kernel
theorem dX11_change_119 : decode cX11_change 119 = .ok (.getfield 229, 3) := by decide +kernel
theorem dX11_change_122 : decode cX11_change 122 = .ok (.iload_n 1, 1) := by decide +kernel
theorem dX11_change_123 : decode cX11_change 123 = .ok (.iaload, 1) := by decide +kernel
theorem dX11_change_124 : decode cX11_change 124 = .ok (.invokevirtual 169, 3) := by decide +kernel
theorem dX11_change_127 : decode cX11_change 127 = .ok (.ireturn, 1) := by decide +kernel
theorem dX11_change_128 : decode cX11_change 128 = .ok (.aload_n 0, 1) := by decide +kernel
theorem dX11_change_129 : decode cX11_change 129 = .ok (.iconst 5, 1) := by decide +kernel
theorem dX11_change_130 : decode cX11_change 130 = .ok (.invokevirtual 113, 3) := by decide +kernel
theorem dX11_change_133 : decode cX11_change 133 = .ok (.ireturn, 1) := by decide +kernel
theorem dX11_hangs_0 : decode cX11_hangs 0 = .ok (.aload_n 0, 1) := by decide +kernel
theorem dX11_hangs_1 : decode cX11_hangs 1 = .ok (.getfield 25, 3) := by decide +kernel
theorem dX11_hangs_4 : decode cX11_hangs 4 = .ok (.getfield 174, 3) := by decide +kernel
theorem dX11_hangs_7 : decode cX11_hangs 7 = .ok (.astore_n 3, 1) := by decide +kernel
theorem dX11_hangs_8 : decode cX11_hangs 8 = .ok (.aload_n 3, 1) := by decide +kernel
theorem dX11_hangs_9 : decode cX11_hangs 9 = .ok (.iload_n 1, 1) := by decide +kernel
theorem dX11_hangs_10 : decode cX11_hangs 10 = .ok (.invokevirtual 212, 3) := by decide +kernel
theorem dX11_hangs_13 : decode cX11_hangs 13 = .ok (.ifCond .ne 9, 3) := by decide +kernel
theorem dX11_hangs_16 : decode cX11_hangs 16 = .ok (.aload_n 0, 1) := by decide +kernel
theorem dX11_hangs_17 : decode cX11_hangs 17 = .ok (.iconst 2, 1) := by decide +kernel
theorem dX11_hangs_18 : decode cX11_hangs 18 = .ok (.invokevirtual 113, 3) := by decide +kernel
theorem dX11_hangs_21 : decode cX11_hangs 21 = .ok (.ireturn, 1) := by decide +kernel
theorem dX11_hangs_22 : decode cX11_hangs 22 = .ok (.iload_n 2, 1) := by decide +kernel
theorem dX11_hangs_23 : decode cX11_hangs 23 = .ok (.tableswitch 58 0 2 #[25, 36, 47], 25) := by decide +kernel
theorem dX11_hangs_48 : decode cX11_hangs 48 = .ok (.aload_n 0, 1) := by decide +kernel
theorem dX11_hangs_49 : decode cX11_hangs 49 = .ok (.aload_n 3, 1) := by decide +kernel
theorem dX11_hangs_50 : decode cX11_hangs 50 = .ok (.getfield 232, 3) := by decide +kernel
theorem dX11_hangs_53 : decode cX11_hangs 53 = .ok (.iload_n 1, 1) := by decide +kernel
theorem dX11_hangs_54 : decode cX11_hangs 54 = .ok (.iaload, 1) := by decide +kernel
theorem dX11_hangs_55 : decode cX11_hangs 55 = .ok (.invokevirtual 169, 3) := by decide +kernel
theorem dX11_hangs_58 : decode cX11_hangs 58 = .ok (.ireturn, 1) := by decide +kernel
theorem dX11_hangs_59 : decode cX11_hangs 59 = .ok (.aload_n 0, 1) := by decide +kernel
theorem dX11_hangs_60 : decode cX11_hangs 60 = .ok (.aload_n 3, 1) := by decide +kernel
theorem dX11_hangs_61 : decode cX11_hangs 61 = .ok (.getfield 235, 3) := by decide +kernel
theorem dX11_hangs_64 : decode cX11_hangs 64 = .ok (.iload_n 1, 1) := by decide +kernel
theorem dX11_hangs_65 : decode cX11_hangs 65 = .ok (.iaload, 1) := by decide +kernel
theorem dX11_hangs_66 : decode cX11_hangs 66 = .ok (.invokevirtual 169, 3) := by decide +kernel
theorem dX11_hangs_69 : decode cX11_hangs 69 = .ok (.ireturn, 1) := by decide +kernel
theorem dX11_hangs_70 : decode cX11_hangs 70 = .ok (.aload_n 0, 1) := by decide +kernel
theorem dX11_hangs_71 : decode cX11_hangs 71 = .ok (.aload_n 3, 1) := by decide +kernel
theorem dX11_hangs_72 : decode cX11_hangs 72 = .ok (.getfield 238, 3) := by decide +kernel
theorem dX11_hangs_75 : decode cX11_hangs 75 = .ok (.iload_n 1, 1) := by decide +kernel
theorem dX11_hangs_76 : decode cX11_hangs 76 = .ok (.iaload, 1) := by decide +kernel
theorem dX11_hangs_77 : decode cX11_hangs 77 = .ok (.invokevirtual 169, 3) := by decide +kernel
theorem dX11_hangs_80 : decode cX11_hangs 80 = .ok (.ireturn, 1) := by decide +kernel
theorem dX11_hangs_81 : decode cX11_hangs 81 = .ok (.aload_n 0, 1) := by decide +kernel
theorem dX11_hangs_82 : decode cX11_hangs 82 = .ok (.iconst 5, 1) := by decide +kernel
theorem dX11_hangs_83 : decode cX11_hangs 83 = .ok (.invokevirtual 113, 3) := by decide +kernel
theorem dX11_hangs_86 : decode cX11_hangs 86 = .ok (.ireturn, 1) := by decide +kernel
theorem dX11_holds_0 : decode cX11_holds 0 = .ok (.aload_n 0, 1) := by decide +kernel
theorem dX11_holds_1 : decode cX11_holds 1 = .ok (.getfield 25, 3) := by decide +kernel
theorem dX11_holds_4 : decode cX11_holds 4 = .ok (.getfield 174, 3) := by decide +kernel
theorem dX11_holds_7 : decode cX11_holds 7 = .ok (.iload_n 1, 1) := by decide +kernel
theorem dX11_holds_8 : decode cX11_holds 8 = .ok (.invokevirtual 241, 3) := by decide +kernel
theorem dX11_holds_11 : decode cX11_holds 11 = .ok (.ifCond .ne 9, 3) := by decide +kernel
theorem dX11_holds_14 : decode cX11_holds 14 = .ok (.aload_n 0, 1) := by decide +kernel
theorem dX11_holds_15 : decode cX11_holds 15 = .ok (.iconst 2, 1) := by decide +kernel
theorem dX11_holds_16 : decode cX11_holds 16 = .ok (.invokevirtual 113, 3) := by decide +kernel
theorem dX11_holds_19 : decode cX11_holds 19 = .ok (.ireturn, 1) := by decide +kernel
theorem dX11_holds_20 : decode cX11_holds 20 = .ok (.aload_n 0, 1) := by decide +kernel
theorem dX11_holds_21 : decode cX11_holds 21 = .ok (.aload_n 0, 1) := by decide +kernel
theorem dX11_holds_22 : decode cX11_holds 22 = .ok (.getfield 25, 3) := by decide +kernel
theorem dX11_holds_25 : decode cX11_holds 25 = .ok (.getfield 174, 3) := by decide +kernel
theorem dX11_holds_28 : decode cX11_holds 28 = .ok (.iload_n 1, 1) := by decide +kernel
theorem dX11_holds_29 : decode cX11_holds 29 = .ok (.invokevirtual 244, 3) := by decide +kernel
theorem dX11_holds_32 : decode cX11_holds 32 = .ok (.ifCond .eq 7, 3) := by decide +kernel
theorem dX11_holds_35 : decode cX11_holds 35 = .ok (.iconst 1, 1) := by decide +kernel
theorem dX11_holds_36 : decode cX11_holds 36 = .ok (.goto 4, 3) := by decide +kernel
theorem dX11_holds_39 : decode cX11_holds 39 = .ok (.iconst 0, 1) := by decide +kernel
theorem dX11_holds_40 : decode cX11_holds 40 = .ok (.invokevirtual 169, 3) := by decide +kernel
theorem dX11_holds_43 : decode cX11_holds 43 = .ok (.ireturn, 1) := by decide +kernel
theorem dX11_lacks_0 : decode cX11_lacks 0 = .ok (.aload_n 0, 1) := by decide +kernel
theorem dX11_lacks_1 : decode cX11_lacks 1 = .ok (.getfield 25, 3) := by decide +kernel
theorem dX11_lacks_4 : decode cX11_lacks 4 = .ok (.getfield 174, 3) := by decide +kernel
theorem dX11_lacks_7 : decode cX11_lacks 7 = .ok (.iload_n 1, 1) := by decide +kernel
theorem dX11_lacks_8 : decode cX11_lacks 8 = .ok (.invokevirtual 241, 3) := by decide +kernel
theorem dX11_lacks_11 : decode cX11_lacks 11 = .ok (.ifCond .ne 9, 3) := by decide +kernel
theorem dX11_lacks_14 : decode cX11_lacks 14 = .ok (.aload_n 0, 1) := by decide +kernel
theorem dX11_lacks_15 : decode cX11_lacks 15 = .ok (.iconst 2, 1) := by decide +kernel
theorem dX11_lacks_16 : decode cX11_lacks 16 = .ok (.invokevirtual 113, 3) := by decide +kernel
theorem dX11_lacks_19 : decode cX11_lacks 19 = .ok (.ireturn, 1) := by decide +kernel
theorem dX11_lacks_20 : decode cX11_lacks 20 = .ok (.aload_n 0, 1) := by decide +kernel
theorem dX11_lacks_21 : decode cX11_lacks 21 = .ok (.aload_n 0, 1) := by decide +kernel
theorem dX11_lacks_22 : decode cX11_lacks 22 = .ok (.getfield 25, 3) := by decide +kernel
theorem dX11_lacks_25 : decode cX11_lacks 25 = .ok (.getfield 174, 3) := by decide +kernel
theorem dX11_lacks_28 : decode cX11_lacks 28 = .ok (.iload_n 1, 1) := by decide +kernel
theorem dX11_lacks_29 : decode cX11_lacks 29 = .ok (.invokevirtual 247, 3) := by decide +kernel
theorem dX11_lacks_32 : decode cX11_lacks 32 = .ok (.invokevirtual 169, 3) := by decide +kernel
theorem dX11_lacks_35 : decode cX11_lacks 35 = .ok (.ireturn, 1) := by decide +kernel
theorem dX11_out_0 : decode cX11_out 0 = .ok (.aload_n 0, 1) := by decide +kernel
theorem dX11_out_1 : decode cX11_out 1 = .ok (.getfield 25, 3) := by decide +kernel
theorem dX11_out_4 : decode cX11_out 4 = .ok (.getfield 174, 3) := by decide +kernel
theorem dX11_out_7 : decode cX11_out 7 = .ok (.iload_n 1, 1) := by decide +kernel
theorem dX11_out_8 : decode cX11_out 8 = .ok (.invokevirtual 241, 3) := by decide +kernel
theorem dX11_out_11 : decode cX11_out 11 = .ok (.ifCond .eq 17, 3) := by decide +kernel
theorem dX11_out_14 : decode cX11_out 14 = .ok (.aload_n 0, 1) := by decide +kernel
theorem dX11_out_15 : decode cX11_out 15 = .ok (.getfield 25, 3) := by decide +kernel
theorem dX11_out_18 : decode cX11_out 18 = .ok (.getfield 174, 3) := by decide +kernel
theorem dX11_out_21 : decode cX11_out 21 = .ok (.iload_n 2, 1) := by decide +kernel
theorem dX11_out_22 : decode cX11_out 22 = .ok (.invokevirtual 212, 3) := by decide +kernel
theorem dX11_out_25 : decode cX11_out 25 = .ok (.ifCond .ne 9, 3) := by decide +kernel
theorem dX11_out_28 : decode cX11_out 28 = .ok (.aload_n 0, 1) := by decide +kernel
theorem dX11_out_29 : decode cX11_out 29 = .ok (.iconst 2, 1) := by decide +kernel
theorem dX11_out_30 : decode cX11_out 30 = .ok (.invokevirtual 113, 3) := by decide +kernel
theorem dX11_out_33 : decode cX11_out 33 = .ok (.ireturn, 1) := by decide +kernel
theorem dX11_out_34 : decode cX11_out 34 = .ok (.aload_n 0, 1) := by decide +kernel
theorem dX11_out_35 : decode cX11_out 35 = .ok (.aload_n 0, 1) := by decide +kernel
theorem dX11_out_36 : decode cX11_out 36 = .ok (.getfield 25, 3) := by decide +kernel
theorem dX11_out_39 : decode cX11_out 39 = .ok (.getfield 174, 3) := by decide +kernel
theorem dX11_out_42 : decode cX11_out 42 = .ok (.iload_n 1, 1) := by decide +kernel
theorem dX11_out_43 : decode cX11_out 43 = .ok (.iload_n 2, 1) := by decide +kernel
theorem dX11_out_44 : decode cX11_out 44 = .ok (.invokevirtual 250, 3) := by decide +kernel
theorem dX11_out_47 : decode cX11_out 47 = .ok (.invokevirtual 169, 3) := by decide +kernel
theorem dX11_out_50 : decode cX11_out 50 = .ok (.ireturn, 1) := by decide +kernel
theorem dX11_pick_0 : decode cX11_pick 0 = .ok (.aload_n 0, 1) := by decide +kernel
theorem dX11_pick_1 : decode cX11_pick 1 = .ok (.getfield 25, 3) := by decide +kernel
theorem dX11_pick_4 : decode cX11_pick 4 = .ok (.getfield 174, 3) := by decide +kernel
theorem dX11_pick_7 : decode cX11_pick 7 = .ok (.iload_n 1, 1) := by decide +kernel
theorem dX11_pick_8 : decode cX11_pick 8 = .ok (.invokevirtual 241, 3) := by decide +kernel
theorem dX11_pick_11 : decode cX11_pick 11 = .ok (.ifCond .eq 17, 3) := by decide +kernel
theorem dX11_pick_14 : decode cX11_pick 14 = .ok (.aload_n 0, 1) := by decide +kernel
theorem dX11_pick_15 : decode cX11_pick 15 = .ok (.getfield 25, 3) := by decide +kernel
theorem dX11_pick_18 : decode cX11_pick 18 = .ok (.getfield 174, 3) := by decide +kernel
theorem dX11_pick_21 : decode cX11_pick 21 = .ok (.iload_n 2, 1) := by decide +kernel
theorem dX11_pick_22 : decode cX11_pick 22 = .ok (.invokevirtual 212, 3) := by decide +kernel
theorem dX11_pick_25 : decode cX11_pick 25 = .ok (.ifCond .ne 9, 3) := by decide +kernel
theorem dX11_pick_28 : decode cX11_pick 28 = .ok (.aload_n 0, 1) := by decide +kernel
theorem dX11_pick_29 : decode cX11_pick 29 = .ok (.iconst 2, 1) := by decide +kernel
theorem dX11_pick_30 : decode cX11_pick 30 = .ok (.invokevirtual 113, 3) := by decide +kernel
theorem dX11_pick_33 : decode cX11_pick 33 = .ok (.ireturn, 1) := by decide +kernel
theorem dX11_pick_34 : decode cX11_pick 34 = .ok (.aload_n 0, 1) := by decide +kernel
theorem dX11_pick_35 : decode cX11_pick 35 = .ok (.aload_n 0, 1) := by decide +kernel
theorem dX11_pick_36 : decode cX11_pick 36 = .ok (.getfield 25, 3) := by decide +kernel
theorem dX11_pick_39 : decode cX11_pick 39 = .ok (.getfield 174, 3) := by decide +kernel
theorem dX11_pick_42 : decode cX11_pick 42 = .ok (.iload_n 1, 1) := by decide +kernel
theorem dX11_pick_43 : decode cX11_pick 43 = .ok (.iload_n 2, 1) := by decide +kernel
theorem dX11_pick_44 : decode cX11_pick 44 = .ok (.invokevirtual 253, 3) := by decide +kernel
theorem dX11_pick_47 : decode cX11_pick 47 = .ok (.invokevirtual 169, 3) := by decide +kernel
theorem dX11_pick_50 : decode cX11_pick 50 = .ok (.ireturn, 1) := by decide +kernel
theorem dX11_heaviest_0 : decode cX11_heaviest 0 = .ok (.aload_n 0, 1) := by decide +kernel
theorem dX11_heaviest_1 : decode cX11_heaviest 1 = .ok (.getfield 25, 3) := by decide +kernel
theorem dX11_heaviest_4 : decode cX11_heaviest 4 = .ok (.getfield 174, 3) := by decide +kernel
theorem dX11_heaviest_7 : decode cX11_heaviest 7 = .ok (.getfield 164, 3) := by decide +kernel
theorem dX11_heaviest_10 : decode cX11_heaviest 10 = .ok (.ifCond .ne 10, 3) := by decide +kernel
theorem dX11_heaviest_13 : decode cX11_heaviest 13 = .ok (.aload_n 0, 1) := by decide +kernel
theorem dX11_heaviest_14 : decode cX11_heaviest 14 = .ok (.bipush 8, 2) := by decide +kernel
theorem dX11_heaviest_16 : decode cX11_heaviest 16 = .ok (.invokevirtual 113, 3) := by decide +kernel
theorem dX11_heaviest_19 : decode cX11_heaviest 19 = .ok (.ireturn, 1) := by decide +kernel
theorem dX11_heaviest_20 : decode cX11_heaviest 20 = .ok (.aload_n 0, 1) := by decide +kernel
theorem dX11_heaviest_21 : decode cX11_heaviest 21 = .ok (.aload_n 0, 1) := by decide +kernel
theorem dX11_heaviest_22 : decode cX11_heaviest 22 = .ok (.getfield 25, 3) := by decide +kernel
theorem dX11_heaviest_25 : decode cX11_heaviest 25 = .ok (.getfield 174, 3) := by decide +kernel
theorem dX11_heaviest_28 : decode cX11_heaviest 28 = .ok (.invokevirtual 256, 3) := by decide +kernel
theorem dX11_heaviest_31 : decode cX11_heaviest 31 = .ok (.invokevirtual 169, 3) := by decide +kernel
theorem dX11_heaviest_34 : decode cX11_heaviest 34 = .ok (.ireturn, 1) := by decide +kernel
theorem dX11_alone_0 : decode cX11_alone 0 = .ok (.aload_n 0, 1) := by decide +kernel
theorem dX11_alone_1 : decode cX11_alone 1 = .ok (.aload_n 0, 1) := by decide +kernel
theorem dX11_alone_2 : decode cX11_alone 2 = .ok (.getfield 25, 3) := by decide +kernel
theorem dX11_alone_5 : decode cX11_alone 5 = .ok (.getfield 174, 3) := by decide +kernel
theorem dX11_alone_8 : decode cX11_alone 8 = .ok (.invokevirtual 259, 3) := by decide +kernel
theorem dX11_alone_11 : decode cX11_alone 11 = .ok (.invokevirtual 169, 3) := by decide +kernel
theorem dX11_alone_14 : decode cX11_alone 14 = .ok (.ireturn, 1) := by decide +kernel
theorem dX11_faultOfSet_0 : decode cX11_faultOfSet 0 = .ok (.aload_n 0, 1) := by decide +kernel
theorem dX11_faultOfSet_1 : decode cX11_faultOfSet 1 = .ok (.getfield 25, 3) := by decide +kernel
theorem dX11_faultOfSet_4 : decode cX11_faultOfSet 4 = .ok (.getfield 174, 3) := by decide +kernel
theorem dX11_faultOfSet_7 : decode cX11_faultOfSet 7 = .ok (.iload_n 1, 1) := by decide +kernel
theorem dX11_faultOfSet_8 : decode cX11_faultOfSet 8 = .ok (.invokevirtual 241, 3) := by decide +kernel
theorem dX11_faultOfSet_11 : decode cX11_faultOfSet 11 = .ok (.ifCond .ne 5, 3) := by decide +kernel
theorem dX11_faultOfSet_14 : decode cX11_faultOfSet 14 = .ok (.iconst 2, 1) := by decide +kernel
theorem dX11_faultOfSet_15 : decode cX11_faultOfSet 15 = .ok (.ireturn, 1) := by decide +kernel
theorem dX11_faultOfSet_16 : decode cX11_faultOfSet 16 = .ok (.aload_n 0, 1) := by decide +kernel
theorem dX11_faultOfSet_17 : decode cX11_faultOfSet 17 = .ok (.getfield 25, 3) := by decide +kernel
theorem dX11_faultOfSet_20 : decode cX11_faultOfSet 20 = .ok (.getfield 174, 3) := by decide +kernel
theorem dX11_faultOfSet_23 : decode cX11_faultOfSet 23 = .ok (.iload_n 1, 1) := by decide +kernel
theorem dX11_faultOfSet_24 : decode cX11_faultOfSet 24 = .ok (.invokevirtual 244, 3) := by decide +kernel
theorem dX11_faultOfSet_27 : decode cX11_faultOfSet 27 = .ok (.ifCond .eq 7, 3) := by decide +kernel
theorem dX11_faultOfSet_30 : decode cX11_faultOfSet 30 = .ok (.iconst 0, 1) := by decide +kernel
theorem dX11_faultOfSet_31 : decode cX11_faultOfSet 31 = .ok (.goto 5, 3) := by decide +kernel
theorem dX11_faultOfSet_34 : decode cX11_faultOfSet 34 = .ok (.bipush 9, 2) := by decide +kernel
theorem dX11_faultOfSet_36 : decode cX11_faultOfSet 36 = .ok (.ireturn, 1) := by decide +kernel
theorem dX11_size_0 : decode cX11_size 0 = .ok (.aload_n 0, 1) := by decide +kernel
theorem dX11_size_1 : decode cX11_size 1 = .ok (.iload_n 1, 1) := by decide +kernel
theorem dX11_size_2 : decode cX11_size 2 = .ok (.invokevirtual 262, 3) := by decide +kernel
theorem dX11_size_5 : decode cX11_size 5 = .ok (.istore_n 2, 1) := by decide +kernel
theorem dX11_size_6 : decode cX11_size 6 = .ok (.iload_n 2, 1) := by decide +kernel
theorem dX11_size_7 : decode cX11_size 7 = .ok (.ifCond .eq 9, 3) := by decide +kernel
theorem dX11_size_10 : decode cX11_size 10 = .ok (.aload_n 0, 1) := by decide +kernel
theorem dX11_size_11 : decode cX11_size 11 = .ok (.iload_n 2, 1) := by decide +kernel
theorem dX11_size_12 : decode cX11_size 12 = .ok (.invokevirtual 113, 3) := by decide +kernel
theorem dX11_size_15 : decode cX11_size 15 = .ok (.ireturn, 1) := by decide +kernel
theorem dX11_size_16 : decode cX11_size 16 = .ok (.aload_n 0, 1) := by decide +kernel
theorem dX11_size_17 : decode cX11_size 17 = .ok (.getfield 36, 3) := by decide +kernel
theorem dX11_size_20 : decode cX11_size 20 = .ok (.aload_n 0, 1) := by decide +kernel
theorem dX11_size_21 : decode cX11_size 21 = .ok (.getfield 25, 3) := by decide +kernel
theorem dX11_size_24 : decode cX11_size 24 = .ok (.getfield 174, 3) := by decide +kernel
theorem dX11_size_27 : decode cX11_size 27 = .ok (.iload_n 1, 1) := by decide +kernel
theorem dX11_size_28 : decode cX11_size 28 = .ok (.invokevirtual 265, 3) := by decide +kernel
theorem dX11_size_31 : decode cX11_size 31 = .ok (.aload_n 0, 1) := by decide +kernel
theorem dX11_size_32 : decode cX11_size 32 = .ok (.aload_n 0, 1) := by decide +kernel
theorem dX11_size_33 : decode cX11_size 33 = .ok (.getfield 36, 3) := by decide +kernel
theorem dX11_size_36 : decode cX11_size 36 = .ok (.getfield 269, 3) := by decide +kernel
theorem dX11_size_39 : decode cX11_size 39 = .ok (.invokevirtual 169, 3) := by decide +kernel
theorem dX11_size_42 : decode cX11_size 42 = .ok (.ireturn, 1) := by decide +kernel
theorem dX11_thing_0 : decode cX11_thing 0 = .ok (.aload_n 0, 1) := by decide +kernel
theorem dX11_thing_1 : decode cX11_thing 1 = .ok (.iload_n 1, 1) := by decide +kernel
theorem dX11_thing_2 : decode cX11_thing 2 = .ok (.invokevirtual 262, 3) := by decide +kernel
theorem dX11_thing_5 : decode cX11_thing 5 = .ok (.istore_n 3, 1) := by decide +kernel
theorem dX11_thing_6 : decode cX11_thing 6 = .ok (.iload_n 3, 1) := by decide +kernel
theorem dX11_thing_7 : decode cX11_thing 7 = .ok (.ifCond .eq 9, 3) := by decide +kernel
theorem dX11_thing_10 : decode cX11_thing 10 = .ok (.aload_n 0, 1) := by decide +kernel
theorem dX11_thing_11 : decode cX11_thing 11 = .ok (.iload_n 3, 1) := by decide +kernel
theorem dX11_thing_12 : decode cX11_thing 12 = .ok (.invokevirtual 113, 3) := by decide +kernel
theorem dX11_thing_15 : decode cX11_thing 15 = .ok (.ireturn, 1) := by decide +kernel
theorem dX11_thing_16 : decode cX11_thing 16 = .ok (.aload_n 0, 1) := by decide +kernel
theorem dX11_thing_17 : decode cX11_thing 17 = .ok (.getfield 36, 3) := by decide +kernel
theorem dX11_thing_20 : decode cX11_thing 20 = .ok (.aload_n 0, 1) := by decide +kernel
theorem dX11_thing_21 : decode cX11_thing 21 = .ok (.getfield 25, 3) := by decide +kernel
theorem dX11_thing_24 : decode cX11_thing 24 = .ok (.getfield 174, 3) := by decide +kernel
theorem dX11_thing_27 : decode cX11_thing 27 = .ok (.iload_n 1, 1) := by decide +kernel
theorem dX11_thing_28 : decode cX11_thing 28 = .ok (.invokevirtual 265, 3) := by decide +kernel
theorem dX11_thing_31 : decode cX11_thing 31 = .ok (.aload_n 0, 1) := by decide +kernel
theorem dX11_thing_32 : decode cX11_thing 32 = .ok (.getfield 36, 3) := by decide +kernel
theorem dX11_thing_35 : decode cX11_thing 35 = .ok (.iload_n 2, 1) := by decide +kernel
theorem dX11_thing_36 : decode cX11_thing 36 = .ok (.invokevirtual 272, 3) := by decide +kernel
theorem dX11_thing_39 : decode cX11_thing 39 = .ok (.ifCond .ne 10, 3) := by decide +kernel
theorem dX11_thing_42 : decode cX11_thing 42 = .ok (.aload_n 0, 1) := by decide +kernel
theorem dX11_thing_43 : decode cX11_thing 43 = .ok (.bipush 8, 2) := by decide +kernel
theorem dX11_thing_45 : decode cX11_thing 45 = .ok (.invokevirtual 113, 3) := by decide +kernel
theorem dX11_thing_48 : decode cX11_thing 48 = .ok (.ireturn, 1) := by decide +kernel
theorem dX11_thing_49 : decode cX11_thing 49 = .ok (.aload_n 0, 1) := by decide +kernel
theorem dX11_thing_50 : decode cX11_thing 50 = .ok (.aload_n 0, 1) := by decide +kernel
theorem dX11_thing_51 : decode cX11_thing 51 = .ok (.getfield 36, 3) := by decide +kernel
theorem dX11_thing_54 : decode cX11_thing 54 = .ok (.getfield 275, 3) := by decide +kernel
theorem dX11_thing_57 : decode cX11_thing 57 = .ok (.iload_n 2, 1) := by decide +kernel
theorem dX11_thing_58 : decode cX11_thing 58 = .ok (.iaload, 1) := by decide +kernel
theorem dX11_thing_59 : decode cX11_thing 59 = .ok (.invokevirtual 169, 3) := by decide +kernel
theorem dX11_thing_62 : decode cX11_thing 62 = .ok (.ireturn, 1) := by decide +kernel
theorem dX11_findThing_0 : decode cX11_findThing 0 = .ok (.aload_n 0, 1) := by decide +kernel
theorem dX11_findThing_1 : decode cX11_findThing 1 = .ok (.getfield 25, 3) := by decide +kernel
theorem dX11_findThing_4 : decode cX11_findThing 4 = .ok (.getfield 174, 3) := by decide +kernel
theorem dX11_findThing_7 : decode cX11_findThing 7 = .ok (.iload_n 1, 1) := by decide +kernel
theorem dX11_findThing_8 : decode cX11_findThing 8 = .ok (.invokevirtual 241, 3) := by decide +kernel
theorem dX11_findThing_11 : decode cX11_findThing 11 = .ok (.ifCond .eq 17, 3) := by decide +kernel
theorem dX11_findThing_14 : decode cX11_findThing 14 = .ok (.aload_n 0, 1) := by decide +kernel
theorem dX11_findThing_15 : decode cX11_findThing 15 = .ok (.getfield 25, 3) := by decide +kernel
theorem dX11_findThing_18 : decode cX11_findThing 18 = .ok (.getfield 174, 3) := by decide +kernel
theorem dX11_findThing_21 : decode cX11_findThing 21 = .ok (.iload_n 2, 1) := by decide +kernel
theorem dX11_findThing_22 : decode cX11_findThing 22 = .ok (.invokevirtual 212, 3) := by decide +kernel
theorem dX11_findThing_25 : decode cX11_findThing 25 = .ok (.ifCond .ne 9, 3) := by decide +kernel
theorem dX11_findThing_28 : decode cX11_findThing 28 = .ok (.aload_n 0, 1) := by decide +kernel
theorem dX11_findThing_29 : decode cX11_findThing 29 = .ok (.iconst 2, 1) := by decide +kernel
theorem dX11_findThing_30 : decode cX11_findThing 30 = .ok (.invokevirtual 113, 3) := by decide +kernel
theorem dX11_findThing_33 : decode cX11_findThing 33 = .ok (.ireturn, 1) := by decide +kernel
theorem dX11_findThing_34 : decode cX11_findThing 34 = .ok (.aload_n 0, 1) := by decide +kernel
theorem dX11_findThing_35 : decode cX11_findThing 35 = .ok (.getfield 25, 3) := by decide +kernel
theorem dX11_findThing_38 : decode cX11_findThing 38 = .ok (.getfield 174, 3) := by decide +kernel
theorem dX11_findThing_41 : decode cX11_findThing 41 = .ok (.iload_n 1, 1) := by decide +kernel
theorem dX11_findThing_42 : decode cX11_findThing 42 = .ok (.invokevirtual 244, 3) := by decide +kernel
theorem dX11_findThing_45 : decode cX11_findThing 45 = .ok (.ifCond .ne 10, 3) := by decide +kernel
theorem dX11_findThing_48 : decode cX11_findThing 48 = .ok (.aload_n 0, 1) := by decide +kernel
theorem dX11_findThing_49 : decode cX11_findThing 49 = .ok (.bipush 9, 2) := by decide +kernel
theorem dX11_findThing_51 : decode cX11_findThing 51 = .ok (.invokevirtual 113, 3) := by decide +kernel
theorem dX11_findThing_54 : decode cX11_findThing 54 = .ok (.ireturn, 1) := by decide +kernel
theorem dX11_findThing_55 : decode cX11_findThing 55 = .ok (.aload_n 0, 1) := by decide +kernel
theorem dX11_findThing_56 : decode cX11_findThing 56 = .ok (.getfield 36, 3) := by decide +kernel
theorem dX11_findThing_59 : decode cX11_findThing 59 = .ok (.aload_n 0, 1) := by decide +kernel
theorem dX11_findThing_60 : decode cX11_findThing 60 = .ok (.getfield 25, 3) := by decide +kernel
theorem dX11_findThing_63 : decode cX11_findThing 63 = .ok (.getfield 174, 3) := by decide +kernel
theorem dX11_findThing_66 : decode cX11_findThing 66 = .ok (.iload_n 1, 1) := by decide +kernel
theorem dX11_findThing_67 : decode cX11_findThing 67 = .ok (.invokevirtual 265, 3) := by decide +kernel
theorem dX11_findThing_70 : decode cX11_findThing 70 = .ok (.aload_n 0, 1) := by decide +kernel
theorem dX11_findThing_71 : decode cX11_findThing 71 = .ok (.getfield 36, 3) := by decide +kernel
theorem dX11_findThing_74 : decode cX11_findThing 74 = .ok (.iload_n 2, 1) := by decide +kernel
theorem dX11_findThing_75 : decode cX11_findThing 75 = .ok (.invokevirtual 278, 3) := by decide +kernel
theorem dX11_findThing_78 : decode cX11_findThing 78 = .ok (.istore_n 3, 1) := by decide +kernel
theorem dX11_findThing_79 : decode cX11_findThing 79 = .ok (.iload_n 3, 1) := by decide +kernel
theorem dX11_findThing_80 : decode cX11_findThing 80 = .ok (.iconst (-1), 1) := by decide +kernel
theorem dX11_findThing_81 : decode cX11_findThing 81 = .ok (.if_icmp .ne 12, 3) := by decide +kernel
theorem dX11_findThing_84 : decode cX11_findThing 84 = .ok (.aload_n 0, 1) := by decide +kernel
theorem dX11_findThing_85 : decode cX11_findThing 85 = .ok (.bipush 8, 2) := by decide +kernel
theorem dX11_findThing_87 : decode cX11_findThing 87 = .ok (.invokevirtual 113, 3) := by decide +kernel
theorem dX11_findThing_90 : decode cX11_findThing 90 = .ok (.goto 8, 3) := by decide +kernel
theorem dX11_findThing_93 : decode cX11_findThing 93 = .ok (.aload_n 0, 1) := by decide +kernel
theorem dX11_findThing_94 : decode cX11_findThing 94 = .ok (.iload_n 3, 1) := by decide +kernel
theorem dX11_findThing_95 : decode cX11_findThing 95 = .ok (.invokevirtual 169, 3) := by decide +kernel
theorem dX11_findThing_98 : decode cX11_findThing 98 = .ok (.ireturn, 1) := by decide +kernel
theorem dX11_says_0 : decode cX11_says 0 = .ok (.aload_n 0, 1) := by decide +kernel
theorem dX11_says_1 : decode cX11_says 1 = .ok (.iload_n 1, 1) := by decide +kernel
theorem dX11_says_2 : decode cX11_says 2 = .ok (.iload_n 2, 1) := by decide +kernel
theorem dX11_says_3 : decode cX11_says 3 = .ok (.invokevirtual 281, 3) := by decide +kernel
theorem dX11_says_6 : decode cX11_says 6 = .ok (.istore_n 3, 1) := by decide +kernel
theorem dX11_says_7 : decode cX11_says 7 = .ok (.aload_n 0, 1) := by decide +kernel
theorem dX11_says_8 : decode cX11_says 8 = .ok (.getfield 36, 3) := by decide +kernel
theorem dX11_says_11 : decode cX11_says 11 = .ok (.iload_n 3, 1) := by decide +kernel
theorem dX11_says_12 : decode cX11_says 12 = .ok (.invokevirtual 272, 3) := by decide +kernel
theorem dX11_says_15 : decode cX11_says 15 = .ok (.ifCond .eq 15, 3) := by decide +kernel
theorem dX11_says_18 : decode cX11_says 18 = .ok (.aload_n 0, 1) := by decide +kernel
theorem dX11_says_19 : decode cX11_says 19 = .ok (.getfield 36, 3) := by decide +kernel
theorem dX11_says_22 : decode cX11_says 22 = .ok (.getfield 284, 3) := by decide +kernel
theorem dX11_says_25 : decode cX11_says 25 = .ok (.iload_n 3, 1) := by decide +kernel
theorem dX11_says_26 : decode cX11_says 26 = .ok (.iaload, 1) := by decide +kernel
theorem dX11_says_27 : decode cX11_says 27 = .ok (.goto 4, 3) := by decide +kernel
theorem dX11_says_30 : decode cX11_says 30 = .ok (.iconst (-1), 1) := by decide +kernel
theorem dX11_says_31 : decode cX11_says 31 = .ok (.ireturn, 1) := by decide +kernel
theorem dX11_key_0 : decode cX11_key 0 = .ok (.aload_n 0, 1) := by decide +kernel
theorem dX11_key_1 : decode cX11_key 1 = .ok (.iload_n 1, 1) := by decide +kernel
theorem dX11_key_2 : decode cX11_key 2 = .ok (.iload_n 2, 1) := by decide +kernel
theorem dX11_key_3 : decode cX11_key 3 = .ok (.invokevirtual 281, 3) := by decide +kernel
theorem dX11_key_6 : decode cX11_key 6 = .ok (.istore_n 3, 1) := by decide +kernel
theorem dX11_key_7 : decode cX11_key 7 = .ok (.aload_n 0, 1) := by decide +kernel
theorem dX11_key_8 : decode cX11_key 8 = .ok (.getfield 36, 3) := by decide +kernel
theorem dX11_key_11 : decode cX11_key 11 = .ok (.iload_n 3, 1) := by decide +kernel
theorem dX11_key_12 : decode cX11_key 12 = .ok (.invokevirtual 272, 3) := by decide +kernel
theorem dX11_key_15 : decode cX11_key 15 = .ok (.ifCond .eq 15, 3) := by decide +kernel
theorem dX11_key_18 : decode cX11_key 18 = .ok (.aload_n 0, 1) := by decide +kernel
theorem dX11_key_19 : decode cX11_key 19 = .ok (.getfield 36, 3) := by decide +kernel
theorem dX11_key_22 : decode cX11_key 22 = .ok (.getfield 285, 3) := by decide +kernel
theorem dX11_key_25 : decode cX11_key 25 = .ok (.iload_n 3, 1) := by decide +kernel
theorem dX11_key_26 : decode cX11_key 26 = .ok (.iaload, 1) := by decide +kernel
theorem dX11_key_27 : decode cX11_key 27 = .ok (.goto 4, 3) := by decide +kernel
theorem dX11_key_30 : decode cX11_key 30 = .ok (.iconst (-1), 1) := by decide +kernel
theorem dX11_key_31 : decode cX11_key 31 = .ok (.ireturn, 1) := by decide +kernel
theorem dX11_place_0 : decode cX11_place 0 = .ok (.aload_n 0, 1) := by decide +kernel
theorem dX11_place_1 : decode cX11_place 1 = .ok (.iload_n 1, 1) := by decide +kernel
theorem dX11_place_2 : decode cX11_place 2 = .ok (.iload_n 2, 1) := by decide +kernel
theorem dX11_place_3 : decode cX11_place 3 = .ok (.invokevirtual 281, 3) := by decide +kernel
theorem dX11_place_6 : decode cX11_place 6 = .ok (.ireturn, 1) := by decide +kernel
theorem dX11_faultOfSets_0 : decode cX11_faultOfSets 0 = .ok (.aload_n 0, 1) := by decide +kernel
theorem dX11_faultOfSets_1 : decode cX11_faultOfSets 1 = .ok (.getfield 25, 3) := by decide +kernel
theorem dX11_faultOfSets_4 : decode cX11_faultOfSets 4 = .ok (.getfield 174, 3) := by decide +kernel
theorem dX11_faultOfSets_7 : decode cX11_faultOfSets 7 = .ok (.iload_n 1, 1) := by decide +kernel
theorem dX11_faultOfSets_8 : decode cX11_faultOfSets 8 = .ok (.invokevirtual 241, 3) := by decide +kernel
theorem dX11_faultOfSets_11 : decode cX11_faultOfSets 11 = .ok (.ifCond .eq 17, 3) := by decide +kernel
theorem dX11_faultOfSets_14 : decode cX11_faultOfSets 14 = .ok (.aload_n 0, 1) := by decide +kernel
theorem dX11_faultOfSets_15 : decode cX11_faultOfSets 15 = .ok (.getfield 25, 3) := by decide +kernel
theorem dX11_faultOfSets_18 : decode cX11_faultOfSets 18 = .ok (.getfield 174, 3) := by decide +kernel
theorem dX11_faultOfSets_21 : decode cX11_faultOfSets 21 = .ok (.iload_n 2, 1) := by decide +kernel
theorem dX11_faultOfSets_22 : decode cX11_faultOfSets 22 = .ok (.invokevirtual 241, 3) := by decide +kernel
theorem dX11_faultOfSets_25 : decode cX11_faultOfSets 25 = .ok (.ifCond .ne 5, 3) := by decide +kernel
theorem dX11_faultOfSets_28 : decode cX11_faultOfSets 28 = .ok (.iconst 2, 1) := by decide +kernel
theorem dX11_faultOfSets_29 : decode cX11_faultOfSets 29 = .ok (.ireturn, 1) := by decide +kernel
theorem dX11_faultOfSets_30 : decode cX11_faultOfSets 30 = .ok (.aload_n 0, 1) := by decide +kernel
theorem dX11_faultOfSets_31 : decode cX11_faultOfSets 31 = .ok (.getfield 25, 3) := by decide +kernel
theorem dX11_faultOfSets_34 : decode cX11_faultOfSets 34 = .ok (.getfield 174, 3) := by decide +kernel
theorem dX11_faultOfSets_37 : decode cX11_faultOfSets 37 = .ok (.iload_n 1, 1) := by decide +kernel
theorem dX11_faultOfSets_38 : decode cX11_faultOfSets 38 = .ok (.invokevirtual 244, 3) := by decide +kernel
theorem dX11_faultOfSets_41 : decode cX11_faultOfSets 41 = .ok (.ifCond .eq 21, 3) := by decide +kernel
theorem dX11_faultOfSets_44 : decode cX11_faultOfSets 44 = .ok (.aload_n 0, 1) := by decide +kernel
theorem dX11_faultOfSets_45 : decode cX11_faultOfSets 45 = .ok (.getfield 25, 3) := by decide +kernel
theorem dX11_faultOfSets_48 : decode cX11_faultOfSets 48 = .ok (.getfield 174, 3) := by decide +kernel
theorem dX11_faultOfSets_51 : decode cX11_faultOfSets 51 = .ok (.iload_n 2, 1) := by decide +kernel
theorem dX11_faultOfSets_52 : decode cX11_faultOfSets 52 = .ok (.invokevirtual 244, 3) := by decide +kernel
theorem dX11_faultOfSets_55 : decode cX11_faultOfSets 55 = .ok (.ifCond .eq 7, 3) := by decide +kernel
theorem dX11_faultOfSets_58 : decode cX11_faultOfSets 58 = .ok (.iconst 0, 1) := by decide +kernel
theorem dX11_faultOfSets_59 : decode cX11_faultOfSets 59 = .ok (.goto 5, 3) := by decide +kernel
theorem dX11_faultOfSets_62 : decode cX11_faultOfSets 62 = .ok (.bipush 9, 2) := by decide +kernel
theorem dX11_faultOfSets_64 : decode cX11_faultOfSets 64 = .ok (.ireturn, 1) := by decide +kernel
theorem dX11_like_0 : decode cX11_like 0 = .ok (.aload_n 0, 1) := by decide +kernel
theorem dX11_like_1 : decode cX11_like 1 = .ok (.iload_n 1, 1) := by decide +kernel
theorem dX11_like_2 : decode cX11_like 2 = .ok (.iload_n 2, 1) := by decide +kernel
theorem dX11_like_3 : decode cX11_like 3 = .ok (.invokevirtual 288, 3) := by decide +kernel
theorem dX11_like_6 : decode cX11_like 6 = .ok (.istore_n 3, 1) := by decide +kernel
theorem dX11_like_7 : decode cX11_like 7 = .ok (.iload_n 3, 1) := by decide +kernel
theorem dX11_like_8 : decode cX11_like 8 = .ok (.ifCond .eq 9, 3) := by decide +kernel
theorem dX11_like_11 : decode cX11_like 11 = .ok (.aload_n 0, 1) := by decide +kernel
theorem dX11_like_12 : decode cX11_like 12 = .ok (.iload_n 3, 1) := by decide +kernel
theorem dX11_like_13 : decode cX11_like 13 = .ok (.invokevirtual 113, 3) := by decide +kernel
theorem dX11_like_16 : decode cX11_like 16 = .ok (.ireturn, 1) := by decide +kernel
theorem dX11_like_17 : decode cX11_like 17 = .ok (.aload_n 0, 1) := by decide +kernel
theorem dX11_like_18 : decode cX11_like 18 = .ok (.getfield 36, 3) := by decide +kernel
theorem dX11_like_21 : decode cX11_like 21 = .ok (.aload_n 0, 1) := by decide +kernel
theorem dX11_like_22 : decode cX11_like 22 = .ok (.getfield 25, 3) := by decide +kernel
theorem dX11_like_25 : decode cX11_like 25 = .ok (.getfield 174, 3) := by decide +kernel
theorem dX11_like_28 : decode cX11_like 28 = .ok (.iload_n 1, 1) := by decide +kernel
theorem dX11_like_29 : decode cX11_like 29 = .ok (.invokevirtual 265, 3) := by decide +kernel
theorem dX11_like_32 : decode cX11_like 32 = .ok (.aload_n 0, 1) := by decide +kernel
theorem dX11_like_33 : decode cX11_like 33 = .ok (.getfield 40, 3) := by decide +kernel
theorem dX11_like_36 : decode cX11_like 36 = .ok (.aload_n 0, 1) := by decide +kernel
theorem dX11_like_37 : decode cX11_like 37 = .ok (.getfield 25, 3) := by decide +kernel
theorem dX11_like_40 : decode cX11_like 40 = .ok (.getfield 174, 3) := by decide +kernel
theorem dX11_like_43 : decode cX11_like 43 = .ok (.iload_n 2, 1) := by decide +kernel
theorem dX11_like_44 : decode cX11_like 44 = .ok (.invokevirtual 265, 3) := by decide +kernel
theorem dX11_like_47 : decode cX11_like 47 = .ok (.aload_n 0, 1) := by decide +kernel
theorem dX11_like_48 : decode cX11_like 48 = .ok (.getfield 36, 3) := by decide +kernel
theorem dX11_like_51 : decode cX11_like 51 = .ok (.aload_n 0, 1) := by decide +kernel
theorem dX11_like_52 : decode cX11_like 52 = .ok (.getfield 40, 3) := by decide +kernel
theorem dX11_like_55 : decode cX11_like 55 = .ok (.invokevirtual 291, 3) := by decide +kernel
theorem dX11_like_58 : decode cX11_like 58 = .ok (.ifCond .eq 22, 3) := by decide +kernel
theorem dX11_like_61 : decode cX11_like 61 = .ok (.aload_n 0, 1) := by decide +kernel
theorem dX11_like_62 : decode cX11_like 62 = .ok (.getfield 25, 3) := by decide +kernel
theorem dX11_like_65 : decode cX11_like 65 = .ok (.getfield 174, 3) := by decide +kernel
theorem dX11_like_68 : decode cX11_like 68 = .ok (.iload_n 1, 1) := by decide +kernel
theorem dX11_like_69 : decode cX11_like 69 = .ok (.iload_n 2, 1) := by decide +kernel
theorem dX11_like_70 : decode cX11_like 70 = .ok (.invokevirtual 295, 3) := by decide +kernel
theorem dX11_like_73 : decode cX11_like 73 = .ok (.ifCond .eq 7, 3) := by decide +kernel
theorem dX11_like_76 : decode cX11_like 76 = .ok (.iconst 1, 1) := by decide +kernel
theorem dX11_like_77 : decode cX11_like 77 = .ok (.goto 4, 3) := by decide +kernel
theorem dX11_like_80 : decode cX11_like 80 = .ok (.iconst 0, 1) := by decide +kernel
theorem dX11_like_81 : decode cX11_like 81 = .ok (.istore 4, 2) := by decide +kernel
theorem dX11_like_83 : decode cX11_like 83 = .ok (.aload_n 0, 1) := by decide +kernel
theorem dX11_like_84 : decode cX11_like 84 = .ok (.iload 4, 2) := by decide +kernel
theorem dX11_like_86 : decode cX11_like 86 = .ok (.ifCond .eq 7, 3) := by decide +kernel
theorem dX11_like_89 : decode cX11_like 89 = .ok (.iconst 1, 1) := by decide +kernel
theorem dX11_like_90 : decode cX11_like 90 = .ok (.goto 4, 3) := by decide +kernel
theorem dX11_like_93 : decode cX11_like 93 = .ok (.iconst 0, 1) := by decide +kernel
theorem dX11_like_94 : decode cX11_like 94 = .ok (.invokevirtual 169, 3) := by decide +kernel
theorem dX11_like_97 : decode cX11_like 97 = .ok (.ireturn, 1) := by decide +kernel
theorem dX11_apart_0 : decode cX11_apart 0 = .ok (.aload_n 0, 1) := by decide +kernel
theorem dX11_apart_1 : decode cX11_apart 1 = .ok (.iload_n 1, 1) := by decide +kernel
theorem dX11_apart_2 : decode cX11_apart 2 = .ok (.iload_n 2, 1) := by decide +kernel
theorem dX11_apart_3 : decode cX11_apart 3 = .ok (.invokevirtual 288, 3) := by decide +kernel
theorem dX11_apart_6 : decode cX11_apart 6 = .ok (.istore_n 3, 1) := by decide +kernel
theorem dX11_apart_7 : decode cX11_apart 7 = .ok (.iload_n 3, 1) := by decide +kernel
theorem dX11_apart_8 : decode cX11_apart 8 = .ok (.ifCond .eq 9, 3) := by decide +kernel
theorem dX11_apart_11 : decode cX11_apart 11 = .ok (.aload_n 0, 1) := by decide +kernel
theorem dX11_apart_12 : decode cX11_apart 12 = .ok (.iload_n 3, 1) := by decide +kernel
theorem dX11_apart_13 : decode cX11_apart 13 = .ok (.invokevirtual 113, 3) := by decide +kernel
theorem dX11_apart_16 : decode cX11_apart 16 = .ok (.ireturn, 1) := by decide +kernel
theorem dX11_apart_17 : decode cX11_apart 17 = .ok (.aload_n 0, 1) := by decide +kernel
theorem dX11_apart_18 : decode cX11_apart 18 = .ok (.getfield 36, 3) := by decide +kernel
theorem dX11_apart_21 : decode cX11_apart 21 = .ok (.aload_n 0, 1) := by decide +kernel
theorem dX11_apart_22 : decode cX11_apart 22 = .ok (.getfield 25, 3) := by decide +kernel
theorem dX11_apart_25 : decode cX11_apart 25 = .ok (.getfield 174, 3) := by decide +kernel
theorem dX11_apart_28 : decode cX11_apart 28 = .ok (.iload_n 1, 1) := by decide +kernel
theorem dX11_apart_29 : decode cX11_apart 29 = .ok (.invokevirtual 265, 3) := by decide +kernel
theorem dX11_apart_32 : decode cX11_apart 32 = .ok (.aload_n 0, 1) := by decide +kernel
theorem dX11_apart_33 : decode cX11_apart 33 = .ok (.getfield 40, 3) := by decide +kernel
theorem dX11_apart_36 : decode cX11_apart 36 = .ok (.aload_n 0, 1) := by decide +kernel
theorem dX11_apart_37 : decode cX11_apart 37 = .ok (.getfield 25, 3) := by decide +kernel
theorem dX11_apart_40 : decode cX11_apart 40 = .ok (.getfield 174, 3) := by decide +kernel
theorem dX11_apart_43 : decode cX11_apart 43 = .ok (.iload_n 2, 1) := by decide +kernel
theorem dX11_apart_44 : decode cX11_apart 44 = .ok (.invokevirtual 265, 3) := by decide +kernel
theorem dX11_apart_47 : decode cX11_apart 47 = .ok (.aload_n 0, 1) := by decide +kernel
theorem dX11_apart_48 : decode cX11_apart 48 = .ok (.getfield 36, 3) := by decide +kernel
theorem dX11_apart_51 : decode cX11_apart 51 = .ok (.aload_n 0, 1) := by decide +kernel
theorem dX11_apart_52 : decode cX11_apart 52 = .ok (.getfield 40, 3) := by decide +kernel
theorem dX11_apart_55 : decode cX11_apart 55 = .ok (.invokevirtual 298, 3) := by decide +kernel
theorem dX11_apart_58 : decode cX11_apart 58 = .ok (.istore 4, 2) := by decide +kernel
theorem dX11_apart_60 : decode cX11_apart 60 = .ok (.iload 4, 2) := by decide +kernel
theorem dX11_apart_62 : decode cX11_apart 62 = .ok (.iconst (-1), 1) := by decide +kernel
theorem dX11_apart_63 : decode cX11_apart 63 = .ok (.if_icmp .ne 12, 3) := by decide +kernel
theorem dX11_apart_66 : decode cX11_apart 66 = .ok (.aload_n 0, 1) := by decide +kernel
theorem dX11_apart_67 : decode cX11_apart 67 = .ok (.bipush 8, 2) := by decide +kernel
theorem dX11_apart_69 : decode cX11_apart 69 = .ok (.invokevirtual 113, 3) := by decide +kernel
theorem dX11_apart_72 : decode cX11_apart 72 = .ok (.goto 9, 3) := by decide +kernel
theorem dX11_apart_75 : decode cX11_apart 75 = .ok (.aload_n 0, 1) := by decide +kernel
theorem dX11_apart_76 : decode cX11_apart 76 = .ok (.iload 4, 2) := by decide +kernel
theorem dX11_apart_78 : decode cX11_apart 78 = .ok (.invokevirtual 169, 3) := by decide +kernel
theorem dX11_apart_81 : decode cX11_apart 81 = .ok (.ireturn, 1) := by decide +kernel
theorem dX11_quarrels_0 : decode cX11_quarrels 0 = .ok (.aload_n 0, 1) := by decide +kernel
theorem dX11_quarrels_1 : decode cX11_quarrels 1 = .ok (.getfield 25, 3) := by decide +kernel
theorem dX11_quarrels_4 : decode cX11_quarrels 4 = .ok (.getfield 174, 3) := by decide +kernel
theorem dX11_quarrels_7 : decode cX11_quarrels 7 = .ok (.iload_n 1, 1) := by decide +kernel
theorem dX11_quarrels_8 : decode cX11_quarrels 8 = .ok (.invokevirtual 241, 3) := by decide +kernel
theorem dX11_quarrels_11 : decode cX11_quarrels 11 = .ok (.ifCond .ne 9, 3) := by decide +kernel
theorem dX11_quarrels_14 : decode cX11_quarrels 14 = .ok (.aload_n 0, 1) := by decide +kernel
theorem dX11_quarrels_15 : decode cX11_quarrels 15 = .ok (.iconst 2, 1) := by decide +kernel
theorem dX11_quarrels_16 : decode cX11_quarrels 16 = .ok (.invokevirtual 113, 3) := by decide +kernel
theorem dX11_quarrels_19 : decode cX11_quarrels 19 = .ok (.ireturn, 1) := by decide +kernel
theorem dX11_quarrels_20 : decode cX11_quarrels 20 = .ok (.aload_n 0, 1) := by decide +kernel
theorem dX11_quarrels_21 : decode cX11_quarrels 21 = .ok (.aload_n 0, 1) := by decide +kernel
theorem dX11_quarrels_22 : decode cX11_quarrels 22 = .ok (.getfield 25, 3) := by decide +kernel
theorem dX11_quarrels_25 : decode cX11_quarrels 25 = .ok (.getfield 174, 3) := by decide +kernel
theorem dX11_quarrels_28 : decode cX11_quarrels 28 = .ok (.iload_n 1, 1) := by decide +kernel
theorem dX11_quarrels_29 : decode cX11_quarrels 29 = .ok (.invokevirtual 302, 3) := by decide +kernel
theorem dX11_quarrels_32 : decode cX11_quarrels 32 = .ok (.invokevirtual 169, 3) := by decide +kernel
theorem dX11_quarrels_35 : decode cX11_quarrels 35 = .ok (.ireturn, 1) := by decide +kernel
theorem dX11_with_0 : decode cX11_with 0 = .ok (.aload_n 0, 1) := by decide +kernel
theorem dX11_with_1 : decode cX11_with 1 = .ok (.getfield 25, 3) := by decide +kernel
theorem dX11_with_4 : decode cX11_with 4 = .ok (.getfield 174, 3) := by decide +kernel
theorem dX11_with_7 : decode cX11_with 7 = .ok (.iload_n 1, 1) := by decide +kernel
theorem dX11_with_8 : decode cX11_with 8 = .ok (.invokevirtual 241, 3) := by decide +kernel
theorem dX11_with_11 : decode cX11_with 11 = .ok (.ifCond .eq 17, 3) := by decide +kernel
theorem dX11_with_14 : decode cX11_with 14 = .ok (.aload_n 0, 1) := by decide +kernel
theorem dX11_with_15 : decode cX11_with 15 = .ok (.getfield 25, 3) := by decide +kernel
theorem dX11_with_18 : decode cX11_with 18 = .ok (.getfield 174, 3) := by decide +kernel
theorem dX11_with_21 : decode cX11_with 21 = .ok (.iload_n 2, 1) := by decide +kernel
theorem dX11_with_22 : decode cX11_with 22 = .ok (.invokevirtual 212, 3) := by decide +kernel
theorem dX11_with_25 : decode cX11_with 25 = .ok (.ifCond .ne 9, 3) := by decide +kernel
theorem dX11_with_28 : decode cX11_with 28 = .ok (.aload_n 0, 1) := by decide +kernel
theorem dX11_with_29 : decode cX11_with 29 = .ok (.iconst 2, 1) := by decide +kernel
theorem dX11_with_30 : decode cX11_with 30 = .ok (.invokevirtual 113, 3) := by decide +kernel
theorem dX11_with_33 : decode cX11_with 33 = .ok (.ireturn, 1) := by decide +kernel
theorem dX11_with_34 : decode cX11_with 34 = .ok (.iload_n 1, 1) := by decide +kernel
theorem dX11_with_35 : decode cX11_with 35 = .ok (.iload_n 2, 1) := by decide +kernel
theorem dX11_with_36 : decode cX11_with 36 = .ok (.invokestatic 305, 3) := by decide +kernel
theorem dX11_with_39 : decode cX11_with 39 = .ok (.ifCond .ne 10, 3) := by decide +kernel
theorem dX11_with_42 : decode cX11_with 42 = .ok (.aload_n 0, 1) := by decide +kernel
theorem dX11_with_43 : decode cX11_with 43 = .ok (.bipush 8, 2) := by decide +kernel
theorem dX11_with_45 : decode cX11_with 45 = .ok (.invokevirtual 113, 3) := by decide +kernel
theorem dX11_with_48 : decode cX11_with 48 = .ok (.ireturn, 1) := by decide +kernel
theorem dX11_with_49 : decode cX11_with 49 = .ok (.aload_n 0, 1) := by decide +kernel
theorem dX11_with_50 : decode cX11_with 50 = .ok (.aload_n 0, 1) := by decide +kernel
theorem dX11_with_51 : decode cX11_with 51 = .ok (.getfield 25, 3) := by decide +kernel
theorem dX11_with_54 : decode cX11_with 54 = .ok (.getfield 174, 3) := by decide +kernel
theorem dX11_with_57 : decode cX11_with 57 = .ok (.iload_n 1, 1) := by decide +kernel
theorem dX11_with_58 : decode cX11_with 58 = .ok (.iload_n 2, 1) := by decide +kernel
theorem dX11_with_59 : decode cX11_with 59 = .ok (.invokevirtual 308, 3) := by decide +kernel
theorem dX11_with_62 : decode cX11_with 62 = .ok (.invokevirtual 169, 3) := by decide +kernel
theorem dX11_with_65 : decode cX11_with 65 = .ok (.ireturn, 1) := by decide +kernel
theorem dX11_leastOut_0 : decode cX11_leastOut 0 = .ok (.aload_n 0, 1) := by decide +kernel
theorem dX11_leastOut_1 : decode cX11_leastOut 1 = .ok (.iload_n 1, 1) := by decide +kernel
theorem dX11_leastOut_2 : decode cX11_leastOut 2 = .ok (.invokevirtual 262, 3) := by decide +kernel
theorem dX11_leastOut_5 : decode cX11_leastOut 5 = .ok (.istore_n 2, 1) := by decide +kernel
theorem dX11_leastOut_6 : decode cX11_leastOut 6 = .ok (.iload_n 2, 1) := by decide +kernel
theorem dX11_leastOut_7 : decode cX11_leastOut 7 = .ok (.ifCond .eq 9, 3) := by decide +kernel
theorem dX11_leastOut_10 : decode cX11_leastOut 10 = .ok (.aload_n 0, 1) := by decide +kernel
theorem dX11_leastOut_11 : decode cX11_leastOut 11 = .ok (.iload_n 2, 1) := by decide +kernel
theorem dX11_leastOut_12 : decode cX11_leastOut 12 = .ok (.invokevirtual 113, 3) := by decide +kernel
theorem dX11_leastOut_15 : decode cX11_leastOut 15 = .ok (.ireturn, 1) := by decide +kernel
theorem dX11_leastOut_16 : decode cX11_leastOut 16 = .ok (.aload_n 0, 1) := by decide +kernel
theorem dX11_leastOut_17 : decode cX11_leastOut 17 = .ok (.new 311, 3) := by decide +kernel
theorem dX11_leastOut_20 : decode cX11_leastOut 20 = .ok (.dup, 1) := by decide +kernel
theorem dX11_leastOut_21 : decode cX11_leastOut 21 = .ok (.aload_n 0, 1) := by decide +kernel
theorem dX11_leastOut_22 : decode cX11_leastOut 22 = .ok (.getfield 25, 3) := by decide +kernel
theorem dX11_leastOut_25 : decode cX11_leastOut 25 = .ok (.getfield 174, 3) := by decide +kernel
theorem dX11_leastOut_28 : decode cX11_leastOut 28 = .ok (.iload_n 1, 1) := by decide +kernel
theorem dX11_leastOut_29 : decode cX11_leastOut 29 = .ok (.invokespecial 313, 3) := by decide +kernel
theorem dX11_leastOut_32 : decode cX11_leastOut 32 = .ok (.invokevirtual 315, 3) := by decide +kernel
theorem dX11_leastOut_35 : decode cX11_leastOut 35 = .ok (.invokevirtual 169, 3) := by decide +kernel
theorem dX11_leastOut_38 : decode cX11_leastOut 38 = .ok (.ireturn, 1) := by decide +kernel
theorem dX11_mostQuiet_0 : decode cX11_mostQuiet 0 = .ok (.new 311, 3) := by decide +kernel
theorem dX11_mostQuiet_3 : decode cX11_mostQuiet 3 = .ok (.dup, 1) := by decide +kernel
theorem dX11_mostQuiet_4 : decode cX11_mostQuiet 4 = .ok (.aload_n 0, 1) := by decide +kernel
theorem dX11_mostQuiet_5 : decode cX11_mostQuiet 5 = .ok (.getfield 25, 3) := by decide +kernel
theorem dX11_mostQuiet_8 : decode cX11_mostQuiet 8 = .ok (.getfield 174, 3) := by decide +kernel
theorem dX11_mostQuiet_11 : decode cX11_mostQuiet 11 = .ok (.aload_n 0, 1) := by decide +kernel
theorem dX11_mostQuiet_12 : decode cX11_mostQuiet 12 = .ok (.getfield 25, 3) := by decide +kernel
theorem dX11_mostQuiet_15 : decode cX11_mostQuiet 15 = .ok (.getfield 174, 3) := by decide +kernel
theorem dX11_mostQuiet_18 : decode cX11_mostQuiet 18 = .ok (.invokevirtual 318, 3) := by decide +kernel
theorem dX11_mostQuiet_21 : decode cX11_mostQuiet 21 = .ok (.invokespecial 313, 3) := by decide +kernel
theorem dX11_mostQuiet_24 : decode cX11_mostQuiet 24 = .ok (.invokevirtual 315, 3) := by decide +kernel
theorem dX11_mostQuiet_27 : decode cX11_mostQuiet 27 = .ok (.istore_n 1, 1) := by decide +kernel
theorem dX11_mostQuiet_28 : decode cX11_mostQuiet 28 = .ok (.aload_n 0, 1) := by decide +kernel
theorem dX11_mostQuiet_29 : decode cX11_mostQuiet 29 = .ok (.aload_n 0, 1) := by decide +kernel
theorem dX11_mostQuiet_30 : decode cX11_mostQuiet 30 = .ok (.getfield 25, 3) := by decide +kernel
theorem dX11_mostQuiet_33 : decode cX11_mostQuiet 33 = .ok (.getfield 174, 3) := by decide +kernel
theorem dX11_mostQuiet_36 : decode cX11_mostQuiet 36 = .ok (.getfield 164, 3) := by decide +kernel
theorem dX11_mostQuiet_39 : decode cX11_mostQuiet 39 = .ok (.iload_n 1, 1) := by decide +kernel
theorem dX11_mostQuiet_40 : decode cX11_mostQuiet 40 = .ok (.invokestatic 203, 3) := by decide +kernel
theorem dX11_mostQuiet_43 : decode cX11_mostQuiet 43 = .ok (.isub, 1) := by decide +kernel
theorem dX11_mostQuiet_44 : decode cX11_mostQuiet 44 = .ok (.invokevirtual 169, 3) := by decide +kernel
theorem dX11_mostQuiet_47 : decode cX11_mostQuiet 47 = .ok (.ireturn, 1) := by decide +kernel
theorem dX11_orders_0 : decode cX11_orders 0 = .ok (.aload_n 0, 1) := by decide +kernel
theorem dX11_orders_1 : decode cX11_orders 1 = .ok (.iload_n 1, 1) := by decide +kernel
theorem dX11_orders_2 : decode cX11_orders 2 = .ok (.invokevirtual 262, 3) := by decide +kernel
theorem dX11_orders_5 : decode cX11_orders 5 = .ok (.istore_n 2, 1) := by decide +kernel
theorem dX11_orders_6 : decode cX11_orders 6 = .ok (.iload_n 2, 1) := by decide +kernel
theorem dX11_orders_7 : decode cX11_orders 7 = .ok (.ifCond .eq 10, 3) := by decide +kernel
theorem dX11_orders_10 : decode cX11_orders 10 = .ok (.aload_n 0, 1) := by decide +kernel
theorem dX11_orders_11 : decode cX11_orders 11 = .ok (.iload_n 2, 1) := by decide +kernel
theorem dX11_orders_12 : decode cX11_orders 12 = .ok (.invokevirtual 113, 3) := by decide +kernel
theorem dX11_orders_15 : decode cX11_orders 15 = .ok (.i2l, 1) := by decide +kernel
theorem dX11_orders_16 : decode cX11_orders 16 = .ok (.lreturn, 1) := by decide +kernel
theorem dX11_orders_17 : decode cX11_orders 17 = .ok (.aload_n 0, 1) := by decide +kernel
theorem dX11_orders_18 : decode cX11_orders 18 = .ok (.aload_n 0, 1) := by decide +kernel
theorem dX11_orders_19 : decode cX11_orders 19 = .ok (.getfield 46, 3) := by decide +kernel
theorem dX11_orders_22 : decode cX11_orders 22 = .ok (.aload_n 0, 1) := by decide +kernel
theorem dX11_orders_23 : decode cX11_orders 23 = .ok (.getfield 25, 3) := by decide +kernel
theorem dX11_orders_26 : decode cX11_orders 26 = .ok (.getfield 174, 3) := by decide +kernel
theorem dX11_orders_29 : decode cX11_orders 29 = .ok (.iload_n 1, 1) := by decide +kernel
theorem dX11_orders_30 : decode cX11_orders 30 = .ok (.invokevirtual 321, 3) := by decide +kernel
theorem dX11_orders_33 : decode cX11_orders 33 = .ok (.invokevirtual 121, 3) := by decide +kernel
theorem dX11_orders_36 : decode cX11_orders 36 = .ok (.lreturn, 1) := by decide +kernel
theorem dX11_ahead_0 : decode cX11_ahead 0 = .ok (.aload_n 0, 1) := by decide +kernel
theorem dX11_ahead_1 : decode cX11_ahead 1 = .ok (.getfield 25, 3) := by decide +kernel
theorem dX11_ahead_4 : decode cX11_ahead 4 = .ok (.getfield 174, 3) := by decide +kernel
theorem dX11_ahead_7 : decode cX11_ahead 7 = .ok (.astore 4, 2) := by decide +kernel
theorem dX11_ahead_9 : decode cX11_ahead 9 = .ok (.aload 4, 2) := by decide +kernel
theorem dX11_ahead_11 : decode cX11_ahead 11 = .ok (.iload_n 1, 1) := by decide +kernel
theorem dX11_ahead_12 : decode cX11_ahead 12 = .ok (.invokevirtual 241, 3) := by decide +kernel
theorem dX11_ahead_15 : decode cX11_ahead 15 = .ok (.ifCond .eq 21, 3) := by decide +kernel
theorem dX11_ahead_18 : decode cX11_ahead 18 = .ok (.aload 4, 2) := by decide +kernel
theorem dX11_ahead_20 : decode cX11_ahead 20 = .ok (.iload_n 2, 1) := by decide +kernel
theorem dX11_ahead_21 : decode cX11_ahead 21 = .ok (.invokevirtual 212, 3) := by decide +kernel
theorem dX11_ahead_24 : decode cX11_ahead 24 = .ok (.ifCond .eq 12, 3) := by decide +kernel
theorem dX11_ahead_27 : decode cX11_ahead 27 = .ok (.aload 4, 2) := by decide +kernel
theorem dX11_ahead_29 : decode cX11_ahead 29 = .ok (.iload_n 3, 1) := by decide +kernel
theorem dX11_ahead_30 : decode cX11_ahead 30 = .ok (.invokevirtual 212, 3) := by decide +kernel
theorem dX11_ahead_33 : decode cX11_ahead 33 = .ok (.ifCond .ne 9, 3) := by decide +kernel
theorem dX11_ahead_36 : decode cX11_ahead 36 = .ok (.aload_n 0, 1) := by decide +kernel
theorem dX11_ahead_37 : decode cX11_ahead 37 = .ok (.iconst 2, 1) := by decide +kernel
theorem dX11_ahead_38 : decode cX11_ahead 38 = .ok (.invokevirtual 95, 3) := by decide +kernel
theorem dX11_ahead_41 : decode cX11_ahead 41 = .ok (.ireturn, 1) := by decide +kernel
theorem dX11_ahead_42 : decode cX11_ahead 42 = .ok (.iload_n 2, 1) := by decide +kernel
theorem dX11_ahead_43 : decode cX11_ahead 43 = .ok (.iload_n 3, 1) := by decide +kernel
theorem dX11_ahead_44 : decode cX11_ahead 44 = .ok (.if_icmp .eq 19, 3) := by decide +kernel
theorem dX11_ahead_47 : decode cX11_ahead 47 = .ok (.iload_n 1, 1) := by decide +kernel
theorem dX11_ahead_48 : decode cX11_ahead 48 = .ok (.iload_n 2, 1) := by decide +kernel
theorem dX11_ahead_49 : decode cX11_ahead 49 = .ok (.invokestatic 305, 3) := by decide +kernel
theorem dX11_ahead_52 : decode cX11_ahead 52 = .ok (.ifCond .eq 11, 3) := by decide +kernel
theorem dX11_ahead_55 : decode cX11_ahead 55 = .ok (.iload_n 1, 1) := by decide +kernel
theorem dX11_ahead_56 : decode cX11_ahead 56 = .ok (.iload_n 3, 1) := by decide +kernel
theorem dX11_ahead_57 : decode cX11_ahead 57 = .ok (.invokestatic 305, 3) := by decide +kernel
theorem dX11_ahead_60 : decode cX11_ahead 60 = .ok (.ifCond .ne 9, 3) := by decide +kernel
theorem dX11_ahead_63 : decode cX11_ahead 63 = .ok (.aload_n 0, 1) := by decide +kernel
theorem dX11_ahead_64 : decode cX11_ahead 64 = .ok (.iconst 2, 1) := by decide +kernel
theorem dX11_ahead_65 : decode cX11_ahead 65 = .ok (.invokevirtual 95, 3) := by decide +kernel
theorem dX11_ahead_68 : decode cX11_ahead 68 = .ok (.ireturn, 1) := by decide +kernel
theorem dX11_ahead_69 : decode cX11_ahead 69 = .ok (.aload 4, 2) := by decide +kernel
theorem dX11_ahead_71 : decode cX11_ahead 71 = .ok (.iload_n 1, 1) := by decide +kernel
theorem dX11_ahead_72 : decode cX11_ahead 72 = .ok (.invokevirtual 244, 3) := by decide +kernel
theorem dX11_ahead_75 : decode cX11_ahead 75 = .ok (.ifCond .ne 10, 3) := by decide +kernel
theorem dX11_ahead_78 : decode cX11_ahead 78 = .ok (.aload_n 0, 1) := by decide +kernel
theorem dX11_ahead_79 : decode cX11_ahead 79 = .ok (.bipush 9, 2) := by decide +kernel
theorem dX11_ahead_81 : decode cX11_ahead 81 = .ok (.invokevirtual 95, 3) := by decide +kernel
theorem dX11_ahead_84 : decode cX11_ahead 84 = .ok (.ireturn, 1) := by decide +kernel
theorem dX11_ahead_85 : decode cX11_ahead 85 = .ok (.aload_n 0, 1) := by decide +kernel
theorem dX11_ahead_86 : decode cX11_ahead 86 = .ok (.aload_n 0, 1) := by decide +kernel
theorem dX11_ahead_87 : decode cX11_ahead 87 = .ok (.getfield 46, 3) := by decide +kernel
theorem dX11_ahead_90 : decode cX11_ahead 90 = .ok (.aload 4, 2) := by decide +kernel
theorem dX11_ahead_92 : decode cX11_ahead 92 = .ok (.iload_n 1, 1) := by decide +kernel
theorem dX11_ahead_93 : decode cX11_ahead 93 = .ok (.iload_n 2, 1) := by decide +kernel
theorem dX11_ahead_94 : decode cX11_ahead 94 = .ok (.iload_n 3, 1) := by decide +kernel
theorem dX11_ahead_95 : decode cX11_ahead 95 = .ok (.invokevirtual 325, 3) := by decide +kernel
theorem dX11_ahead_98 : decode cX11_ahead 98 = .ok (.aload_n 0, 1) := by decide +kernel
theorem dX11_ahead_99 : decode cX11_ahead 99 = .ok (.getfield 46, 3) := by decide +kernel
theorem dX11_ahead_102 : decode cX11_ahead 102 = .ok (.aload 4, 2) := by decide +kernel
theorem dX11_ahead_104 : decode cX11_ahead 104 = .ok (.iload_n 1, 1) := by decide +kernel
theorem dX11_ahead_105 : decode cX11_ahead 105 = .ok (.invokevirtual 321, 3) := by decide +kernel
theorem dX11_ahead_108 : decode cX11_ahead 108 = .ok (.invokevirtual 329, 3) := by decide +kernel
theorem dX11_ahead_111 : decode cX11_ahead 111 = .ok (.aload_n 0, 1) := by decide +kernel
theorem dX11_ahead_112 : decode cX11_ahead 112 = .ok (.invokevirtual 102, 3) := by decide +kernel
theorem dX11_ahead_115 : decode cX11_ahead 115 = .ok (.ireturn, 1) := by decide +kernel
theorem dX11_tellFraction_0 : decode cX11_tellFraction 0 = .ok (.lload_n 1, 1) := by decide +kernel
theorem dX11_tellFraction_1 : decode cX11_tellFraction 1 = .ok (.lload_n 3, 1) := by decide +kernel
theorem dX11_tellFraction_2 : decode cX11_tellFraction 2 = .ok (.invokestatic 333, 3) := by decide +kernel
theorem dX11_tellFraction_5 : decode cX11_tellFraction 5 = .ok (.lstore 5, 2) := by decide +kernel
theorem dX11_tellFraction_7 : decode cX11_tellFraction 7 = .ok (.lload 5, 2) := by decide +kernel
theorem dX11_tellFraction_9 : decode cX11_tellFraction 9 = .ok (.lconst 0, 1) := by decide +kernel
theorem dX11_tellFraction_10 : decode cX11_tellFraction 10 = .ok (.lcmp, 1) := by decide +kernel
theorem dX11_tellFraction_11 : decode cX11_tellFraction 11 = .ok (.ifCond .le 19, 3) := by decide +kernel
theorem dX11_tellFraction_14 : decode cX11_tellFraction 14 = .ok (.aload_n 0, 1) := by decide +kernel
theorem dX11_tellFraction_15 : decode cX11_tellFraction 15 = .ok (.lload_n 1, 1) := by decide +kernel
theorem dX11_tellFraction_16 : decode cX11_tellFraction 16 = .ok (.lload 5, 2) := by decide +kernel
theorem dX11_tellFraction_18 : decode cX11_tellFraction 18 = .ok (.ldiv, 1) := by decide +kernel
theorem dX11_tellFraction_19 : decode cX11_tellFraction 19 = .ok (.putfield 72, 3) := by decide +kernel
theorem dX11_tellFraction_22 : decode cX11_tellFraction 22 = .ok (.aload_n 0, 1) := by decide +kernel
theorem dX11_tellFraction_23 : decode cX11_tellFraction 23 = .ok (.lload_n 3, 1) := by decide +kernel
theorem dX11_tellFraction_24 : decode cX11_tellFraction 24 = .ok (.lload 5, 2) := by decide +kernel
theorem dX11_tellFraction_26 : decode cX11_tellFraction 26 = .ok (.ldiv, 1) := by decide +kernel
theorem dX11_tellFraction_27 : decode cX11_tellFraction 27 = .ok (.putfield 76, 3) := by decide +kernel
theorem dX11_tellFraction_30 : decode cX11_tellFraction 30 = .ok (.return_, 1) := by decide +kernel
theorem dX11_commonDivisor_0 : decode cX11_commonDivisor 0 = .ok (.lload_n 0, 1) := by decide +kernel
theorem dX11_commonDivisor_1 : decode cX11_commonDivisor 1 = .ok (.lstore 4, 2) := by decide +kernel
theorem dX11_commonDivisor_3 : decode cX11_commonDivisor 3 = .ok (.lload_n 2, 1) := by decide +kernel
theorem dX11_commonDivisor_4 : decode cX11_commonDivisor 4 = .ok (.lstore 6, 2) := by decide +kernel
theorem dX11_commonDivisor_6 : decode cX11_commonDivisor 6 = .ok (.iconst 0, 1) := by decide +kernel
theorem dX11_commonDivisor_7 : decode cX11_commonDivisor 7 = .ok (.istore 8, 2) := by decide +kernel
theorem dX11_commonDivisor_9 : decode cX11_commonDivisor 9 = .ok (.iload 8, 2) := by decide +kernel
theorem dX11_commonDivisor_11 : decode cX11_commonDivisor 11 = .ok (.sipush 200, 3) := by decide +kernel
theorem dX11_commonDivisor_14 : decode cX11_commonDivisor 14 = .ok (.if_icmp .ge 31, 3) := by decide +kernel
theorem dX11_commonDivisor_17 : decode cX11_commonDivisor 17 = .ok (.lload 6, 2) := by decide +kernel
theorem dX11_commonDivisor_19 : decode cX11_commonDivisor 19 = .ok (.lconst 0, 1) := by decide +kernel
theorem dX11_commonDivisor_20 : decode cX11_commonDivisor 20 = .ok (.lcmp, 1) := by decide +kernel
theorem dX11_commonDivisor_21 : decode cX11_commonDivisor 21 = .ok (.ifCond .eq 24, 3) := by decide +kernel
theorem dX11_commonDivisor_24 : decode cX11_commonDivisor 24 = .ok (.lload 4, 2) := by decide +kernel
theorem dX11_commonDivisor_26 : decode cX11_commonDivisor 26 = .ok (.lload 6, 2) := by decide +kernel
theorem dX11_commonDivisor_28 : decode cX11_commonDivisor 28 = .ok (.lrem, 1) := by decide +kernel
theorem dX11_commonDivisor_29 : decode cX11_commonDivisor 29 = .ok (.lstore 9, 2) := by decide +kernel
theorem dX11_commonDivisor_31 : decode cX11_commonDivisor 31 = .ok (.lload 6, 2) := by decide +kernel
theorem dX11_commonDivisor_33 : decode cX11_commonDivisor 33 = .ok (.lstore 4, 2) := by decide +kernel
theorem dX11_commonDivisor_35 : decode cX11_commonDivisor 35 = .ok (.lload 9, 2) := by decide +kernel
theorem dX11_commonDivisor_37 : decode cX11_commonDivisor 37 = .ok (.lstore 6, 2) := by decide +kernel
theorem dX11_commonDivisor_39 : decode cX11_commonDivisor 39 = .ok (.iinc 8 1, 3) := by decide +kernel
theorem dX11_commonDivisor_42 : decode cX11_commonDivisor 42 = .ok (.goto (-33), 3) := by decide +kernel
theorem dX11_commonDivisor_45 : decode cX11_commonDivisor 45 = .ok (.lload 4, 2) := by decide +kernel
theorem dX11_commonDivisor_47 : decode cX11_commonDivisor 47 = .ok (.lreturn, 1) := by decide +kernel
theorem dX11_ordered_0 : decode cX11_ordered 0 = .ok (.aload_n 0, 1) := by decide +kernel
theorem dX11_ordered_1 : decode cX11_ordered 1 = .ok (.iload_n 1, 1) := by decide +kernel
theorem dX11_ordered_2 : decode cX11_ordered 2 = .ok (.invokevirtual 262, 3) := by decide +kernel
theorem dX11_ordered_5 : decode cX11_ordered 5 = .ok (.istore 4, 2) := by decide +kernel
theorem dX11_ordered_7 : decode cX11_ordered 7 = .ok (.iload 4, 2) := by decide +kernel
theorem dX11_ordered_9 : decode cX11_ordered 9 = .ok (.ifCond .eq 10, 3) := by decide +kernel
theorem dX11_ordered_12 : decode cX11_ordered 12 = .ok (.aload_n 0, 1) := by decide +kernel
theorem dX11_ordered_13 : decode cX11_ordered 13 = .ok (.iload 4, 2) := by decide +kernel
theorem dX11_ordered_15 : decode cX11_ordered 15 = .ok (.invokevirtual 113, 3) := by decide +kernel
theorem dX11_ordered_18 : decode cX11_ordered 18 = .ok (.ireturn, 1) := by decide +kernel
theorem dX11_ordered_19 : decode cX11_ordered 19 = .ok (.lload_n 2, 1) := by decide +kernel
theorem dX11_ordered_20 : decode cX11_ordered 20 = .ok (.lconst 0, 1) := by decide +kernel
theorem dX11_ordered_21 : decode cX11_ordered 21 = .ok (.lcmp, 1) := by decide +kernel
theorem dX11_ordered_22 : decode cX11_ordered 22 = .ok (.ifCond .lt 23, 3) := by decide +kernel
theorem dX11_ordered_25 : decode cX11_ordered 25 = .ok (.lload_n 2, 1) := by decide +kernel
theorem dX11_ordered_26 : decode cX11_ordered 26 = .ok (.aload_n 0, 1) := by decide +kernel
theorem dX11_ordered_27 : decode cX11_ordered 27 = .ok (.getfield 46, 3) := by decide +kernel
theorem dX11_ordered_30 : decode cX11_ordered 30 = .ok (.aload_n 0, 1) := by decide +kernel
theorem dX11_ordered_31 : decode cX11_ordered 31 = .ok (.getfield 25, 3) := by decide +kernel
theorem dX11_ordered_34 : decode cX11_ordered 34 = .ok (.getfield 174, 3) := by decide +kernel
theorem dX11_ordered_37 : decode cX11_ordered 37 = .ok (.iload_n 1, 1) := by decide +kernel
theorem dX11_ordered_38 : decode cX11_ordered 38 = .ok (.invokevirtual 321, 3) := by decide +kernel
theorem dX11_ordered_41 : decode cX11_ordered 41 = .ok (.lcmp, 1) := by decide +kernel
theorem dX11_ordered_42 : decode cX11_ordered 42 = .ok (.ifCond .lt 9, 3) := by decide +kernel
theorem dX11_ordered_45 : decode cX11_ordered 45 = .ok (.aload_n 0, 1) := by decide +kernel
theorem dX11_ordered_46 : decode cX11_ordered 46 = .ok (.iconst 5, 1) := by decide +kernel
theorem dX11_ordered_47 : decode cX11_ordered 47 = .ok (.invokevirtual 113, 3) := by decide +kernel
theorem dX11_ordered_50 : decode cX11_ordered 50 = .ok (.ireturn, 1) := by decide +kernel
theorem dX11_ordered_51 : decode cX11_ordered 51 = .ok (.aload_n 0, 1) := by decide +kernel
theorem dX11_ordered_52 : decode cX11_ordered 52 = .ok (.getfield 25, 3) := by decide +kernel
theorem dX11_ordered_55 : decode cX11_ordered 55 = .ok (.aload_n 0, 1) := by decide +kernel
theorem dX11_ordered_56 : decode cX11_ordered 56 = .ok (.getfield 46, 3) := by decide +kernel
theorem dX11_ordered_59 : decode cX11_ordered 59 = .ok (.lload_n 2, 1) := by decide +kernel
theorem dX11_ordered_60 : decode cX11_ordered 60 = .ok (.aload_n 0, 1) := by decide +kernel
theorem dX11_ordered_61 : decode cX11_ordered 61 = .ok (.getfield 25, 3) := by decide +kernel
theorem dX11_ordered_64 : decode cX11_ordered 64 = .ok (.getfield 337, 3) := by decide +kernel
theorem dX11_ordered_67 : decode cX11_ordered 67 = .ok (.invokevirtual 340, 3) := by decide +kernel
theorem dX11_ordered_70 : decode cX11_ordered 70 = .ok (.putfield 344, 3) := by decide +kernel
theorem dX11_ordered_73 : decode cX11_ordered 73 = .ok (.aload_n 0, 1) := by decide +kernel
theorem dX11_ordered_74 : decode cX11_ordered 74 = .ok (.aload_n 0, 1) := by decide +kernel
theorem dX11_ordered_75 : decode cX11_ordered 75 = .ok (.getfield 25, 3) := by decide +kernel
theorem dX11_ordered_78 : decode cX11_ordered 78 = .ok (.getfield 344, 3) := by decide +kernel
theorem dX11_ordered_81 : decode cX11_ordered 81 = .ok (.invokevirtual 169, 3) := by decide +kernel
theorem dX11_ordered_84 : decode cX11_ordered 84 = .ok (.ireturn, 1) := by decide +kernel
theorem dX11_order_0 : decode cX11_order 0 = .ok (.iload_n 1, 1) := by decide +kernel
theorem dX11_order_1 : decode cX11_order 1 = .ok (.invokestatic 80, 3) := by decide +kernel
theorem dX11_order_4 : decode cX11_order 4 = .ok (.ifCond .ne 9, 3) := by decide +kernel
theorem dX11_order_7 : decode cX11_order 7 = .ok (.aload_n 0, 1) := by decide +kernel
theorem dX11_order_8 : decode cX11_order 8 = .ok (.iconst 1, 1) := by decide +kernel
theorem dX11_order_9 : decode cX11_order 9 = .ok (.invokevirtual 95, 3) := by decide +kernel
theorem dX11_order_12 : decode cX11_order 12 = .ok (.ireturn, 1) := by decide +kernel
theorem dX11_order_13 : decode cX11_order 13 = .ok (.aload_n 0, 1) := by decide +kernel
theorem dX11_order_14 : decode cX11_order 14 = .ok (.getfield 11, 3) := by decide +kernel
theorem dX11_order_17 : decode cX11_order 17 = .ok (.iload_n 1, 1) := by decide +kernel
theorem dX11_order_18 : decode cX11_order 18 = .ok (.aaload, 1) := by decide +kernel
theorem dX11_order_19 : decode cX11_order 19 = .ok (.invokevirtual 84, 3) := by decide +kernel
theorem dX11_order_22 : decode cX11_order 22 = .ok (.ifCond .eq 9, 3) := by decide +kernel
theorem dX11_order_25 : decode cX11_order 25 = .ok (.aload_n 0, 1) := by decide +kernel
theorem dX11_order_26 : decode cX11_order 26 = .ok (.iconst 3, 1) := by decide +kernel
theorem dX11_order_27 : decode cX11_order 27 = .ok (.invokevirtual 95, 3) := by decide +kernel
theorem dX11_order_30 : decode cX11_order 30 = .ok (.ireturn, 1) := by decide +kernel
theorem dX11_order_31 : decode cX11_order 31 = .ok (.iload_n 2, 1) := by decide +kernel
theorem dX11_order_32 : decode cX11_order 32 = .ok (.ifCond .lt 9, 3) := by decide +kernel
theorem dX11_order_35 : decode cX11_order 35 = .ok (.iload_n 2, 1) := by decide +kernel
theorem dX11_order_36 : decode cX11_order 36 = .ok (.bipush 16, 2) := by decide +kernel
theorem dX11_order_38 : decode cX11_order 38 = .ok (.if_icmp .le 9, 3) := by decide +kernel
theorem dX11_order_41 : decode cX11_order 41 = .ok (.aload_n 0, 1) := by decide +kernel
theorem dX11_order_42 : decode cX11_order 42 = .ok (.iconst 5, 1) := by decide +kernel
theorem dX11_order_43 : decode cX11_order 43 = .ok (.invokevirtual 95, 3) := by decide +kernel
theorem dX11_order_46 : decode cX11_order 46 = .ok (.ireturn, 1) := by decide +kernel
theorem dX11_order_47 : decode cX11_order 47 = .ok (.aload_n 0, 1) := by decide +kernel
theorem dX11_order_48 : decode cX11_order 48 = .ok (.getfield 11, 3) := by decide +kernel
theorem dX11_order_51 : decode cX11_order 51 = .ok (.iload_n 1, 1) := by decide +kernel
theorem dX11_order_52 : decode cX11_order 52 = .ok (.aaload, 1) := by decide +kernel
theorem dX11_order_53 : decode cX11_order 53 = .ok (.iconst 0, 1) := by decide +kernel
theorem dX11_order_54 : decode cX11_order 54 = .ok (.iload_n 2, 1) := by decide +kernel
theorem dX11_order_55 : decode cX11_order 55 = .ok (.invokevirtual 88, 3) := by decide +kernel
theorem dX11_order_58 : decode cX11_order 58 = .ok (.ifCond .ne 9, 3) := by decide +kernel
theorem dX11_order_61 : decode cX11_order 61 = .ok (.aload_n 0, 1) := by decide +kernel
theorem dX11_order_62 : decode cX11_order 62 = .ok (.iconst 4, 1) := by decide +kernel
theorem dX11_order_63 : decode cX11_order 63 = .ok (.invokevirtual 95, 3) := by decide +kernel
theorem dX11_order_66 : decode cX11_order 66 = .ok (.ireturn, 1) := by decide +kernel
theorem dX11_order_67 : decode cX11_order 67 = .ok (.aload_n 0, 1) := by decide +kernel
theorem dX11_order_68 : decode cX11_order 68 = .ok (.aload_n 0, 1) := by decide +kernel
theorem dX11_order_69 : decode cX11_order 69 = .ok (.getfield 11, 3) := by decide +kernel
theorem dX11_order_72 : decode cX11_order 72 = .ok (.iload_n 1, 1) := by decide +kernel
theorem dX11_order_73 : decode cX11_order 73 = .ok (.aaload, 1) := by decide +kernel
theorem dX11_order_74 : decode cX11_order 74 = .ok (.iload_n 2, 1) := by decide +kernel
theorem dX11_order_75 : decode cX11_order 75 = .ok (.invokevirtual 347, 3) := by decide +kernel
theorem dX11_order_78 : decode cX11_order 78 = .ok (.ifCond .ne 9, 3) := by decide +kernel
theorem dX11_order_81 : decode cX11_order 81 = .ok (.aload_n 0, 1) := by decide +kernel
theorem dX11_order_82 : decode cX11_order 82 = .ok (.iconst 5, 1) := by decide +kernel
theorem dX11_order_83 : decode cX11_order 83 = .ok (.invokevirtual 95, 3) := by decide +kernel
theorem dX11_order_86 : decode cX11_order 86 = .ok (.ireturn, 1) := by decide +kernel
theorem dX11_order_87 : decode cX11_order 87 = .ok (.aload_n 0, 1) := by decide +kernel
theorem dX11_order_88 : decode cX11_order 88 = .ok (.aload_n 0, 1) := by decide +kernel
theorem dX11_order_89 : decode cX11_order 89 = .ok (.getfield 11, 3) := by decide +kernel
theorem dX11_order_92 : decode cX11_order 92 = .ok (.iload_n 1, 1) := by decide +kernel
theorem dX11_order_93 : decode cX11_order 93 = .ok (.aaload, 1) := by decide +kernel
theorem dX11_order_94 : decode cX11_order 94 = .ok (.iload_n 2, 1) := by decide +kernel
theorem dX11_order_95 : decode cX11_order 95 = .ok (.invokevirtual 351, 3) := by decide +kernel
theorem dX11_order_98 : decode cX11_order 98 = .ok (.ifCond .ne 10, 3) := by decide +kernel
theorem dX11_order_101 : decode cX11_order 101 = .ok (.aload_n 0, 1) := by decide +kernel
theorem dX11_order_102 : decode cX11_order 102 = .ok (.bipush 9, 2) := by decide +kernel
theorem dX11_order_104 : decode cX11_order 104 = .ok (.invokevirtual 95, 3) := by decide +kernel
theorem dX11_order_107 : decode cX11_order 107 = .ok (.ireturn, 1) := by decide +kernel
theorem dX11_order_108 : decode cX11_order 108 = .ok (.iconst 0, 1) := by decide +kernel
theorem dX11_order_109 : decode cX11_order 109 = .ok (.istore_n 3, 1) := by decide +kernel
theorem dX11_order_110 : decode cX11_order 110 = .ok (.iload_n 3, 1) := by decide +kernel
theorem dX11_order_111 : decode cX11_order 111 = .ok (.iload_n 2, 1) := by decide +kernel
theorem dX11_order_112 : decode cX11_order 112 = .ok (.if_icmp .ge 29, 3) := by decide +kernel
theorem dX11_order_115 : decode cX11_order 115 = .ok (.aload_n 0, 1) := by decide +kernel
theorem dX11_order_116 : decode cX11_order 116 = .ok (.getfield 25, 3) := by decide +kernel
theorem dX11_order_119 : decode cX11_order 119 = .ok (.getfield 337, 3) := by decide +kernel
theorem dX11_order_122 : decode cX11_order 122 = .ok (.iload_n 3, 1) := by decide +kernel
theorem dX11_order_123 : decode cX11_order 123 = .ok (.aload_n 0, 1) := by decide +kernel
theorem dX11_order_124 : decode cX11_order 124 = .ok (.getfield 11, 3) := by decide +kernel
theorem dX11_order_127 : decode cX11_order 127 = .ok (.iload_n 1, 1) := by decide +kernel
theorem dX11_order_128 : decode cX11_order 128 = .ok (.aaload, 1) := by decide +kernel
theorem dX11_order_129 : decode cX11_order 129 = .ok (.iload_n 3, 1) := by decide +kernel
theorem dX11_order_130 : decode cX11_order 130 = .ok (.invokevirtual 117, 3) := by decide +kernel
theorem dX11_order_133 : decode cX11_order 133 = .ok (.l2i, 1) := by decide +kernel
theorem dX11_order_134 : decode cX11_order 134 = .ok (.iastore, 1) := by decide +kernel
theorem dX11_order_135 : decode cX11_order 135 = .ok (.iinc 3 1, 3) := by decide +kernel
theorem dX11_order_138 : decode cX11_order 138 = .ok (.goto (-28), 3) := by decide +kernel
theorem dX11_order_141 : decode cX11_order 141 = .ok (.aload_n 0, 1) := by decide +kernel
theorem dX11_order_142 : decode cX11_order 142 = .ok (.getfield 25, 3) := by decide +kernel
theorem dX11_order_145 : decode cX11_order 145 = .ok (.iload_n 2, 1) := by decide +kernel
theorem dX11_order_146 : decode cX11_order 146 = .ok (.putfield 344, 3) := by decide +kernel
theorem dX11_order_149 : decode cX11_order 149 = .ok (.aload_n 0, 1) := by decide +kernel
theorem dX11_order_150 : decode cX11_order 150 = .ok (.invokevirtual 102, 3) := by decide +kernel
theorem dX11_order_153 : decode cX11_order 153 = .ok (.ireturn, 1) := by decide +kernel
theorem dX11_areChangesOnce_0 : decode cX11_areChangesOnce 0 = .ok (.iconst 0, 1) := by decide +kernel
theorem dX11_areChangesOnce_1 : decode cX11_areChangesOnce 1 = .ok (.istore_n 3, 1) := by decide +kernel
theorem dX11_areChangesOnce_2 : decode cX11_areChangesOnce 2 = .ok (.iconst 0, 1) := by decide +kernel
theorem dX11_areChangesOnce_3 : decode cX11_areChangesOnce 3 = .ok (.istore 4, 2) := by decide +kernel
theorem dX11_areChangesOnce_5 : decode cX11_areChangesOnce 5 = .ok (.iload 4, 2) := by decide +kernel
theorem dX11_areChangesOnce_7 : decode cX11_areChangesOnce 7 = .ok (.iload_n 2, 1) := by decide +kernel
theorem dX11_areChangesOnce_8 : decode cX11_areChangesOnce 8 = .ok (.if_icmp .ge 61, 3) := by decide +kernel
theorem dX11_areChangesOnce_11 : decode cX11_areChangesOnce 11 = .ok (.aload_n 1, 1) := by decide +kernel
theorem dX11_areChangesOnce_12 : decode cX11_areChangesOnce 12 = .ok (.iload 4, 2) := by decide +kernel
theorem dX11_areChangesOnce_14 : decode cX11_areChangesOnce 14 = .ok (.invokevirtual 117, 3) := by decide +kernel
theorem dX11_areChangesOnce_17 : decode cX11_areChangesOnce 17 = .ok (.lstore 5, 2) := by decide +kernel
theorem dX11_areChangesOnce_19 : decode cX11_areChangesOnce 19 = .ok (.lload 5, 2) := by decide +kernel
theorem dX11_areChangesOnce_21 : decode cX11_areChangesOnce 21 = .ok (.lconst 0, 1) := by decide +kernel
theorem dX11_areChangesOnce_22 : decode cX11_areChangesOnce 22 = .ok (.lcmp, 1) := by decide +kernel
theorem dX11_areChangesOnce_23 : decode cX11_areChangesOnce 23 = .ok (.ifCond .lt 30, 3) := by decide +kernel
theorem dX11_areChangesOnce_26 : decode cX11_areChangesOnce 26 = .ok (.lload 5, 2) := by decide +kernel
theorem dX11_areChangesOnce_28 : decode cX11_areChangesOnce 28 = .ok (.aload_n 0, 1) := by decide +kernel
theorem dX11_areChangesOnce_29 : decode cX11_areChangesOnce 29 = .ok (.getfield 25, 3) := by decide +kernel
theorem dX11_areChangesOnce_32 : decode cX11_areChangesOnce 32 = .ok (.getfield 174, 3) := by decide +kernel
theorem dX11_areChangesOnce_35 : decode cX11_areChangesOnce 35 = .ok (.getfield 164, 3) := by decide +kernel
theorem dX11_areChangesOnce_38 : decode cX11_areChangesOnce 38 = .ok (.i2l, 1) := by decide +kernel
theorem dX11_areChangesOnce_39 : decode cX11_areChangesOnce 39 = .ok (.lcmp, 1) := by decide +kernel
theorem dX11_areChangesOnce_40 : decode cX11_areChangesOnce 40 = .ok (.ifCond .ge 13, 3) := by decide +kernel
theorem dX11_areChangesOnce_43 : decode cX11_areChangesOnce 43 = .ok (.iload_n 3, 1) := by decide +kernel
theorem dX11_areChangesOnce_44 : decode cX11_areChangesOnce 44 = .ok (.lload 5, 2) := by decide +kernel
theorem dX11_areChangesOnce_46 : decode cX11_areChangesOnce 46 = .ok (.l2i, 1) := by decide +kernel
theorem dX11_areChangesOnce_47 : decode cX11_areChangesOnce 47 = .ok (.invokestatic 305, 3) := by decide +kernel
theorem dX11_areChangesOnce_50 : decode cX11_areChangesOnce 50 = .ok (.ifCond .eq 5, 3) := by decide +kernel
theorem dX11_areChangesOnce_53 : decode cX11_areChangesOnce 53 = .ok (.iconst 0, 1) := by decide +kernel
theorem dX11_areChangesOnce_54 : decode cX11_areChangesOnce 54 = .ok (.ireturn, 1) := by decide +kernel
theorem dX11_areChangesOnce_55 : decode cX11_areChangesOnce 55 = .ok (.iload_n 3, 1) := by decide +kernel
theorem dX11_areChangesOnce_56 : decode cX11_areChangesOnce 56 = .ok (.iconst 1, 1) := by decide +kernel
theorem dX11_areChangesOnce_57 : decode cX11_areChangesOnce 57 = .ok (.lload 5, 2) := by decide +kernel
theorem dX11_areChangesOnce_59 : decode cX11_areChangesOnce 59 = .ok (.l2i, 1) := by decide +kernel
theorem dX11_areChangesOnce_60 : decode cX11_areChangesOnce 60 = .ok (.ishl, 1) := by decide +kernel
theorem dX11_areChangesOnce_61 : decode cX11_areChangesOnce 61 = .ok (.ior, 1) := by decide +kernel
theorem dX11_areChangesOnce_62 : decode cX11_areChangesOnce 62 = .ok (.istore_n 3, 1) := by decide +kernel
theorem dX11_areChangesOnce_63 : decode cX11_areChangesOnce 63 = .ok (.iinc 4 1, 3) := by decide +kernel
theorem dX11_areChangesOnce_66 : decode cX11_areChangesOnce 66 = .ok (.goto (-61), 3) := by decide +kernel
theorem dX11_areChangesOnce_69 : decode cX11_areChangesOnce 69 = .ok (.iconst 1, 1) := by decide +kernel
theorem dX11_areChangesOnce_70 : decode cX11_areChangesOnce 70 = .ok (.ireturn, 1) := by decide +kernel
theorem dX11_holdsInRow_0 : decode cX11_holdsInRow 0 = .ok (.iconst 0, 1) := by decide +kernel
theorem dX11_holdsInRow_1 : decode cX11_holdsInRow 1 = .ok (.istore_n 3, 1) := by decide +kernel
theorem dX11_holdsInRow_2 : decode cX11_holdsInRow 2 = .ok (.iconst 0, 1) := by decide +kernel
theorem dX11_holdsInRow_3 : decode cX11_holdsInRow 3 = .ok (.istore 4, 2) := by decide +kernel
theorem dX11_holdsInRow_5 : decode cX11_holdsInRow 5 = .ok (.iload 4, 2) := by decide +kernel
theorem dX11_holdsInRow_7 : decode cX11_holdsInRow 7 = .ok (.iload_n 2, 1) := by decide +kernel
theorem dX11_holdsInRow_8 : decode cX11_holdsInRow 8 = .ok (.if_icmp .ge 62, 3) := by decide +kernel
theorem dX11_holdsInRow_11 : decode cX11_holdsInRow 11 = .ok (.aload_n 1, 1) := by decide +kernel
theorem dX11_holdsInRow_12 : decode cX11_holdsInRow 12 = .ok (.iload 4, 2) := by decide +kernel
theorem dX11_holdsInRow_14 : decode cX11_holdsInRow 14 = .ok (.invokevirtual 117, 3) := by decide +kernel
theorem dX11_holdsInRow_17 : decode cX11_holdsInRow 17 = .ok (.l2i, 1) := by decide +kernel
theorem dX11_holdsInRow_18 : decode cX11_holdsInRow 18 = .ok (.istore 5, 2) := by decide +kernel
theorem dX11_holdsInRow_20 : decode cX11_holdsInRow 20 = .ok (.aload_n 0, 1) := by decide +kernel
theorem dX11_holdsInRow_21 : decode cX11_holdsInRow 21 = .ok (.getfield 25, 3) := by decide +kernel
theorem dX11_holdsInRow_24 : decode cX11_holdsInRow 24 = .ok (.getfield 174, 3) := by decide +kernel
theorem dX11_holdsInRow_27 : decode cX11_holdsInRow 27 = .ok (.iload 5, 2) := by decide +kernel
theorem dX11_holdsInRow_29 : decode cX11_holdsInRow 29 = .ok (.invokevirtual 212, 3) := by decide +kernel
theorem dX11_holdsInRow_32 : decode cX11_holdsInRow 32 = .ok (.ifCond .eq 23, 3) := by decide +kernel
theorem dX11_holdsInRow_35 : decode cX11_holdsInRow 35 = .ok (.aload_n 0, 1) := by decide +kernel
theorem dX11_holdsInRow_36 : decode cX11_holdsInRow 36 = .ok (.getfield 25, 3) := by decide +kernel
theorem dX11_holdsInRow_39 : decode cX11_holdsInRow 39 = .ok (.getfield 174, 3) := by decide +kernel
theorem dX11_holdsInRow_42 : decode cX11_holdsInRow 42 = .ok (.getfield 235, 3) := by decide +kernel
theorem dX11_holdsInRow_45 : decode cX11_holdsInRow 45 = .ok (.iload 5, 2) := by decide +kernel
theorem dX11_holdsInRow_47 : decode cX11_holdsInRow 47 = .ok (.iaload, 1) := by decide +kernel
theorem dX11_holdsInRow_48 : decode cX11_holdsInRow 48 = .ok (.iload_n 3, 1) := by decide +kernel
theorem dX11_holdsInRow_49 : decode cX11_holdsInRow 49 = .ok (.iconst (-1), 1) := by decide +kernel
theorem dX11_holdsInRow_50 : decode cX11_holdsInRow 50 = .ok (.ixor, 1) := by decide +kernel
theorem dX11_holdsInRow_51 : decode cX11_holdsInRow 51 = .ok (.iand, 1) := by decide +kernel
theorem dX11_holdsInRow_52 : decode cX11_holdsInRow 52 = .ok (.ifCond .eq 5, 3) := by decide +kernel
theorem dX11_holdsInRow_55 : decode cX11_holdsInRow 55 = .ok (.iconst 0, 1) := by decide +kernel
theorem dX11_holdsInRow_56 : decode cX11_holdsInRow 56 = .ok (.ireturn, 1) := by decide +kernel
theorem dX11_holdsInRow_57 : decode cX11_holdsInRow 57 = .ok (.iload_n 3, 1) := by decide +kernel
theorem dX11_holdsInRow_58 : decode cX11_holdsInRow 58 = .ok (.iconst 1, 1) := by decide +kernel
theorem dX11_holdsInRow_59 : decode cX11_holdsInRow 59 = .ok (.iload 5, 2) := by decide +kernel
theorem dX11_holdsInRow_61 : decode cX11_holdsInRow 61 = .ok (.ishl, 1) := by decide +kernel
theorem dX11_holdsInRow_62 : decode cX11_holdsInRow 62 = .ok (.ior, 1) := by decide +kernel
theorem dX11_holdsInRow_63 : decode cX11_holdsInRow 63 = .ok (.istore_n 3, 1) := by decide +kernel
theorem dX11_holdsInRow_64 : decode cX11_holdsInRow 64 = .ok (.iinc 4 1, 3) := by decide +kernel
theorem dX11_holdsInRow_67 : decode cX11_holdsInRow 67 = .ok (.goto (-62), 3) := by decide +kernel
theorem dX11_holdsInRow_70 : decode cX11_holdsInRow 70 = .ok (.iconst 1, 1) := by decide +kernel
theorem dX11_holdsInRow_71 : decode cX11_holdsInRow 71 = .ok (.ireturn, 1) := by decide +kernel
theorem dX11_number_0 : decode cX11_number 0 = .ok (.aload_n 0, 1) := by decide +kernel
theorem dX11_number_1 : decode cX11_number 1 = .ok (.aload_n 0, 1) := by decide +kernel
theorem dX11_number_2 : decode cX11_number 2 = .ok (.getfield 46, 3) := by decide +kernel
theorem dX11_number_5 : decode cX11_number 5 = .ok (.aload_n 0, 1) := by decide +kernel
theorem dX11_number_6 : decode cX11_number 6 = .ok (.getfield 25, 3) := by decide +kernel
theorem dX11_number_9 : decode cX11_number 9 = .ok (.getfield 174, 3) := by decide +kernel
theorem dX11_number_12 : decode cX11_number 12 = .ok (.aload_n 0, 1) := by decide +kernel
theorem dX11_number_13 : decode cX11_number 13 = .ok (.getfield 25, 3) := by decide +kernel
theorem dX11_number_16 : decode cX11_number 16 = .ok (.getfield 337, 3) := by decide +kernel
theorem dX11_number_19 : decode cX11_number 19 = .ok (.aload_n 0, 1) := by decide +kernel
theorem dX11_number_20 : decode cX11_number 20 = .ok (.getfield 25, 3) := by decide +kernel
theorem dX11_number_23 : decode cX11_number 23 = .ok (.getfield 344, 3) := by decide +kernel
theorem dX11_number_26 : decode cX11_number 26 = .ok (.invokevirtual 354, 3) := by decide +kernel
theorem dX11_number_29 : decode cX11_number 29 = .ok (.invokevirtual 121, 3) := by decide +kernel
theorem dX11_number_32 : decode cX11_number 32 = .ok (.lreturn, 1) := by decide +kernel
theorem dX11_orderAt_0 : decode cX11_orderAt 0 = .ok (.aload_n 0, 1) := by decide +kernel
theorem dX11_orderAt_1 : decode cX11_orderAt 1 = .ok (.getfield 25, 3) := by decide +kernel
theorem dX11_orderAt_4 : decode cX11_orderAt 4 = .ok (.iload_n 1, 1) := by decide +kernel
theorem dX11_orderAt_5 : decode cX11_orderAt 5 = .ok (.invokevirtual 358, 3) := by decide +kernel
theorem dX11_orderAt_8 : decode cX11_orderAt 8 = .ok (.ifCond .eq 19, 3) := by decide +kernel
theorem dX11_orderAt_11 : decode cX11_orderAt 11 = .ok (.aload_n 0, 1) := by decide +kernel
theorem dX11_orderAt_12 : decode cX11_orderAt 12 = .ok (.aload_n 0, 1) := by decide +kernel
theorem dX11_orderAt_13 : decode cX11_orderAt 13 = .ok (.getfield 25, 3) := by decide +kernel
theorem dX11_orderAt_16 : decode cX11_orderAt 16 = .ok (.getfield 337, 3) := by decide +kernel
theorem dX11_orderAt_19 : decode cX11_orderAt 19 = .ok (.iload_n 1, 1) := by decide +kernel
theorem dX11_orderAt_20 : decode cX11_orderAt 20 = .ok (.iaload, 1) := by decide +kernel
theorem dX11_orderAt_21 : decode cX11_orderAt 21 = .ok (.invokevirtual 169, 3) := by decide +kernel
theorem dX11_orderAt_24 : decode cX11_orderAt 24 = .ok (.goto 9, 3) := by decide +kernel
theorem dX11_orderAt_27 : decode cX11_orderAt 27 = .ok (.aload_n 0, 1) := by decide +kernel
theorem dX11_orderAt_28 : decode cX11_orderAt 28 = .ok (.bipush 8, 2) := by decide +kernel
theorem dX11_orderAt_30 : decode cX11_orderAt 30 = .ok (.invokevirtual 113, 3) := by decide +kernel
theorem dX11_orderAt_33 : decode cX11_orderAt 33 = .ok (.ireturn, 1) := by decide +kernel
theorem dX11_acts_0 : decode cX11_acts 0 = .ok (.aload_n 0, 1) := by decide +kernel
theorem dX11_acts_1 : decode cX11_acts 1 = .ok (.getfield 25, 3) := by decide +kernel
theorem dX11_acts_4 : decode cX11_acts 4 = .ok (.iload_n 1, 1) := by decide +kernel
theorem dX11_acts_5 : decode cX11_acts 5 = .ok (.invokevirtual 358, 3) := by decide +kernel
theorem dX11_acts_8 : decode cX11_acts 8 = .ok (.ifCond .ne 10, 3) := by decide +kernel
theorem dX11_acts_11 : decode cX11_acts 11 = .ok (.aload_n 0, 1) := by decide +kernel
theorem dX11_acts_12 : decode cX11_acts 12 = .ok (.bipush 8, 2) := by decide +kernel
theorem dX11_acts_14 : decode cX11_acts 14 = .ok (.invokevirtual 113, 3) := by decide +kernel
theorem dX11_acts_17 : decode cX11_acts 17 = .ok (.ireturn, 1) := by decide +kernel
theorem dX11_acts_18 : decode cX11_acts 18 = .ok (.aload_n 0, 1) := by decide +kernel
theorem dX11_acts_19 : decode cX11_acts 19 = .ok (.getfield 25, 3) := by decide +kernel
theorem dX11_acts_22 : decode cX11_acts 22 = .ok (.getfield 337, 3) := by decide +kernel
theorem dX11_acts_25 : decode cX11_acts 25 = .ok (.iload_n 1, 1) := by decide +kernel
theorem dX11_acts_26 : decode cX11_acts 26 = .ok (.iaload, 1) := by decide +kernel
theorem dX11_acts_27 : decode cX11_acts 27 = .ok (.istore_n 2, 1) := by decide +kernel
theorem dX11_acts_28 : decode cX11_acts 28 = .ok (.aload_n 0, 1) := by decide +kernel
theorem dX11_acts_29 : decode cX11_acts 29 = .ok (.getfield 25, 3) := by decide +kernel
theorem dX11_acts_32 : decode cX11_acts 32 = .ok (.getfield 174, 3) := by decide +kernel
theorem dX11_acts_35 : decode cX11_acts 35 = .ok (.getfield 215, 3) := by decide +kernel
theorem dX11_acts_38 : decode cX11_acts 38 = .ok (.iload_n 2, 1) := by decide +kernel
theorem dX11_acts_39 : decode cX11_acts 39 = .ok (.iaload, 1) := by decide +kernel
theorem dX11_acts_40 : decode cX11_acts 40 = .ok (.istore_n 3, 1) := by decide +kernel
theorem dX11_acts_41 : decode cX11_acts 41 = .ok (.iload_n 3, 1) := by decide +kernel
theorem dX11_acts_42 : decode cX11_acts 42 = .ok (.iconst 4, 1) := by decide +kernel
theorem dX11_acts_43 : decode cX11_acts 43 = .ok (.if_icmp .ne 9, 3) := by decide +kernel
theorem dX11_acts_46 : decode cX11_acts 46 = .ok (.aload_n 0, 1) := by decide +kernel
theorem dX11_acts_47 : decode cX11_acts 47 = .ok (.iconst (-1), 1) := by decide +kernel
theorem dX11_acts_48 : decode cX11_acts 48 = .ok (.invokevirtual 169, 3) := by decide +kernel
theorem dX11_acts_51 : decode cX11_acts 51 = .ok (.ireturn, 1) := by decide +kernel
theorem dX11_acts_52 : decode cX11_acts 52 = .ok (.aload_n 0, 1) := by decide +kernel
theorem dX11_acts_53 : decode cX11_acts 53 = .ok (.getfield 36, 3) := by decide +kernel
theorem dX11_acts_56 : decode cX11_acts 56 = .ok (.aload_n 0, 1) := by decide +kernel
theorem dX11_acts_57 : decode cX11_acts 57 = .ok (.getfield 25, 3) := by decide +kernel
theorem dX11_acts_60 : decode cX11_acts 60 = .ok (.getfield 174, 3) := by decide +kernel
theorem dX11_acts_63 : decode cX11_acts 63 = .ok (.aload_n 0, 1) := by decide +kernel
theorem dX11_acts_64 : decode cX11_acts 64 = .ok (.getfield 25, 3) := by decide +kernel
theorem dX11_acts_67 : decode cX11_acts 67 = .ok (.iload_n 3, 1) := by decide +kernel
theorem dX11_acts_68 : decode cX11_acts 68 = .ok (.ifCond .ne 9, 3) := by decide +kernel
theorem dX11_acts_71 : decode cX11_acts 71 = .ok (.iload_n 1, 1) := by decide +kernel
theorem dX11_acts_72 : decode cX11_acts 72 = .ok (.iconst 1, 1) := by decide +kernel
theorem dX11_acts_73 : decode cX11_acts 73 = .ok (.iadd, 1) := by decide +kernel
theorem dX11_acts_74 : decode cX11_acts 74 = .ok (.goto 4, 3) := by decide +kernel
theorem dX11_acts_77 : decode cX11_acts 77 = .ok (.iload_n 1, 1) := by decide +kernel
theorem dX11_acts_78 : decode cX11_acts 78 = .ok (.invokevirtual 361, 3) := by decide +kernel
theorem dX11_acts_81 : decode cX11_acts 81 = .ok (.invokevirtual 265, 3) := by decide +kernel
theorem dX11_acts_84 : decode cX11_acts 84 = .ok (.aload_n 0, 1) := by decide +kernel
theorem dX11_acts_85 : decode cX11_acts 85 = .ok (.aload_n 0, 1) := by decide +kernel
theorem dX11_acts_86 : decode cX11_acts 86 = .ok (.getfield 36, 3) := by decide +kernel
theorem dX11_acts_89 : decode cX11_acts 89 = .ok (.aload_n 0, 1) := by decide +kernel
theorem dX11_acts_90 : decode cX11_acts 90 = .ok (.getfield 25, 3) := by decide +kernel
theorem dX11_acts_93 : decode cX11_acts 93 = .ok (.getfield 174, 3) := by decide +kernel
theorem dX11_acts_96 : decode cX11_acts 96 = .ok (.getfield 226, 3) := by decide +kernel
theorem dX11_acts_99 : decode cX11_acts 99 = .ok (.iload_n 2, 1) := by decide +kernel
theorem dX11_acts_100 : decode cX11_acts 100 = .ok (.iaload, 1) := by decide +kernel
theorem dX11_acts_101 : decode cX11_acts 101 = .ok (.invokevirtual 278, 3) := by decide +kernel
theorem dX11_acts_104 : decode cX11_acts 104 = .ok (.invokevirtual 169, 3) := by decide +kernel
theorem dX11_acts_107 : decode cX11_acts 107 = .ok (.ireturn, 1) := by decide +kernel
theorem dX11_swap_0 : decode cX11_swap 0 = .ok (.aload_n 0, 1) := by decide +kernel
theorem dX11_swap_1 : decode cX11_swap 1 = .ok (.getfield 25, 3) := by decide +kernel
theorem dX11_swap_4 : decode cX11_swap 4 = .ok (.iload_n 1, 1) := by decide +kernel
theorem dX11_swap_5 : decode cX11_swap 5 = .ok (.invokevirtual 358, 3) := by decide +kernel
theorem dX11_swap_8 : decode cX11_swap 8 = .ok (.ifCond .eq 16, 3) := by decide +kernel
theorem dX11_swap_11 : decode cX11_swap 11 = .ok (.aload_n 0, 1) := by decide +kernel
theorem dX11_swap_12 : decode cX11_swap 12 = .ok (.getfield 25, 3) := by decide +kernel
theorem dX11_swap_15 : decode cX11_swap 15 = .ok (.iload_n 1, 1) := by decide +kernel
theorem dX11_swap_16 : decode cX11_swap 16 = .ok (.iconst 1, 1) := by decide +kernel
theorem dX11_swap_17 : decode cX11_swap 17 = .ok (.iadd, 1) := by decide +kernel
theorem dX11_swap_18 : decode cX11_swap 18 = .ok (.invokevirtual 358, 3) := by decide +kernel
theorem dX11_swap_21 : decode cX11_swap 21 = .ok (.ifCond .ne 10, 3) := by decide +kernel
theorem dX11_swap_24 : decode cX11_swap 24 = .ok (.aload_n 0, 1) := by decide +kernel
theorem dX11_swap_25 : decode cX11_swap 25 = .ok (.bipush 8, 2) := by decide +kernel
theorem dX11_swap_27 : decode cX11_swap 27 = .ok (.invokevirtual 95, 3) := by decide +kernel
theorem dX11_swap_30 : decode cX11_swap 30 = .ok (.ireturn, 1) := by decide +kernel
theorem dX11_swap_31 : decode cX11_swap 31 = .ok (.aload_n 0, 1) := by decide +kernel
theorem dX11_swap_32 : decode cX11_swap 32 = .ok (.getfield 25, 3) := by decide +kernel
theorem dX11_swap_35 : decode cX11_swap 35 = .ok (.iload_n 1, 1) := by decide +kernel
theorem dX11_swap_36 : decode cX11_swap 36 = .ok (.invokevirtual 364, 3) := by decide +kernel
theorem dX11_swap_39 : decode cX11_swap 39 = .ok (.ifCond .ne 10, 3) := by decide +kernel
theorem dX11_swap_42 : decode cX11_swap 42 = .ok (.aload_n 0, 1) := by decide +kernel
theorem dX11_swap_43 : decode cX11_swap 43 = .ok (.bipush 9, 2) := by decide +kernel
theorem dX11_swap_45 : decode cX11_swap 45 = .ok (.invokevirtual 95, 3) := by decide +kernel
theorem dX11_swap_48 : decode cX11_swap 48 = .ok (.ireturn, 1) := by decide +kernel
theorem dX11_swap_49 : decode cX11_swap 49 = .ok (.aload_n 0, 1) := by decide +kernel
theorem dX11_swap_50 : decode cX11_swap 50 = .ok (.getfield 25, 3) := by decide +kernel
theorem dX11_swap_53 : decode cX11_swap 53 = .ok (.iload_n 1, 1) := by decide +kernel
theorem dX11_swap_54 : decode cX11_swap 54 = .ok (.invokevirtual 367, 3) := by decide +kernel
theorem dX11_swap_57 : decode cX11_swap 57 = .ok (.aload_n 0, 1) := by decide +kernel
theorem dX11_swap_58 : decode cX11_swap 58 = .ok (.invokevirtual 102, 3) := by decide +kernel
theorem dX11_swap_61 : decode cX11_swap 61 = .ok (.ireturn, 1) := by decide +kernel
theorem dX11_forward_0 : decode cX11_forward 0 = .ok (.aload_n 0, 1) := by decide +kernel
theorem dX11_forward_1 : decode cX11_forward 1 = .ok (.getfield 25, 3) := by decide +kernel
theorem dX11_forward_4 : decode cX11_forward 4 = .ok (.getfield 174, 3) := by decide +kernel
theorem dX11_forward_7 : decode cX11_forward 7 = .ok (.iload_n 1, 1) := by decide +kernel
theorem dX11_forward_8 : decode cX11_forward 8 = .ok (.invokevirtual 212, 3) := by decide +kernel
theorem dX11_forward_11 : decode cX11_forward 11 = .ok (.ifCond .ne 9, 3) := by decide +kernel
theorem dX11_forward_14 : decode cX11_forward 14 = .ok (.aload_n 0, 1) := by decide +kernel
theorem dX11_forward_15 : decode cX11_forward 15 = .ok (.iconst 2, 1) := by decide +kernel
theorem dX11_forward_16 : decode cX11_forward 16 = .ok (.invokevirtual 113, 3) := by decide +kernel
theorem dX11_forward_19 : decode cX11_forward 19 = .ok (.ireturn, 1) := by decide +kernel
theorem dX11_forward_20 : decode cX11_forward 20 = .ok (.aload_n 0, 1) := by decide +kernel
theorem dX11_forward_21 : decode cX11_forward 21 = .ok (.getfield 25, 3) := by decide +kernel
theorem dX11_forward_24 : decode cX11_forward 24 = .ok (.iload_n 1, 1) := by decide +kernel
theorem dX11_forward_25 : decode cX11_forward 25 = .ok (.invokevirtual 370, 3) := by decide +kernel
theorem dX11_forward_28 : decode cX11_forward 28 = .ok (.istore_n 2, 1) := by decide +kernel
theorem dX11_forward_29 : decode cX11_forward 29 = .ok (.iload_n 2, 1) := by decide +kernel
theorem dX11_forward_30 : decode cX11_forward 30 = .ok (.iconst (-1), 1) := by decide +kernel
theorem dX11_forward_31 : decode cX11_forward 31 = .ok (.if_icmp .ne 10, 3) := by decide +kernel
theorem dX11_forward_34 : decode cX11_forward 34 = .ok (.aload_n 0, 1) := by decide +kernel
theorem dX11_forward_35 : decode cX11_forward 35 = .ok (.bipush 8, 2) := by decide +kernel
theorem dX11_forward_37 : decode cX11_forward 37 = .ok (.invokevirtual 113, 3) := by decide +kernel
theorem dX11_forward_40 : decode cX11_forward 40 = .ok (.ireturn, 1) := by decide +kernel
theorem dX11_forward_41 : decode cX11_forward 41 = .ok (.iload_n 2, 1) := by decide +kernel
theorem dX11_forward_42 : decode cX11_forward 42 = .ok (.ifCond .le 32, 3) := by decide +kernel
theorem dX11_forward_45 : decode cX11_forward 45 = .ok (.aload_n 0, 1) := by decide +kernel
theorem dX11_forward_46 : decode cX11_forward 46 = .ok (.getfield 25, 3) := by decide +kernel
theorem dX11_forward_49 : decode cX11_forward 49 = .ok (.iload_n 2, 1) := by decide +kernel
theorem dX11_forward_50 : decode cX11_forward 50 = .ok (.iconst 1, 1) := by decide +kernel
theorem dX11_forward_51 : decode cX11_forward 51 = .ok (.isub, 1) := by decide +kernel
theorem dX11_forward_52 : decode cX11_forward 52 = .ok (.invokevirtual 364, 3) := by decide +kernel
theorem dX11_forward_55 : decode cX11_forward 55 = .ok (.ifCond .eq 19, 3) := by decide +kernel
theorem dX11_forward_58 : decode cX11_forward 58 = .ok (.aload_n 0, 1) := by decide +kernel
theorem dX11_forward_59 : decode cX11_forward 59 = .ok (.getfield 25, 3) := by decide +kernel
theorem dX11_forward_62 : decode cX11_forward 62 = .ok (.iload_n 2, 1) := by decide +kernel
theorem dX11_forward_63 : decode cX11_forward 63 = .ok (.iconst 1, 1) := by decide +kernel
theorem dX11_forward_64 : decode cX11_forward 64 = .ok (.isub, 1) := by decide +kernel
theorem dX11_forward_65 : decode cX11_forward 65 = .ok (.invokevirtual 367, 3) := by decide +kernel
theorem dX11_forward_68 : decode cX11_forward 68 = .ok (.iinc 2 (-1), 3) := by decide +kernel
theorem dX11_forward_71 : decode cX11_forward 71 = .ok (.goto (-30), 3) := by decide +kernel
theorem dX11_forward_74 : decode cX11_forward 74 = .ok (.aload_n 0, 1) := by decide +kernel
theorem dX11_forward_75 : decode cX11_forward 75 = .ok (.iload_n 2, 1) := by decide +kernel
theorem dX11_forward_76 : decode cX11_forward 76 = .ok (.invokevirtual 169, 3) := by decide +kernel
theorem dX11_forward_79 : decode cX11_forward 79 = .ok (.ireturn, 1) := by decide +kernel
theorem dX11_swaps_0 : decode cX11_swaps 0 = .ok (.aload_n 0, 1) := by decide +kernel
theorem dX11_swaps_1 : decode cX11_swaps 1 = .ok (.aload_n 0, 1) := by decide +kernel
theorem dX11_swaps_2 : decode cX11_swaps 2 = .ok (.getfield 25, 3) := by decide +kernel
theorem dX11_swaps_5 : decode cX11_swaps 5 = .ok (.invokevirtual 373, 3) := by decide +kernel
theorem dX11_swaps_8 : decode cX11_swaps 8 = .ok (.invokevirtual 169, 3) := by decide +kernel
theorem dX11_swaps_11 : decode cX11_swaps 11 = .ok (.ireturn, 1) := by decide +kernel
theorem dX11_has_0 : decode cX11_has 0 = .ok (.aload_n 0, 1) := by decide +kernel
theorem dX11_has_1 : decode cX11_has 1 = .ok (.getfield 25, 3) := by decide +kernel
theorem dX11_has_4 : decode cX11_has 4 = .ok (.getfield 174, 3) := by decide +kernel
theorem dX11_has_7 : decode cX11_has 7 = .ok (.iload_n 1, 1) := by decide +kernel
theorem dX11_has_8 : decode cX11_has 8 = .ok (.invokevirtual 376, 3) := by decide +kernel
theorem dX11_has_11 : decode cX11_has 11 = .ok (.ifCond .eq 19, 3) := by decide +kernel
theorem dX11_has_14 : decode cX11_has 14 = .ok (.aload_n 0, 1) := by decide +kernel
theorem dX11_has_15 : decode cX11_has 15 = .ok (.aload_n 0, 1) := by decide +kernel
theorem dX11_has_16 : decode cX11_has 16 = .ok (.getfield 25, 3) := by decide +kernel
theorem dX11_has_19 : decode cX11_has 19 = .ok (.getfield 379, 3) := by decide +kernel
theorem dX11_has_22 : decode cX11_has 22 = .ok (.iload_n 1, 1) := by decide +kernel
theorem dX11_has_23 : decode cX11_has 23 = .ok (.iaload, 1) := by decide +kernel
theorem dX11_has_24 : decode cX11_has 24 = .ok (.invokevirtual 169, 3) := by decide +kernel
theorem dX11_has_27 : decode cX11_has 27 = .ok (.goto 8, 3) := by decide +kernel
theorem dX11_has_30 : decode cX11_has 30 = .ok (.aload_n 0, 1) := by decide +kernel
theorem dX11_has_31 : decode cX11_has 31 = .ok (.iconst 2, 1) := by decide +kernel
theorem dX11_has_32 : decode cX11_has 32 = .ok (.invokevirtual 113, 3) := by decide +kernel
theorem dX11_has_35 : decode cX11_has 35 = .ok (.ireturn, 1) := by decide +kernel
theorem dX11_give_0 : decode cX11_give 0 = .ok (.aload_n 0, 1) := by decide +kernel
theorem dX11_give_1 : decode cX11_give 1 = .ok (.getfield 25, 3) := by decide +kernel
theorem dX11_give_4 : decode cX11_give 4 = .ok (.getfield 174, 3) := by decide +kernel
theorem dX11_give_7 : decode cX11_give 7 = .ok (.iload_n 1, 1) := by decide +kernel
theorem dX11_give_8 : decode cX11_give 8 = .ok (.invokevirtual 376, 3) := by decide +kernel
theorem dX11_give_11 : decode cX11_give 11 = .ok (.ifCond .eq 17, 3) := by decide +kernel
theorem dX11_give_14 : decode cX11_give 14 = .ok (.aload_n 0, 1) := by decide +kernel
theorem dX11_give_15 : decode cX11_give 15 = .ok (.getfield 25, 3) := by decide +kernel
theorem dX11_give_18 : decode cX11_give 18 = .ok (.getfield 174, 3) := by decide +kernel
theorem dX11_give_21 : decode cX11_give 21 = .ok (.iload_n 2, 1) := by decide +kernel
theorem dX11_give_22 : decode cX11_give 22 = .ok (.invokevirtual 241, 3) := by decide +kernel
theorem dX11_give_25 : decode cX11_give 25 = .ok (.ifCond .ne 9, 3) := by decide +kernel
theorem dX11_give_28 : decode cX11_give 28 = .ok (.aload_n 0, 1) := by decide +kernel
theorem dX11_give_29 : decode cX11_give 29 = .ok (.iconst 2, 1) := by decide +kernel
theorem dX11_give_30 : decode cX11_give 30 = .ok (.invokevirtual 95, 3) := by decide +kernel
theorem dX11_give_33 : decode cX11_give 33 = .ok (.ireturn, 1) := by decide +kernel
theorem dX11_give_34 : decode cX11_give 34 = .ok (.aload_n 0, 1) := by decide +kernel
theorem dX11_give_35 : decode cX11_give 35 = .ok (.getfield 25, 3) := by decide +kernel
theorem dX11_give_38 : decode cX11_give 38 = .ok (.getfield 174, 3) := by decide +kernel
theorem dX11_give_41 : decode cX11_give 41 = .ok (.iload_n 2, 1) := by decide +kernel
theorem dX11_give_42 : decode cX11_give 42 = .ok (.invokevirtual 244, 3) := by decide +kernel
theorem dX11_give_45 : decode cX11_give 45 = .ok (.ifCond .ne 10, 3) := by decide +kernel
theorem dX11_give_48 : decode cX11_give 48 = .ok (.aload_n 0, 1) := by decide +kernel
theorem dX11_give_49 : decode cX11_give 49 = .ok (.bipush 9, 2) := by decide +kernel
theorem dX11_give_51 : decode cX11_give 51 = .ok (.invokevirtual 95, 3) := by decide +kernel
theorem dX11_give_54 : decode cX11_give 54 = .ok (.ireturn, 1) := by decide +kernel
theorem dX11_give_55 : decode cX11_give 55 = .ok (.aload_n 0, 1) := by decide +kernel
theorem dX11_give_56 : decode cX11_give 56 = .ok (.getfield 25, 3) := by decide +kernel
theorem dX11_give_59 : decode cX11_give 59 = .ok (.getfield 379, 3) := by decide +kernel
theorem dX11_give_62 : decode cX11_give 62 = .ok (.iload_n 1, 1) := by decide +kernel
theorem dX11_give_63 : decode cX11_give 63 = .ok (.iload_n 2, 1) := by decide +kernel
theorem dX11_give_64 : decode cX11_give 64 = .ok (.iastore, 1) := by decide +kernel
theorem dX11_give_65 : decode cX11_give 65 = .ok (.aload_n 0, 1) := by decide +kernel
theorem dX11_give_66 : decode cX11_give 66 = .ok (.invokevirtual 102, 3) := by decide +kernel
theorem dX11_give_69 : decode cX11_give 69 = .ok (.ireturn, 1) := by decide +kernel
theorem dX11_sail_0 : decode cX11_sail 0 = .ok (.iload_n 1, 1) := by decide +kernel
theorem dX11_sail_1 : decode cX11_sail 1 = .ok (.ifCond .lt 10, 3) := by decide +kernel
theorem dX11_sail_4 : decode cX11_sail 4 = .ok (.iload_n 1, 1) := by decide +kernel
theorem dX11_sail_5 : decode cX11_sail 5 = .ok (.sipush 9999, 3) := by decide +kernel
theorem dX11_sail_8 : decode cX11_sail 8 = .ok (.if_icmp .le 9, 3) := by decide +kernel
theorem dX11_sail_11 : decode cX11_sail 11 = .ok (.aload_n 0, 1) := by decide +kernel
theorem dX11_sail_12 : decode cX11_sail 12 = .ok (.iconst 5, 1) := by decide +kernel
theorem dX11_sail_13 : decode cX11_sail 13 = .ok (.invokevirtual 113, 3) := by decide +kernel
theorem dX11_sail_16 : decode cX11_sail 16 = .ok (.ireturn, 1) := by decide +kernel
theorem dX11_sail_17 : decode cX11_sail 17 = .ok (.aload_n 0, 1) := by decide +kernel
theorem dX11_sail_18 : decode cX11_sail 18 = .ok (.getfield 25, 3) := by decide +kernel
theorem dX11_sail_21 : decode cX11_sail 21 = .ok (.getfield 185, 3) := by decide +kernel
theorem dX11_sail_24 : decode cX11_sail 24 = .ok (.astore_n 2, 1) := by decide +kernel
theorem dX11_sail_25 : decode cX11_sail 25 = .ok (.aload_n 2, 1) := by decide +kernel
theorem dX11_sail_26 : decode cX11_sail 26 = .ok (.ifnonnull 10, 3) := by decide +kernel
theorem dX11_sail_29 : decode cX11_sail 29 = .ok (.aload_n 0, 1) := by decide +kernel
theorem dX11_sail_30 : decode cX11_sail 30 = .ok (.bipush 8, 2) := by decide +kernel
theorem dX11_sail_32 : decode cX11_sail 32 = .ok (.invokevirtual 113, 3) := by decide +kernel
theorem dX11_sail_35 : decode cX11_sail 35 = .ok (.ireturn, 1) := by decide +kernel
theorem dX11_sail_36 : decode cX11_sail 36 = .ok (.aload_n 0, 1) := by decide +kernel
